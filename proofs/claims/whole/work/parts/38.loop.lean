/-! the law's loop, and its beginning -/
section XMI
variable {p : Program} {l : Launch} {e : Env} {R : Room} {s : State} {m : MethodId} {args : Array Value} {below : List Frame} {meth : Method} {c : Code} {H : Heap} {locs : List Loc} {cells slots : Nat} {Q : State → Prop}
variable {cc : ByteArray} {pc : Nat} {ls : Array Slot} {rest st0 : List Value} {D : va_G} {A0 A : Nat → Prop} {tys : List (ClassId × FieldType)} {ws : va_W} {H0 : Heap} {mc ms : Nat}
variable {y : MethodName} {bytes : ByteArray} {maxL nL n index : Nat} {wsy : List Cond} {rm : Room} {Ts : List Cond} {own C : String} {b : Addr} {As : List Value} {wc : va_W}
theorem xm_I {S : Type} {pu : S → Prop} {r : S → Option Value} {w1 : S → va_W} {wr : va_W} {X : State → Prop} (SF : CallFix p m c cc nL s args Ts own) (hX : xTrav X) (hM : Met l y wsy rm (xMu D tys X (.ref b :: As) wc H.size) (xQm D pu r wc w1 H.size) mc ms (va_A wc H.size)) (cw : CallB R s args own index y bytes maxL none wsy rm mc ms n ∧ y.name = "<init>" ∧ (Cond.instanceMethod y).before args s = true)
    (hK : va_K D vwCl tys s) (hP : va_P D vwCl ws H) (hD : va_D A0 ws) (hS : va_S A0 H0 H locs) (hA : ∀ q, H0.size ≤ q → A0 q) (hXs : ∀ U : State, s.WarmedH U.vm → U.heap = H → X U)
    (isC isR : List Nat) (hC : isC.map (fun i => ws[i]?) = wc.map some) (hR : isR.map (fun i => ws[i]?) = wr.map some) (hnC : va_nd isC = true) (hnR : va_nd isR = true) (hdis : ∀ i ∈ isR, i ∉ isC)
    (hn : As.length = n) (hsize : ls.size = nL) (hstack : st0 = As.reverse ++ .ref b :: rest) (hW : (rest.map fun v => v.category).sum ≤ 8) (hdg : decode cc pc = .ok (.invokespecial index, 3)) (hc : cells + mc ≤ R.cells ∧ slots + ms ≤ R.slots)
    (kk : ∀ (u : S) (H1 : Heap) (locs1 : List Loc), pu u → va_P D vwCl (wr ++ w1 u) H1 → va_D A0 (wr ++ w1 u) → va_S A0 H0 H1 locs1 → H.size ≤ H1.size → W p l e R s m args below meth c H1 locs1 (cells + mc) (slots + ms) Q (F0 m (pc + 3) ls ((r u).toList ++ rest))) : W p l e R s m args below meth c H locs cells slots Q (F0 m pc ls st0) := by
  subst hstack
  have hPc : va_P D vwCl wc H := hP.sub isC (by
    have h := congrArg (fun l => l.filterMap id) hC
    simpa [List.filterMap_map] using h)
  have hDc := hD.sub isC hnC hC
  exact xm_fin (va_runI SF hM cw ⟨xMu_blind hX _ _ _ _, fun U hU hW => ⟨rfl, by rw [hU], by rw [hU]; exact hPc, va_K.moved hW.alike hK, hDc.weaken (fun _ _ _ _ => trivial), hXs U hW hU⟩⟩ rfl hn hsize rfl (lv_room hW) hdg hc) hP hD hS hA isC isR hC hR hnR hdis kk
end XMI
set_option maxHeartbeats 4000000 in
theorem law_sw {p : Program} {l : Launch} {e : Env} {s : State} {m : MethodId} {below : List Frame} {meth : Method} {c : Code} {Q : State → Prop} {bs Ls : Nat} {xs : Nat → Int32} {D : va_G} {t sa a mb : Nat → Nat} {o : Nat} {j : Nat} (hV : lwEnv p l s m meth c bs Ls xs D t sa) (hj : 4 * j + 4 ≤ Ls) (hn : lwNext p l e s m below meth c Q bs D t a mb o j) {tc rc : Nat} {F T : Nat → Nat} {L : Nat → Int32} {Z : Nat → Bool} {ro : Int32} {E B X R N : Nat → Int32} {th : Int32} {f : Nat → Int64} {d0 : Drawn} (hI : xInv tc rc F T L Z ro E B) (hd0 : s.drawn.sameBut d0 lw_cs) {H : Heap} {locs : List Loc} (hP : va_P D vwCl (LWd t a mb o tc rc F T L Z ro E B X R N th f) H) (hD : va_D (fun q => s.heap.size ≤ q) (LWd t a mb o tc rc F T L Z ro E B X R N th f)) (hS : va_S (fun q => s.heap.size ≤ q) s.heap H locs) {ls : Array Slot} (hl : lv_has ls 9 [(4, .int (nI (4 * j))), (3, .ref o), (2, .ref (mb 0)), (1, .ref (a 0)), (0, .ref bs)]) {k : Nat} (hk : k < 32) : W p l e room_1 (s.setDrawn d0) m #[Value.ref bs] below meth c H locs (20 + 1100 * j) (1000 + 14000 * j) Q (F0 m 39 ls [.int (nI k)]) := by
  have hx := hV.1
  have hb := hV.2.1
  rcases (by omega : k = 0 ∨ k = 1 ∨ k = 2 ∨ k = 3 ∨ k = 4 ∨ k = 5 ∨ k = 6 ∨ k = 7 ∨ k = 8 ∨ k = 9 ∨ k = 10 ∨ k = 11 ∨ k = 12 ∨ k = 13 ∨ k = 14 ∨ k = 15 ∨ k = 16 ∨ 17 ≤ k) with rfl | rfl | rfl | rfl | rfl | rfl | rfl | rfl | rfl | rfl | rfl | rfl | rfl | rfl | rfl | rfl | rfl | hk2
  · refine lv_tableIn (x := nI 0) (off := 81) (tgt := 120) hx hb dL_law_39 (by decide) (by decide) rfl (by decide) ?_
    exact law_turn hV hj hn hI hd0 hP hD hS hl
  · refine lv_tableIn (x := nI 1) (off := 125) (tgt := 164) hx hb dL_law_39 (by decide) (by decide) rfl (by decide) ?_
    exact law_tie hV hj hn hI hd0 hP hD hS hl
  · refine lv_tableIn (x := nI 2) (off := 205) (tgt := 244) hx hb dL_law_39 (by decide) (by decide) rfl (by decide) ?_
    exact law_cut hV hj hn hI hd0 hP hD hS hl
  · refine lv_tableIn (x := nI 3) (off := 273) (tgt := 312) hx hb dL_law_39 (by decide) (by decide) rfl (by decide) ?_
    exact law_knot hV hj hn hI hd0 hP hD hS hl
  · refine lv_tableIn (x := nI 4) (off := 336) (tgt := 375) hx hb dL_law_39 (by decide) (by decide) rfl (by decide) ?_
    exact law_tighten hV hj hn hI hd0 hP hD hS hl
  · refine lv_tableIn (x := nI 5) (off := 349) (tgt := 388) hx hb dL_law_39 (by decide) (by decide) rfl (by decide) ?_
    exact law_told hV hj hn hI hd0 hP hD hS hl
  · refine lv_tableIn (x := nI 6) (off := 417) (tgt := 456) hx hb dL_law_39 (by decide) (by decide) rfl (by decide) ?_
    exact law_about hV hj hn hI hd0 hP hD hS hl
  · refine lv_tableIn (x := nI 7) (off := 485) (tgt := 524) hx hb dL_law_39 (by decide) (by decide) rfl (by decide) ?_
    exact law_count hV hj hn hI hd0 hP hD hS hl
  · refine lv_tableIn (x := nI 8) (off := 541) (tgt := 580) hx hb dL_law_39 (by decide) (by decide) rfl (by decide) ?_
    exact law_holds hV hj hn hI hd0 hP hD hS hl
  · refine lv_tableIn (x := nI 9) (off := 554) (tgt := 593) hx hb dL_law_39 (by decide) (by decide) rfl (by decide) ?_
    exact law_late hV hj hn hI hd0 hP hD hS hl
  · refine lv_tableIn (x := nI 10) (off := 622) (tgt := 661) hx hb dL_law_39 (by decide) (by decide) rfl (by decide) ?_
    exact law_most hV hj hn hI hd0 hP hD hS hl
  · refine lv_tableIn (x := nI 11) (off := 690) (tgt := 729) hx hb dL_law_39 (by decide) (by decide) rfl (by decide) ?_
    exact law_room hV hj hn hI hd0 hP hD hS hl
  · refine lv_tableIn (x := nI 12) (off := 746) (tgt := 785) hx hb dL_law_39 (by decide) (by decide) rfl (by decide) ?_
    exact law_would hV hj hn hI hd0 hP hD hS hl
  · refine lv_tableIn (x := nI 13) (off := 833) (tgt := 872) hx hb dL_law_39 (by decide) (by decide) rfl (by decide) ?_
    exact law_at hV hj hn hI hd0 hP hD hS hl
  · refine lv_tableIn (x := nI 14) (off := 889) (tgt := 928) hx hb dL_law_39 (by decide) (by decide) rfl (by decide) ?_
    exact law_advise hV hj hn hI hd0 hP hD hS hl
  · refine lv_tableIn (x := nI 15) (off := 902) (tgt := 941) hx hb dL_law_39 (by decide) (by decide) rfl (by decide) ?_
    exact law_mean hV hj hn hI hd0 hP hD hS hl
  · refine lv_tableIn (x := nI 16) (off := 943) (tgt := 982) hx hb dL_law_39 (by decide) (by decide) rfl (by decide) ?_
    exact law_digest hV hj hn hI hd0 hP hD hS hl
  · refine lv_tableOut (x := nI k) (tgt := 996) hx hb dL_law_39 (Or.inr (by rw [nI_toInt (by omega)]; omega)) (by decide) ?_
    refine W.widen (k := 20 + 1100 * j + 1100) (n := 1000 + 14000 * j + 14000) (by omega) (by omega) ?_
    exact hn tc rc F T L Z ro E B X R N th f d0 hI hd0 _ _ hP hD hS _ hl
set_option maxHeartbeats 4000000 in
theorem law_loop {p : Program} {l : Launch} {e : Env} {s : State} {m : MethodId} {below : List Frame} {meth : Method} {c : Code} {Q : State → Prop} {bs Ls : Nat} {xs : Nat → Int32} {D : va_G} {t sa a mb : Nat → Nat} {o : Nat} (hV : lwEnv p l s m meth c bs Ls xs D t sa) (hEnd : ∀ (d0 : Drawn), s.drawn.sameBut d0 lw_cs → ∀ (H : Heap) (ls : Array Slot), W p l e room_1 (s.setDrawn d0) m #[Value.ref bs] below meth c H [] 601024 7293034 Q (F0 m 1003 ls [.int 1])) : ∀ (n j : Nat), j + n = 512 →
    ∀ (tc rc : Nat) (F T : Nat → Nat) (L : Nat → Int32) (Z : Nat → Bool) (ro : Int32) (E B X R N : Nat → Int32) (th : Int32) (f : Nat → Int64) (d0 : Drawn), xInv tc rc F T L Z ro E B → s.drawn.sameBut d0 lw_cs → ∀ (H : Heap) (locs : List Loc),
    va_P D vwCl (LWd t a mb o tc rc F T L Z ro E B X R N th f) H → va_D (fun q => s.heap.size ≤ q) (LWd t a mb o tc rc F T L Z ro E B X R N th f) → va_S (fun q => s.heap.size ≤ q) s.heap H locs → ∀ ls : Array Slot, lv_has ls 9 [(4, .int (nI (4 * j))), (3, .ref o), (2, .ref (mb 0)), (1, .ref (a 0)), (0, .ref bs)] →
      W p l e room_1 (s.setDrawn d0) m #[Value.ref bs] below meth c H locs (20 + 1100 * j) (1000 + 14000 * j) Q (F0 m 23 ls []) := by
  obtain ⟨hx, hb, hml, hown, hts0, hXs0, hbl0, hlocks, hK, hXL, hXX, hfl, hLs⟩ := id hV
  have hbA : ¬ (fun q : Nat => s.heap.size ≤ q) bs := Nat.not_le.mpr hbl0
  intro n
  induction n with
  | zero =>
    intro j hjn tc rc F T L Z ro E B X R N th f d0 hI hd0 H locs hP hD hS ls hl
    have hXs : va_X bs Ls xs (s.setDrawn d0) (s.setDrawn d0).heap := hXs0
    have hS9 : va_S (fun q => s.heap.size ≤ q) (s.setDrawn d0).heap H locs := hS
    have hbl : bs < (s.setDrawn d0).heap.size := hbl0
    refine lv_iload hx hb dL_law_23 (lv_at hl 0 rfl) ?_
    refine lv_aload_n hx hb dL_law_25 rfl (lv_at hl 4 rfl) ?_
    refine va_slen hx hb hXs hbl hbA hS9 dL_law_26 ?_
    refine lv_iconst (v := 4) hx hb dL_law_27 (by decide) ?_
    refine lv_isub hx hb dL_law_28 ?_
    refine lv_icmp_gt (tgt := 1002) hx hb dL_law_29 (by decide) (fun _ => ?_) (fun hg => ?_)
    · refine lv_iconst (v := 1) hx hb dL_law_1002 (by decide) ?_
      refine W.widen (k := 601024) (n := 7293034) (by omega) (by omega) ?_
      refine va_forget (fun q hq => hS.2.2 q hq) ?_
      exact hEnd d0 hd0 H ls
    · exact absurd (four_le hLs (by omega) hg) (by omega)
  | succ n ih =>
    intro j hjn tc rc F T L Z ro E B X R N th f d0 hI hd0 H locs hP hD hS ls hl
    have hXs : va_X bs Ls xs (s.setDrawn d0) (s.setDrawn d0).heap := hXs0
    have hS9 : va_S (fun q => s.heap.size ≤ q) (s.setDrawn d0).heap H locs := hS
    have hbl : bs < (s.setDrawn d0).heap.size := hbl0
    refine lv_iload hx hb dL_law_23 (lv_at hl 0 rfl) ?_
    refine lv_aload_n hx hb dL_law_25 rfl (lv_at hl 4 rfl) ?_
    refine va_slen hx hb hXs hbl hbA hS9 dL_law_26 ?_
    refine lv_iconst (v := 4) hx hb dL_law_27 (by decide) ?_
    refine lv_isub hx hb dL_law_28 ?_
    refine lv_icmp_gt (tgt := 1002) hx hb dL_law_29 (by decide) (fun _ => ?_) (fun hg => ?_)
    · refine lv_iconst (v := 1) hx hb dL_law_1002 (by decide) ?_
      refine W.widen (k := 601024) (n := 7293034) (by omega) (by omega) ?_
      refine va_forget (fun q hq => hS.2.2 q hq) ?_
      exact hEnd d0 hd0 H ls
    · have hj := four_le hLs (by omega : j ≤ 512) hg
      refine lv_aload_n hx hb dL_law_32 rfl (lv_at hl 4 rfl) ?_
      refine lv_iload hx hb dL_law_33 (lv_at hl 0 rfl) ?_
      refine va_sld hx hb hXs hbl hbA hS9 (vp_in_nI (show 4 * j < Ls by omega) (by omega)) dL_law_35 ?_
      refine lv_bipush (v := 31) hx hb dL_law_36 (by decide) ?_
      refine lv_iand hx hb dL_law_38 ?_
      obtain ⟨k, hk, ek⟩ := and31 (xs (nI (4 * j)).toNatClampNeg)
      refine x_top ek ?_
      refine law_sw (xs := xs) (sa := sa) hV hj ?_ hI hd0 hP hD hS hl hk
      intro tc1 rc1 F1 T1 L1 Z1 ro1 E1 B1 X1 R1 N1 th1 f1 d1 hI1 hd1 H1 locs1 hP1 hD1 hS1 ls1 hl1
      refine lv_iinc (v := nI (4 * (j + 1))) (lv' := [(4, .int (nI (4 * (j + 1)))), (3, .ref o), (2, .ref (mb 0)), (1, .ref (a 0)), (0, .ref bs)]) hx hb dL_law_996 hl1 (k := 0) rfl (x_inc4 _) (by decide) rfl (fun ls2 hl2 => ?_)
      refine lv_goto (tgt := 23) hx hb dL_law_999 (by decide) ?_
      refine W.widen (k := 20 + 1100 * (j + 1)) (n := 1000 + 14000 * (j + 1)) (by omega) (by omega) ?_
      exact ih (j + 1) (by omega) tc1 rc1 F1 T1 L1 Z1 ro1 E1 B1 X1 R1 N1 th1 f1 d1 hI1 hd1 H1 locs1 hP1 hD1 hS1 ls2 hl2
