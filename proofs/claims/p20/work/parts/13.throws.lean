/-! throwing: what travels with the tables, contracts, calls -/
abbrev eIO : String := "java/lang/IndexOutOfBoundsException"
abbrev eIA : String := "java/lang/IllegalArgumentException"
abbrev eIS : String := "java/lang/IllegalStateException"
/-- 1, 2, 3: which exception -/
def xE (k : Nat) : String := if k = 1 then eIO else if k = 2 then eIA else eIS
def xSi : Nat → Nat × String
  | 0 => (47, "there are 12 turns")
  | 1 => (66, "30 ropes were tied")
  | 2 => (109, "the end is not 0 to 9999")
  | 3 => (115, "no timetable is over by then")
  | 4 => (127, "the rope is not tied")
  | 5 => (161, "there is no such turn")
  | 6 => (161, "there is no such turn")
  | 7 => (163, "there is no such rope")
  | 8 => (165, "there is nothing of this number")
  | 9 => (167, "both turns are the same")
  | 10 => (169, "the length is not -99 to 99")
  | _ => (171, "there is no timetable")
def xTw : Nat → Cond
  | 0 => .castable eIO eIO
  | 1 => .castable eIA eIA
  | 2 => .castable eIS eIS
  | 3 => .declares ⟨"java/lang/RuntimeException", "<init>", "(Ljava/lang/String;)V"⟩
  | 4 => .declares ⟨"java/lang/Exception", "<init>", "(Ljava/lang/String;)V"⟩
  | _ => .declares ⟨"java/lang/Throwable", "<init>", "(Ljava/lang/String;)V"⟩
def xTh (N0 : Nat) (sa : Nat → Nat) (U : State) : Prop :=
  vx_Zq Bundle.tN "UNASSIGNED_STACK" Bundle.steD (fun q => N0 ≤ q) U U.heap ∧ vx_Zq Bundle.tN "SUPPRESSED_SENTINEL" Bundle.listD (fun q => N0 ≤ q) U U.heap ∧
  (∀ k, va_Nw (xTw k) U) ∧ ∀ k, vk_R RX0 (xSi k).1 (xSi k).2 (sa k) U
theorem xTw_tab : ∀ k, (xTw k).onTables = true
  | 0 => rfl | 1 => rfl | 2 => rfl | 3 => rfl | 4 => rfl | _ + 5 => rfl
theorem xTw_warm {s U : State} (hW : s.WarmedH U.vm) : ∀ k, va_Nw (xTw k) s → va_Nw (xTw k) U
  | 0, h => va_Nw.warmC hW h | 1, h => va_Nw.warmC hW h | 2, h => va_Nw.warmC hW h | 3, h => va_Nw.warmD hW h | 4, h => va_Nw.warmD hW h | _ + 5, h => va_Nw.warmD hW h
theorem xTh.trav (N0 : Nat) (sa : Nat → Nat) : xTrav (xTh N0 sa) := by
  intro u U hv hh h
  have ha : u.vm.Alike U.vm := by rw [hv]; exact Vm.Alike.refl _
  refine ⟨?_, ?_, fun k => va_Nw.same (xTw_tab k) hv.symm (h.2.2.1 k), fun k => vk_R.same hv (h.2.2.2 k)⟩
  · rw [hh]; exact vx_Zq.moved ha h.1
  · rw [hh]; exact vx_Zq.moved ha h.2.1
theorem xTh.warm {N0 : Nat} {sa : Nat → Nat} {s U : State} (hW : s.WarmedH U.vm) (hk : ∀ q : Nat, q < s.heap.size → ¬ N0 ≤ q → U.heap[q]? = s.heap[q]?) (h : xTh N0 sa s) : xTh N0 sa U :=
  ⟨vx_Zq.moved hW.alike (h.1.kept hk), vx_Zq.moved hW.alike (h.2.1.kept hk), fun k => xTw_warm hW k (h.2.2.1 k), fun k => vk_R.warm hW (h.2.2.2 k)⟩
def xRt (D : va_G) (tys : List (ClassId × FieldType)) (N0 : Nat) (sa : Nat → Nat) (av : List Value) (wc : va_W) : Array Value → State → Prop := va_Pc av (fun U => va_P D vwCl wc U.heap ∧ va_K D vwCl tys U ∧ xTh N0 sa U)
theorem xRt_blind {D : va_G} (tys : List (ClassId × FieldType)) (N0 : Nat) (sa : Nat → Nat) (av : List Value) (wc : va_W) : FrameBlind (xRt D tys N0 sa av wc) := fun aa U g mk q => ⟨q.1, q.2.1, va_K.moved (u := U) (U := U.calling g mk aa) (Vm.Alike.refl U.vm) q.2.2.1, xTh.trav N0 sa U (U.calling g mk aa) rfl rfl q.2.2.2⟩
section XT
variable {p : Program} {l : Launch} {e : Env} {R : Room} {s : State} {m : MethodId} {args : Array Value} {below : List Frame} {meth : Method} {c : Code} {H : Heap} {locs : List Loc} {cells slots : Nat} {Q : State → Prop}
variable {cc : ByteArray} {pc : Nat} {ls : Array Slot} {rest st0 : List Value} {D : va_G} {cl : List vw_C} {A0 A : Nat → Prop} {a : Nat} {tys : List (ClassId × FieldType)} {ws : va_W} {H0 : Heap} {N0 : Nat} {sa : Nat → Nat} {mc ms : Nat} {bad : String → Prop}
theorem xt_fin {r : Option Value} {ok : Prop} {aa : Array Value} (hr : vx_Run p l e R s m args below meth c H locs cells slots mc ms (F0 m pc ls st0) rest (xQt r ok aa) (xXt bad) (fun _ => False))
    (kx : ∀ (E : String) (ce : Cell) (q9 : Addr) (H1 : Heap), bad E → H.size ≤ H1.size → (∀ q : Nat, q < H.size → H1[q]? = H[q]?) → H1[q9]? = some ce → ce.vm = .none → s.vm.findClass E = some ce.cls → vx_W p l e R s m args below meth c H1 locs (cells + mc) (slots + ms) Q (F0 m pc ls rest) q9)
    (kk : ok → W p l e R s m args below meth c H locs (cells + mc) (slots + ms) Q (F0 m (pc + 3) ls (r.toList ++ rest))) : W p l e R s m args below meth c H locs cells slots Q (F0 m pc ls st0) := by
  intro T hT X
  rcases hr T hT X with ⟨v, st₀, t, T', L, h0, X', hL, e1, e2, ⟨hok, hv, hh⟩, st⟩ | ⟨q, st₀, t, T', L, E, ce, h0, X', hL, e1, e2, ⟨hb, hz, hk⟩, hce, hcv, hcl, st⟩
  · cases hv
    obtain ⟨t2, a1, b1⟩ := kk hok T' (by rw [e1, hh, h0]) (Stand.forget X' (fun q h => (hL q h).elim))
    exact ⟨t2, st t2 a1, b1⟩
  · rw [h0] at hz hk
    obtain ⟨t2, a1, b1⟩ := kx E ce q T'.heap hb (by rw [e1]; exact hz) (fun q hq => by rw [e1]; exact hk q hq (fun z => z)) (by rw [e1]; exact hce) hcv hcl T' rfl (Stand.forget X' (fun q h => (hL q h).elim))
    exact ⟨t2, st.trans a1, b1⟩
/-- it goes on to the caller -/
theorem xt_out {Qc : Array Value → State → Outcome → State → Prop} {free : Addr → Prop} {E : String} {ce : Cell} {q9 : Addr} (hte : ∀ x ∈ c.exceptionTable.toList, False) (hlocks : meth.locks = false) (hb : bad E) (hz : s.heap.size ≤ H.size) (hk : ∀ q : Nat, q < s.heap.size → H[q]? = s.heap[q]?) (hce : H[q9]? = some ce) (hv : ce.vm = .none) (hcl : s.vm.findClass E = some ce.cls) (hf : ∀ z ∈ locs, free z.base) (hc : cells ≤ mc) (hs : slots ≤ ms) :
    vx_W p l e R s m args below meth c H locs cells slots (vx_MQ below Qc (xXt bad) args s mc ms free) (F0 m pc ls rest) q9 :=
  vx_out (fun x hx => (hte x hx).elim) hlocks hce hv hcl (fun t ht _ => ⟨hb, by rw [ht]; exact hz, fun q hq _ => by rw [ht]; exact hk q hq⟩) hf hc hs
/-- throw new E("text") -/
theorem xt_throw {Qc : Array Value → State → Outcome → State → Prop} {free : Addr → Prop} {E text : String} {ik is ic q : Nat} (hexec : p.tables.exec = Jvm.exec) (hb : c.code = cc) (hl : l.stackTraces = false) (hown : s.vm.findClass RX0 = some m.cls) (hfit : Bundle.fit E = true)
    (hk : (Cond.classLink RX0 ik E).before args s = true) (hini : (Cond.initialized E).before args s = true) (hT : xTh N0 sa s) (hstr : vk_R RX0 is text q s) (hat : ∀ w ∈ vx_atS RX0 ic E ["java/lang/RuntimeException", "java/lang/Exception"], w.before args s = true)
    (hgood : ∀ w ∈ Cond.classLink RX0 ik E :: Cond.initialized E :: vx_atS RX0 ic E ["java/lang/RuntimeException", "java/lang/Exception"], vx_ot w = true) (hsize : ls.size = c.maxLocals)
    (d0 : decode cc pc = .ok (.new ik, 3)) (d3 : decode cc (pc + 3) = .ok (.dup, 1)) (d4 : decode cc (pc + 4) = .ok (.ldc is, 2)) (d6 : decode cc (pc + 6) = .ok (.invokespecial ic, 3)) (d9 : decode cc (pc + 9) = .ok (.athrow, 1))
    (hte : ∀ x ∈ c.exceptionTable.toList, False) (hRframes : 5 < R.frames) (hRlocals : (rest.map fun v => v.category).sum + 82 ≤ R.locals) (hRcells : cells + 1 ≤ R.cells) (hRslots : slots + 6 ≤ R.slots) (hlocks : meth.locks = false) (hbad : bad E) (hf : ∀ z ∈ locs, free z.base) (hc : cells + 1 ≤ mc) (hs : slots + 6 ≤ ms) (hloc : locs = []) :
    W p l e R s m args below meth c s.heap locs cells slots (vx_MQ below Qc (xXt bad) args s mc ms free) (F0 m pc ls rest) := by
  subst hloc
  exact vx_throwS (own := RX0) (names := ["java/lang/RuntimeException", "java/lang/Exception"]) (A := fun q => N0 ≤ q) hexec hb hl hown hfit (by decide +kernel) hk hini hstr hat hgood hT.1 hT.2.1 va_S.rf hsize d0 d3 d4 d6 d9 (fun x hx => (hte x hx).elim) hRframes hRlocals hRcells hRslots hlocks (fun t _ hz hk => ⟨hbad, hz, fun q hq _ => hk q hq⟩) hf hc hs
section Calls
variable {y : MethodName} {bytes : ByteArray} {maxL nL n index : Nat} {ret : Option FieldType} {wsy : List Cond} {rm : Room} {Ts : List Cond} {own C : String} {b : Addr} {As : List Value} {wc : va_W}
theorem xt_V {r : Option Value} {ok : Prop} (S : CallFix p m c cc nL s args Ts own) (hM : vx_Met l y wsy rm (xRt D tys N0 sa (.ref b :: As) wc) (xQt r ok) (xXt bad) mc ms (fun _ => False)) (cw : CallW R s args own C index y bytes maxL ret wsy rm mc ms n)
    (hK : va_K D vwCl tys s) (hP : va_P D vwCl ws H) (hXs : ∀ U : State, s.WarmedH U.vm → U.heap = H → xTh N0 sa U) (hrec : ∃ cellB : Cell, H[b]? = some cellB ∧ cellB.vm.isStatics = false ∧ s.vm.findClass C = some cellB.cls) (is : List Nat) (hs : is.filterMap (fun i => ws[i]?) = wc)
    (hn : As.length = n) (hsize : ls.size = nL) (hstack : st0 = As.reverse ++ .ref b :: rest) (hW : (rest.map fun v => v.category).sum ≤ 8) (hdg : decode cc pc = .ok (.invokevirtual index, 3)) (hc : cells + mc ≤ R.cells ∧ slots + ms ≤ R.slots)
    (kx : ∀ (E : String) (ce : Cell) (q9 : Addr) (H1 : Heap), bad E → H.size ≤ H1.size → (∀ q : Nat, q < H.size → H1[q]? = H[q]?) → H1[q9]? = some ce → ce.vm = .none → s.vm.findClass E = some ce.cls → vx_W p l e R s m args below meth c H1 locs (cells + mc) (slots + ms) Q (F0 m pc ls rest) q9)
    (kk : ok → W p l e R s m args below meth c H locs (cells + mc) (slots + ms) Q (F0 m (pc + 3) ls (r.toList ++ rest))) : W p l e R s m args below meth c H locs cells slots Q (F0 m pc ls st0) := by
  subst hstack
  have hPc := hP.sub (ws' := wc) is hs
  exact xt_fin (vx_runV S hM cw ⟨xRt_blind _ _ _ _ _, hrec, fun U hU hW => ⟨rfl, by rw [hU]; exact hPc, va_K.moved hW.alike hK, hXs U hW hU⟩⟩ rfl hn hsize rfl (lv_room hW) hdg hc) kx kk
theorem xt_S {r : Option Value} {ok : Prop} (S : CallFix p m c cc nL s args Ts own) (hM : vx_Met l y wsy rm (xRt D tys N0 sa As wc) (xQt r ok) (xXt bad) mc ms (fun _ => False)) (cw : CallB R s args own index y bytes maxL ret wsy rm mc ms n ∧ (Cond.static y).before args s = true)
    (hK : va_K D vwCl tys s) (hP : va_P D vwCl ws H) (hXs : ∀ U : State, s.WarmedH U.vm → U.heap = H → xTh N0 sa U) (is : List Nat) (hs : is.filterMap (fun i => ws[i]?) = wc)
    (hn : As.length = n) (hsize : ls.size = nL) (hstack : st0 = As.reverse ++ rest) (hW : (rest.map fun v => v.category).sum ≤ 8) (hdg : decode cc pc = .ok (.invokestatic index, 3)) (hc : cells + mc ≤ R.cells ∧ slots + ms ≤ R.slots)
    (kx : ∀ (E : String) (ce : Cell) (q9 : Addr) (H1 : Heap), bad E → H.size ≤ H1.size → (∀ q : Nat, q < H.size → H1[q]? = H[q]?) → H1[q9]? = some ce → ce.vm = .none → s.vm.findClass E = some ce.cls → vx_W p l e R s m args below meth c H1 locs (cells + mc) (slots + ms) Q (F0 m pc ls rest) q9)
    (kk : ok → W p l e R s m args below meth c H locs (cells + mc) (slots + ms) Q (F0 m (pc + 3) ls (r.toList ++ rest))) : W p l e R s m args below meth c H locs cells slots Q (F0 m pc ls st0) := by
  subst hstack
  have hPc := hP.sub (ws' := wc) is hs
  exact xt_fin (vx_runS S hM cw ⟨xRt_blind _ _ _ _ _, fun U hU hW => ⟨rfl, by rw [hU]; exact hPc, va_K.moved hW.alike hK, hXs U hW hU⟩⟩ rfl hn hsize rfl (lv_room hW) hdg hc) kx kk
/-- a changing method that may throw -/
theorem xmt_V {S : Type} {pu : S → Prop} {r : S → Option Value} {w1 : S → va_W} {wr : va_W} {X : State → Prop} (SF : CallFix p m c cc nL s args Ts own) (hX : xTrav X) (hM : vx_Met l y wsy rm (xMu D tys X (.ref b :: As) wc H.size) (xQm D pu r wc w1 H.size) (xXt bad) mc ms (va_A wc H.size)) (cw : CallW R s args own C index y bytes maxL ret wsy rm mc ms n)
    (hK : va_K D vwCl tys s) (hP : va_P D vwCl ws H) (hD : va_D A0 ws) (hS : va_S A0 H0 H locs) (hA : ∀ q, H0.size ≤ q → A0 q) (hXs : ∀ U : State, s.WarmedH U.vm → U.heap = H → X U) (hrec : ∃ cellB : Cell, H[b]? = some cellB ∧ cellB.vm.isStatics = false ∧ s.vm.findClass C = some cellB.cls)
    (isC isR : List Nat) (hC : isC.map (fun i => ws[i]?) = wc.map some) (hR : isR.map (fun i => ws[i]?) = wr.map some) (hnC : va_nd isC = true) (hnR : va_nd isR = true) (hdis : ∀ i ∈ isR, i ∉ isC)
    (hn : As.length = n) (hsize : ls.size = nL) (hstack : st0 = As.reverse ++ .ref b :: rest) (hW : (rest.map fun v => v.category).sum ≤ 8) (hdg : decode cc pc = .ok (.invokevirtual index, 3)) (hc : cells + mc ≤ R.cells ∧ slots + ms ≤ R.slots)
    (kx : ∀ (E : String) (ce : Cell) (q9 : Addr) (H1 : Heap) (locs1 : List Loc), bad E → H.size ≤ H1.size → (∀ q : Nat, q < H.size → H1[q]? = H[q]?) → va_S A0 H0 H1 locs1 → H1[q9]? = some ce → ce.vm = .none → s.vm.findClass E = some ce.cls → vx_W p l e R s m args below meth c H1 locs1 (cells + mc) (slots + ms) Q (F0 m pc ls rest) q9)
    (kk : ∀ (u : S) (H1 : Heap) (locs1 : List Loc), pu u → va_P D vwCl (wr ++ w1 u) H1 → va_D A0 (wr ++ w1 u) → va_S A0 H0 H1 locs1 → H.size ≤ H1.size → W p l e R s m args below meth c H1 locs1 (cells + mc) (slots + ms) Q (F0 m (pc + 3) ls ((r u).toList ++ rest))) : W p l e R s m args below meth c H locs cells slots Q (F0 m pc ls st0) := by
  subst hstack
  have hPc : va_P D vwCl wc H := hP.sub isC (by
    have h := congrArg (fun l => l.filterMap id) hC
    simpa [List.filterMap_map] using h)
  have hDc := hD.sub isC hnC hC
  have hF := va_free (wc := wc) hD hS hA isC hC
  have hr := vx_runV (e := e) (below := below) (meth := meth) (locs := locs) (cells := cells) (slots := slots) (g := F0 m pc ls (As.reverse ++ .ref b :: rest)) SF hM cw ⟨xMu_blind hX _ _ _ _, hrec, fun U hU hW => ⟨rfl, by rw [hU], by rw [hU]; exact hPc, va_K.moved hW.alike hK, hDc.weaken (fun _ _ _ _ => trivial), hXs U hW hU⟩⟩ rfl hn hsize rfl (lv_room hW) hdg hc
  intro T hT Xs
  rcases hr T hT Xs with ⟨v, st₀, t, T', L, h0, X', hL, e1, e2, ⟨u, hu, hv, hP1, hD1, hz, hk⟩, st⟩ | ⟨q, st₀, t, T', L, E, ce, h0, X', hL, e1, e2, ⟨hb, hz, hk⟩, hce, hcv, hcl, st⟩
  · cases hv
    rw [h0] at hz hk
    obtain ⟨hP2, hD2⟩ := va_join (wr := wr) (w1 := w1 u) hP hD isC isR hC hR hnR hdis (fun q h1 h2 => hk q h1 h2) hF hP1 hD1
    obtain ⟨t2, a1, b1⟩ := kk u T'.heap (locs ++ L) hu (by rw [e1]; exact hP2) hD2
      ⟨Nat.le_trans hS.1 (by rw [e1]; exact hz), fun q h1 h2 => by rw [e1, hk q (Nat.lt_of_lt_of_le h1 hS.1) (fun z => h2 (hF q z))]; exact hS.2.1 q h1 h2, fun q hq => by
        rcases List.mem_append.mp hq with h | h
        · exact hS.2.2 q h
        · exact hF _ (hL q h)⟩ (by rw [e1]; exact hz) T' rfl X'
    exact ⟨t2, st t2 a1, b1⟩
  · rw [h0] at hz hk
    obtain ⟨t2, a1, b1⟩ := kx E ce q T'.heap (locs ++ L) hb (by rw [e1]; exact hz) (fun q hq => by rw [e1]; exact hk q hq (fun z => z))
      ⟨Nat.le_trans hS.1 (by rw [e1]; exact hz), fun q h1 h2 => by rw [e1, hk q (Nat.lt_of_lt_of_le h1 hS.1) (fun z => z)]; exact hS.2.1 q h1 h2, fun q hq => by
        rcases List.mem_append.mp hq with h | h
        · exact hS.2.2 q h
        · exact hF _ (hL q h)⟩ (by rw [e1]; exact hce) hcv hcl T' rfl X'
    exact ⟨t2, st.trans a1, b1⟩
end Calls
end XT
section XTE
variable {p : Program} {l : Launch} {e : Env} {R : Room} {s : State} {m : MethodId} {args : Array Value} {below : List Frame} {meth : Method} {c : Code} {H : Heap} {locs : List Loc} {cells slots : Nat} {Q : State → Prop}
variable {cc : ByteArray} {pc : Nat} {ls : Array Slot} {rest st0 : List Value} {XC : String → State → State → Prop} {ok : Prop} {free : Addr → Prop} {mc ms : Nat}
theorem xt_iret {r : Int32} (hexec : p.tables.exec = Jvm.exec) (hb : c.code = cc) (hr : meth.sig.returnType = some .int) (hlocks : meth.locks = false) (hok : ok) {v : Int32} (hv : v = r) (hdg : decode cc pc = .ok (.ireturn, 1)) : W p l e R s m args below meth c s.heap [] mc ms (vx_MQ below (xQt (some (.int r)) ok) XC args s mc ms free) (F0 m pc ls [.int v]) := by
  subst hv
  exact vx_ret (W.iret hexec hb hr (fun t ht _ => ⟨hok, rfl, ht⟩) (fun _ h => nomatch h) hdg hlocks)
theorem xt_zret {b : Bool} (hexec : p.tables.exec = Jvm.exec) (hb : c.code = cc) (hr : meth.sig.returnType = some .boolean) (hlocks : meth.locks = false) (hok : ok) {v : Int32} (hv : v = bI b) (hdg : decode cc pc = .ok (.ireturn, 1)) : W p l e R s m args below meth c s.heap [] mc ms (vx_MQ below (xQt (some (.int (bI b))) ok) XC args s mc ms free) (F0 m pc ls [.int v]) := by
  subst hv
  exact vx_ret (W.zret hexec hb hr (x_narB b) (fun t ht _ => ⟨hok, rfl, ht⟩) (fun _ h => nomatch h) hdg hlocks)
theorem xt_vret (hexec : p.tables.exec = Jvm.exec) (hb : c.code = cc) (hr : meth.sig.returnType = none) (hlocks : meth.locks = false) (hok : ok) (hdg : decode cc pc = .ok (.return_, 1)) : W p l e R s m args below meth c s.heap [] mc ms (vx_MQ below (xQt none ok) XC args s mc ms free) (F0 m pc ls []) :=
  vx_ret (W.vret hexec hb hr (fun t ht _ => ⟨hok, rfl, ht⟩) (fun _ h => nomatch h) hdg hlocks)
end XTE
/-! the words of the three throws -/
theorem xgd_49 : ∀ w ∈ Cond.classLink RX0 45 eIS :: Cond.initialized eIS :: vx_atS RX0 49 eIS ["java/lang/RuntimeException", "java/lang/Exception"], vx_ot w = true := by decide +kernel
theorem xgd_136 : ∀ w ∈ Cond.classLink RX0 132 eIO :: Cond.initialized eIO :: vx_atS RX0 136 eIO ["java/lang/RuntimeException", "java/lang/Exception"], vx_ot w = true := by decide +kernel
theorem xgd_111 : ∀ w ∈ Cond.classLink RX0 107 eIA :: Cond.initialized eIA :: vx_atS RX0 111 eIA ["java/lang/RuntimeException", "java/lang/Exception"], vx_ot w = true := by decide +kernel
theorem xat_49 {N0 : Nat} {sa : Nat → Nat} {args : Array Value} {s : State} (hg : ∀ w ∈ (vx_atS RX0 49 eIS ["java/lang/RuntimeException", "java/lang/Exception"]).filter goodWord, w.before args s = true) (hT : xTh N0 sa s) : ∀ w ∈ vx_atS RX0 49 eIS ["java/lang/RuntimeException", "java/lang/Exception"], w.before args s = true :=
  vx_hat (B := [xTw 2, xTw 3, xTw 4, xTw 5]) hg (by decide +kernel) (vx_c (va_Nw.use rfl (hT.2.2.1 2)) (vx_c (va_Nw.use rfl (hT.2.2.1 3)) (vx_c (va_Nw.use rfl (hT.2.2.1 4)) (vx_c (va_Nw.use rfl (hT.2.2.1 5)) vx_n))))
theorem xat_136 {N0 : Nat} {sa : Nat → Nat} {args : Array Value} {s : State} (hg : ∀ w ∈ (vx_atS RX0 136 eIO ["java/lang/RuntimeException", "java/lang/Exception"]).filter goodWord, w.before args s = true) (hT : xTh N0 sa s) : ∀ w ∈ vx_atS RX0 136 eIO ["java/lang/RuntimeException", "java/lang/Exception"], w.before args s = true :=
  vx_hat (B := [xTw 0, xTw 3, xTw 4, xTw 5]) hg (by decide +kernel) (vx_c (va_Nw.use rfl (hT.2.2.1 0)) (vx_c (va_Nw.use rfl (hT.2.2.1 3)) (vx_c (va_Nw.use rfl (hT.2.2.1 4)) (vx_c (va_Nw.use rfl (hT.2.2.1 5)) vx_n))))
theorem xat_111 {N0 : Nat} {sa : Nat → Nat} {args : Array Value} {s : State} (hg : ∀ w ∈ (vx_atS RX0 111 eIA ["java/lang/RuntimeException", "java/lang/Exception"]).filter goodWord, w.before args s = true) (hT : xTh N0 sa s) : ∀ w ∈ vx_atS RX0 111 eIA ["java/lang/RuntimeException", "java/lang/Exception"], w.before args s = true :=
  vx_hat (B := [xTw 1, xTw 3, xTw 4, xTw 5]) hg (by decide +kernel) (vx_c (va_Nw.use rfl (hT.2.2.1 1)) (vx_c (va_Nw.use rfl (hT.2.2.1 3)) (vx_c (va_Nw.use rfl (hT.2.2.1 4)) (vx_c (va_Nw.use rfl (hT.2.2.1 5)) vx_n))))
