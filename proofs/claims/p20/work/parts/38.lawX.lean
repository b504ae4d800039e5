/-! the law's helpers: what they know, what they choose -/
def xLw (N0 : Nat) (sa : Nat → Nat) (bs Ls : Nat) (xs : Nat → Int32) (U : State) : Prop :=
  xTh N0 sa U ∧ xAo U ∧ va_Nw (.methodLinkNest "RopeTimesLaw" 55 yX1_init "RopeTimesLaw") U ∧ va_X bs Ls xs U U.heap ∧ bs < N0 ∧ bs < U.heap.size ∧ Ls ≤ 260
theorem xLw.trav (N0 : Nat) (sa : Nat → Nat) (bs Ls : Nat) (xs : Nat → Int32) : xTrav (xLw N0 sa bs Ls xs) := fun u U hv hh h => by
  have ha : u.vm.Alike U.vm := by rw [hv]; exact Vm.Alike.refl _
  refine ⟨xTh.trav N0 sa u U hv hh h.1, xAo.trav u U hv hh h.2.1, va_Nw.same rfl hv.symm h.2.2.1, ?_, h.2.2.2.2.1, by rw [hh]; exact h.2.2.2.2.2.1, h.2.2.2.2.2.2⟩
  rw [hh]
  exact va_X.moved ha h.2.2.2.1
theorem xLw.warm {N0 : Nat} {sa : Nat → Nat} {bs Ls : Nat} {xs : Nat → Int32} {s U : State} (hW : s.WarmedH U.vm) (hz : s.heap.size ≤ U.heap.size) (hk : ∀ q : Nat, q < s.heap.size → ¬ N0 ≤ q → U.heap[q]? = s.heap[q]?) (h : xLw N0 sa bs Ls xs s) : xLw N0 sa bs Ls xs U :=
  ⟨xTh.warm hW hk h.1, xAo.moved h.2.1 hW, va_Nw.warmM hW h.2.2.1, va_X.moved hW.alike (va_X.kept h.2.2.2.1 (hk bs h.2.2.2.2.2.1 (Nat.not_le.mpr h.2.2.2.2.1))), h.2.2.2.2.1, Nat.lt_of_lt_of_le h.2.2.2.2.2.1 hz, h.2.2.2.2.2.2⟩
theorem and_big (x : Int32) : ∃ j : Nat, j < 2147483648 ∧ x &&& 2147483647 = nI j := by
  have h : (x &&& 2147483647).toUInt32 = x.toUInt32 &&& 2147483647 := rfl
  have hlt : (x &&& 2147483647).toUInt32.toNat < 2147483648 := by
    rw [h, UInt32.toNat_and]
    exact Nat.lt_of_le_of_lt Nat.and_le_right (by decide)
  have e : (x &&& 2147483647).toUInt32 = UInt32.ofNat (x &&& 2147483647).toUInt32.toNat := UInt32.ofNat_toNat.symm
  exact ⟨_, hlt, congrArg Int32.ofUInt32 e⟩
def blw (x : Int32) (n : Nat) : Nat := (x &&& 2147483647).toNatClampNeg % n
theorem blw_lt (x : Int32) {n : Nat} (h : 0 < n) : blw x n < n := Nat.mod_lt _ h
theorem blw_eq (x : Int32) {n : Nat} (h : 0 < n) (h2 : n < 2147483648) : (x &&& 2147483647) - (x &&& 2147483647) / nI n * nI n = nI (blw x n) := by
  obtain ⟨j, hj, e⟩ := and_big x
  unfold blw
  rw [e, nI_clamp hj]
  exact pk_rem hj h h2
theorem nI_subn {a k : Nat} (h : k ≤ a) (h2 : a < 2147483648) : nI a - nI k = nI (a - k) := by
  rw [i_eq, i_sub (by rw [nI_toInt h2, nI_toInt (by omega)]; omega) (by rw [nI_toInt h2, nI_toInt (by omega)]; omega), nI_toInt h2, nI_toInt (by omega), nI_toInt (by omega)]
  omega
theorem other_turn {a b n : Nat} (ha : a < n) (hb : b < n - 1) (hn : n < 1000) : ∃ c, c < n ∧ ¬ a = c ∧ nI (a + 1 + b) - nI (a + 1 + b) / nI n * nI n = nI c := by
  refine ⟨(a + 1 + b) % n, Nat.mod_lt _ (by omega), ?_, pk_rem (by omega) (by omega) (by omega)⟩
  by_cases h : a + 1 + b < n
  · rw [Nat.mod_eq_of_lt h]; omega
  · rw [Nat.mod_eq_sub_mod (by omega), Nat.mod_eq_of_lt (by omega)]; omega
theorem w_ok {b k : Nat} (hb : b < 120) (hk : k ≤ 40) (h : ¬ 99 < nI b - nI k) : lenB (nI b - nI k) = true := by
  have e99 : (99 : Int32).toInt = 99 := by decide
  have hs : (nI b - nI k).toInt = (b : Int) - k := by
    rw [i_sub (by rw [nI_toInt (by omega), nI_toInt (by omega)]; omega) (by rw [nI_toInt (by omega), nI_toInt (by omega)]; omega), nI_toInt (by omega), nI_toInt (by omega)]
  rw [i_lt, e99, hs] at h
  simp only [lenB, Bool.and_eq_true, Bool.not_eq_true', decide_eq_false_iff_not, i_lt, i_m99, e99, hs]
  omega
theorem kTurn_ok {tc : Nat} (h : tc < 12) : kTurn tc = 0 := if_pos h
theorem inB_ok {k n : Nat} (h : k < n) (hn : n < 2147483648) : inB (nI k) n = true := by
  rw [inB_nI (by omega) hn, decide_eq_true h]
theorem kTie_ok {tc rc a b : Nat} {w : Int32} (ha : a < tc) (hb : b < tc) (hab : ¬ a = b) (hw : lenB w = true) (hr : rc < 30) (htc : tc ≤ 12) : kTie tc rc (nI a) (nI b) w = 0 := by
  unfold kTie
  rw [if_pos (inB_ok ha (by omega)), if_pos (inB_ok hb (by omega)), if_neg (fun z => hab ((nI_eq (by omega) (by omega)).mp z)), if_pos hw, if_pos hr]
theorem kCut_ok {rc r : Nat} {w : Int32} (hr : r < rc) (hw : lenB w = true) (hrc : rc ≤ 30) : kCut rc (nI r) w = 0 := by
  unfold kCut
  rw [if_pos (inB_ok hr (by omega)), if_pos hw]
theorem kIn_ok {n k : Nat} (h : k < n) (hn : n < 2147483648) : kIn n (nI k) = 0 := by
  unfold kIn
  rw [if_pos (inB_ok h hn)]
theorem kIn2_ok {n n2 k k2 : Nat} (h : k < n) (h2 : k2 < n2) (hn : n < 2147483648) (hn2 : n2 < 2147483648) : kIn2 n n2 (nI k) (nI k2) = 0 := by
  unfold kIn2
  rw [if_pos (inB_ok h hn), if_pos (inB_ok h2 hn2)]
theorem kMost_ok {tc a b : Nat} {ro : Int32} (ha : a < tc) (hb : b < tc) (htc : tc ≤ 12) (hro : ¬ ro = -1) : kMost tc ro (nI a) (nI b) = 0 := by
  unfold kMost
  rw [if_pos (inB_ok ha (by omega)), if_pos (inB_ok hb (by omega)), if_neg hro]
theorem kRoom_ok {rc r : Nat} {Z : Nat → Bool} {ro : Int32} (hr : r < rc) (hz : Z r = true) (hrc : rc ≤ 30) (hro : ¬ ro = -1) : kRoom rc Z ro (nI r) = 0 := by
  unfold kRoom
  rw [if_pos (inB_ok hr (by omega)), ix_nI (by omega), if_pos hz, if_neg hro]
theorem kLate_ok {tc a : Nat} {ro : Int32} {E : Nat → Int32} {en : Int32} (ha : a < tc) (htc : tc ≤ 12) (he : enOK tc E en) (hro : ¬ ro = -1) : kLate tc ro E (nI a) en = 0 := by
  obtain ⟨-, h1, h2, h3⟩ := he
  have e9 : (9999 : Int32).toInt = 9999 := by decide
  have hen : endB en = true := by
    simp only [endB, Bool.and_eq_true, Bool.not_eq_true', decide_eq_false_iff_not, i_lt, i_0, e9]
    omega
  unfold kLate
  rw [if_pos (inB_ok ha (by omega)), if_pos hen, if_neg hro, if_neg h3]
theorem en_ok {tc rc : Nat} {F T : Nat → Nat} {L : Nat → Int32} {Z : Nat → Bool} {ro : Int32} {E B : Nat → Int32} (hI : xInv tc rc F T L Z ro E B) (hro : ¬ ro = -1) {k : Nat} (hk : k < 30) : enOK tc E (lastF E tc 0 0 + nI k) := by
  obtain ⟨htc, hrc, hF, hL, -, eE, -⟩ := id hI
  have hsm := ear_small htc hrc hF hL (inv_ear hI hro)
  obtain ⟨g1, g2⟩ := lastF_ge E tc 0 0
  rw [i_0] at g1
  have hle : (lastF E tc 0 0).toInt ≤ 1089 := by
    rcases lastF_at E tc 0 0 with h | ⟨j, -, hj, h⟩
    · rw [h, i_0]; omega
    · rw [h, eE j (by omega)]
      exact (hsm j (by omega)).2
  have hk2 := nI_toInt (show k < 2147483648 by omega)
  have hs : (lastF E tc 0 0 + nI k).toInt = (lastF E tc 0 0).toInt + (k : Int) := by
    rw [i_add (by omega) (by omega), hk2]
  refine ⟨fun v hv => ?_, by omega, by omega, by rw [i_lt]; omega⟩
  have := g2 v (by omega) (by omega)
  omega
theorem tight_sim {tc rc : Nat} {F T : Nat → Nat} {L : Nat → Int32} {Z : Nat → Bool} {ro : Int32} {E B : Nat → Int32} (hI : xInv tc rc F T L Z ro E B) {s : Int32} {L' : Nat → Int32} {ro' : Int32} {E' B' : Nat → Int32} (he : tightA F T Z tc rc (L, ro, E, B) = (s, L', ro', E', B')) : s = (tgA F T Z tc rc L).1 ∧ L' = (tgA F T Z tc rc L).2 ∧ xInv tc rc F T L' Z ro' E' B' := by
  obtain ⟨h1, h2, h3⟩ := q_tight hI
  rw [he] at h1 h2 h3
  exact ⟨h1, h2, h3⟩
theorem f4_0 (f : Nat → Int32) (h : ∀ j, 4 ≤ j → f j = 0) (k : Nat) (x : Int32) (hk : k < 4) : ∀ j, 4 ≤ j → upd f k x j = 0 := fun j hj => by
  rw [pk_un (show ¬ j = k by omega)]
  exact h j hj
/-- tc, rc, from, to, length, tied, rounds, earliest, bound, trial, reach, nextReach; the law's own array and rows -/
abbrev xSt : Type := Nat × Nat × (Nat → Nat) × (Nat → Nat) × (Nat → Int32) × (Nat → Bool) × Int32 × (Nat → Int32) × (Nat → Int32) × (Nat → Int32) × (Nat → Int32) × (Nat → Int32) × Nat × (Nat → Nat)
theorem told_row (ro : Int32) (E : Nat → Int32) (F T : Nat → Nat) (L : Nat → Int32) (Z : Nat → Bool) (r : Nat) {w : Nat} (h : w < 4) : toldF ro E F T L Z r w = row4 F T L Z r w := by
  rcases (by omega : w = 0 ∨ w = 1 ∨ w = 2 ∨ w = 3) with rfl | rfl | rfl | rfl <;> rfl
section XDV
variable {p : Program} {l : Launch} {e : Env} {R : Room} {s : State} {m : MethodId} {args : Array Value} {below : List Frame} {meth : Method} {c : Code} {H : Heap} {locs : List Loc} {cells slots : Nat} {Q : State → Prop}
variable {cc : ByteArray} {pc : Nat} {ls : Array Slot} {rest st0 : List Value} {D : va_G} {A0 A : Nat → Prop} {tys : List (ClassId × FieldType)} {ws : va_W} {H0 : Heap} {mc ms : Nat} {cs : List Choice}
variable {y : MethodName} {bytes : ByteArray} {maxL nL n index : Nat} {ret : Option FieldType} {wsy : List Cond} {rm : Room} {Ts : List Cond} {own C : String} {b : Addr} {As : List Value} {wc : va_W} {segs segsC segsR : List va_W} {isC isR : List Nat}
theorem xd_V {X : UInt64} (S : CallFix p m c cc nL s args Ts own) (hM : MetD cs l y wsy rm (xRo D tys (.ref b :: As) wc) (xQd X) 0 0 (fun _ => False)) (cw : CallW R s args own C index y bytes maxL ret wsy rm 0 0 n)
    (hK : va_K D vwCl tys s) (hP : va_P D vwCl ws H) (hrec : ∃ cellB : Cell, H[b]? = some cellB ∧ cellB.vm.isStatics = false ∧ s.vm.findClass C = some cellB.cls) (is : List Nat) (hs : is.filterMap (fun i => ws[i]?) = wc)
    (hn : As.length = n) (hsize : ls.size = nL) (hstack : st0 = As.reverse ++ .ref b :: rest) (hW : (rest.map fun v => v.category).sum ≤ 8) (hdg : decode cc pc = .ok (.invokevirtual index, 3)) (hc : cells ≤ R.cells ∧ slots ≤ R.slots)
    (kk : ∀ (r : UInt64) (d' : Drawn), alike64 r X = true → s.drawn.sameBut d' cs → W p l e R (s.setDrawn d') m args below meth c H locs cells slots Q (F0 m (pc + 3) ls (.double r :: rest))) : W p l e R s m args below meth c H locs cells slots Q (F0 m pc ls st0) := by
  subst hstack
  have hPc := hP.sub (ws' := wc) is hs
  exact xd_fin (va_runV_D S hM cw ⟨xRo_blind _ _ _, hrec, fun U hU hW => ⟨rfl, by rw [hU]; exact hPc, va_K.moved hW.alike hK⟩⟩ rfl hn hsize rfl (lv_room hW) hdg hc) kk
/-- a call of a method that changes and draws -/
theorem xsD_V {S : Type} {pu : S → Prop} {r : S → Option Value} {w1 : S → va_W} {X : State → Prop} (SF : CallFix p m c cc nL s args Ts own) (hX : xTrav X) (hwc : wj segsC = wc) (hM : MetD cs l y wsy rm (xMu D tys X (.ref b :: As) wc H.size) (xQm D pu r wc w1 H.size) mc ms (va_A wc H.size)) (cw : CallW R s args own C index y bytes maxL ret wsy rm mc ms n)
    (hK : va_K D vwCl tys s) (hP : va_P D vwCl (wj segs) H) (hD : va_D A0 (wj segs)) (hS : va_S A0 H0 H locs) (hA : ∀ q, H0.size ≤ q → A0 q) (hXs : ∀ U : State, s.WarmedH U.vm → U.heap = H → X U) (hrec : ∃ cellB : Cell, H[b]? = some cellB ∧ cellB.vm.isStatics = false ∧ s.vm.findClass C = some cellB.cls)
    (hC : isC.map (fun i => segs[i]?) = segsC.map some) (hR : isR.map (fun i => segs[i]?) = segsR.map some) (hnd : va_nd (isR ++ isC) = true)
    (hn : As.length = n) (hsize : ls.size = nL) (hstack : st0 = As.reverse ++ .ref b :: rest) (hW : (rest.map fun v => v.category).sum ≤ 8) (hdg : decode cc pc = .ok (.invokevirtual index, 3)) (hc : cells + mc ≤ R.cells ∧ slots + ms ≤ R.slots)
    (kk : ∀ (u : S) (d' : Drawn) (H1 : Heap) (locs1 : List Loc), pu u → s.drawn.sameBut d' cs → va_S A0 H0 H1 locs1 → W p l e R (s.setDrawn d') m args below meth c H1 locs1 (cells + mc) (slots + ms) Q (F0 m (pc + 3) ls ((r u).toList ++ rest))) : W p l e R s m args below meth c H locs cells slots Q (F0 m pc ls st0) := by
  subst hstack
  subst hwc
  have hPc := xw_P isC hC hP
  have hDc := xw_D isC (va_nd_r hnd) hC hD
  have hF := xw_free hD hS hA hC
  have hr := va_runV_D (e := e) (below := below) (meth := meth) (locs := locs) (cells := cells) (slots := slots) (g := F0 m pc ls (As.reverse ++ .ref b :: rest)) SF hM cw ⟨xMu_blind hX _ _ _ _, hrec, fun U hU hW => ⟨rfl, by rw [hU], by rw [hU]; exact hPc, va_K.moved hW.alike hK, hDc.weaken (fun _ _ _ _ => trivial), hXs U hW hU⟩⟩ rfl hn hsize rfl (lv_room hW) hdg hc
  intro T hT X9
  obtain ⟨v, st₀, t, T', L, d', hd, h0, X', hL, e1, e2, ⟨u, hu, hv, hP1, hD1, hz, hk⟩, st⟩ := hr T hT X9
  cases hv
  rw [h0] at hz hk
  obtain ⟨t2, a1, b1⟩ := kk u d' T'.heap (locs ++ L) hu hd
    ⟨Nat.le_trans hS.1 (by rw [e1]; exact hz), fun q h1 h2 => by rw [e1, hk q (Nat.lt_of_lt_of_le h1 hS.1) (fun z => h2 (hF q z))]; exact hS.2.1 q h1 h2, fun q hq => by
      rcases List.mem_append.mp hq with h | h
      · exact hS.2.2 q h
      · exact hF _ (hL q h)⟩ T' rfl X'
  exact ⟨t2, st t2 a1, b1⟩
end XDV
