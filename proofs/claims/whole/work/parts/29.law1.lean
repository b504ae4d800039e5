/-! the law's loop: what stands at its head, calls that draw, numbers of the script -/
theorem nan_dc {r : UInt64} (h : isNaN64 r = true) : FP.Core.decode FP.Core.b64 r.toNat = .nan := by
  rw [FP.Core.decode_nan]
  rw [isNaN64_iff] at h
  have e : (0x7fffffffffffffff : Nat) = 2 ^ 63 - 1 := by decide
  rw [e, Nat.and_two_pow_sub_one_eq_mod] at h
  exact h
theorem dcmp_nan {r : UInt64} (h : isNaN64 r = true) (x : UInt64) : FP.dcmp r x = none := by
  show FP.Core.order (FP.Core.decode FP.Core.b64 r.toNat) _ = none
  rw [nan_dc h]
  rfl
theorem dcmp_self (r : UInt64) : FP.dcmp r r = none ∨ FP.dcmp r r = some .eq := by
  show FP.Core.order (FP.Core.decode FP.Core.b64 r.toNat) (FP.Core.decode FP.Core.b64 r.toNat) = none ∨ FP.Core.order (FP.Core.decode FP.Core.b64 r.toNat) (FP.Core.decode FP.Core.b64 r.toNat) = some .eq
  cases FP.Core.decode FP.Core.b64 r.toNat with
  | nan => exact Or.inl rfl
  | inf s => right; simp [FP.Core.order]
  | fin s c q => right; simp [FP.Core.order]
/-- two answers that are the same number, or both no number -/
theorem two_alike {r1 r2 X : UInt64} (h1 : alike64 r1 X = true) (h2 : alike64 r2 X = true) : Op.cmpValue (FP.dcmp r1 r2) .l = 0 ∨ (¬ Op.cmpValue (FP.dcmp r1 r1) .l = 0 ∧ ¬ Op.cmpValue (FP.dcmp r2 r2) .l = 0) := by
  have hn : ∀ r x : UInt64, isNaN64 r = true → ¬ Op.cmpValue (FP.dcmp r x) .l = 0 := fun r x h => by
    rw [dcmp_nan h]
    decide
  simp only [alike64, Bool.or_eq_true, decide_eq_true_eq, Bool.and_eq_true] at h1 h2
  rcases h1 with rfl | ⟨h1, hX⟩
  · rcases h2 with rfl | ⟨h2, hX⟩
    · rcases dcmp_self r2 with h | h
      · right
        rw [h]
        exact ⟨by decide, by decide⟩
      · left
        rw [h]
        rfl
    · exact Or.inr ⟨hn _ _ hX, hn _ _ h2⟩
  · rcases h2 with rfl | ⟨h2, -⟩
    · exact Or.inr ⟨hn _ _ h1, hn _ _ hX⟩
    · exact Or.inr ⟨hn _ _ h1, hn _ _ h2⟩
/-- the low five bits -/
theorem and31 (x : Int32) : ∃ k : Nat, k < 32 ∧ x &&& 31 = nI k := by
  refine ⟨(x &&& 31).toUInt32.toNat, ?_, ?_⟩
  · have h : (x &&& 31).toUInt32 = x.toUInt32 &&& 31 := rfl
    rw [h, UInt32.toNat_and]
    exact Nat.lt_of_le_of_lt Nat.and_le_right (by decide)
  · have h : (x &&& 31).toUInt32 = x.toUInt32 &&& 31 := rfl
    have hlt : (x &&& 31).toUInt32.toNat < 32 := by
      rw [h, UInt32.toNat_and]
      exact Nat.lt_of_le_of_lt Nat.and_le_right (by decide)
    have e : (x &&& 31).toUInt32 = UInt32.ofNat (x &&& 31).toUInt32.toNat := UInt32.ofNat_toNat.symm
    exact congrArg Int32.ofUInt32 e
/-- another four numbers are there -/
theorem four_le {Ls j : Nat} (hL : Ls ≤ 2048) (hj : j ≤ 512) (h : ¬ Int32.ofNat Ls - 4 < nI (4 * j)) : 4 * j + 4 ≤ Ls := by
  rw [Int32.lt_iff_toInt_lt] at h
  have e1 : (nI (4 * j)).toInt = (4 * j : Nat) := nI_toInt (by omega)
  have e2 : (Int32.ofNat Ls).toInt = (Ls : Nat) := nI_toInt (by omega)
  have e3 : (Int32.ofNat Ls - 4).toInt = (Ls : Int) - 4 := by
    rw [Int32.toInt_sub, e2]
    have : (4 : Int32).toInt = 4 := by decide
    rw [this]
    exact Int.bmod_eq_of_le (by omega) (by omega)
  rw [e1, e3] at h
  omega
section XDV
variable {p : Program} {l : Launch} {e : Env} {R : Room} {s : State} {m : MethodId} {args : Array Value} {below : List Frame} {meth : Method} {c : Code} {H : Heap} {locs : List Loc} {cells slots : Nat} {Q : State → Prop}
variable {cc : ByteArray} {pc : Nat} {ls : Array Slot} {rest st0 : List Value} {D : va_G} {A0 A : Nat → Prop} {tys : List (ClassId × FieldType)} {ws : va_W} {H0 : Heap} {mc ms : Nat} {cs : List Choice}
variable {y : MethodName} {bytes : ByteArray} {maxL nL n index : Nat} {ret : Option FieldType} {wsy : List Cond} {rm : Room} {Ts : List Cond} {own C : String} {b : Addr} {As : List Value} {wc : va_W}
theorem xd_V {X : UInt64} (S : CallFix p m c cc nL s args Ts own) (hM : MetD cs l y wsy rm (xRo D tys (.ref b :: As) wc) (xQd X) 0 0 (fun _ => False)) (cw : CallW R s args own C index y bytes maxL ret wsy rm 0 0 n)
    (hK : va_K D vwCl tys s) (hP : va_P D vwCl ws H) (hrec : ∃ cellB : Cell, H[b]? = some cellB ∧ cellB.vm.isStatics = false ∧ s.vm.findClass C = some cellB.cls) (is : List Nat) (hs : is.filterMap (fun i => ws[i]?) = wc)
    (hn : As.length = n) (hsize : ls.size = nL) (hstack : st0 = As.reverse ++ .ref b :: rest) (hW : (rest.map fun v => v.category).sum ≤ 8) (hdg : decode cc pc = .ok (.invokevirtual index, 3)) (hc : cells ≤ R.cells ∧ slots ≤ R.slots)
    (kk : ∀ (r : UInt64) (d' : Drawn), alike64 r X = true → s.drawn.sameBut d' cs → W p l e R (s.setDrawn d') m args below meth c H locs cells slots Q (F0 m (pc + 3) ls (.double r :: rest))) : W p l e R s m args below meth c H locs cells slots Q (F0 m pc ls st0) := by
  subst hstack
  have hPc := hP.sub (ws' := wc) is hs
  exact xd_fin (va_runV_D S hM cw ⟨xRo_blind _ _ _, hrec, fun U hU hW => ⟨rfl, by rw [hU]; exact hPc, va_K.moved hW.alike hK⟩⟩ rfl hn hsize rfl (lv_room hW) hdg hc) kk
theorem xmd_V {X : UInt64} {w1 wr : va_W} {X9 : State → Prop} (SF : CallFix p m c cc nL s args Ts own) (hX : xTrav X9) (hM : MetD cs l y wsy rm (xMu D tys X9 (.ref b :: As) wc H.size) (xQmd D X wc w1 H.size) mc ms (va_A wc H.size)) (cw : CallW R s args own C index y bytes maxL ret wsy rm mc ms n)
    (hK : va_K D vwCl tys s) (hP : va_P D vwCl ws H) (hD : va_D A0 ws) (hS : va_S A0 H0 H locs) (hA : ∀ q, H0.size ≤ q → A0 q) (hXs : ∀ U : State, s.WarmedH U.vm → U.heap = H → X9 U) (hrec : ∃ cellB : Cell, H[b]? = some cellB ∧ cellB.vm.isStatics = false ∧ s.vm.findClass C = some cellB.cls)
    (isC isR : List Nat) (hC : isC.map (fun i => ws[i]?) = wc.map some) (hR : isR.map (fun i => ws[i]?) = wr.map some) (hnC : va_nd isC = true) (hnR : va_nd isR = true) (hdis : ∀ i ∈ isR, i ∉ isC)
    (hn : As.length = n) (hsize : ls.size = nL) (hstack : st0 = As.reverse ++ .ref b :: rest) (hW : (rest.map fun v => v.category).sum ≤ 8) (hdg : decode cc pc = .ok (.invokevirtual index, 3)) (hc : cells + mc ≤ R.cells ∧ slots + ms ≤ R.slots)
    (kk : ∀ (r : UInt64) (d' : Drawn) (H1 : Heap) (locs1 : List Loc), alike64 r X = true → s.drawn.sameBut d' cs → va_P D vwCl (wr ++ w1) H1 → va_D A0 (wr ++ w1) → va_S A0 H0 H1 locs1 → H.size ≤ H1.size → W p l e R (s.setDrawn d') m args below meth c H1 locs1 (cells + mc) (slots + ms) Q (F0 m (pc + 3) ls (.double r :: rest))) : W p l e R s m args below meth c H locs cells slots Q (F0 m pc ls st0) := by
  subst hstack
  have hPc : va_P D vwCl wc H := hP.sub isC (by
    have h := congrArg (fun l => l.filterMap id) hC
    simpa [List.filterMap_map] using h)
  have hDc := hD.sub isC hnC hC
  exact xmd_fin (va_runV_D SF hM cw ⟨xMu_blind hX _ _ _ _, hrec, fun U hU hW => ⟨rfl, by rw [hU], by rw [hU]; exact hPc, va_K.moved hW.alike hK, hDc.weaken (fun _ _ _ _ => trivial), hXs U hW hU⟩⟩ rfl hn hsize rfl (lv_room hW) hdg hc) hP hD hS hA isC isR hC hR hnR hdis kk
end XDV
/-- the world at the loop's head -/
abbrev LWd (t a mb : Nat → Nat) (o tc rc : Nat) (F T : Nat → Nat) (L : Nat → Int32) (Z : Nat → Bool) (ro : Int32) (E B X R N : Nat → Int32) (th : Int32) (f : Nat → Int64) : va_W :=
  [xObj a tc rc ro, xArr (t 0) (a 1) 30 (xN F), xArr (t 0) (a 2) 30 (xN T), xArr (t 0) (a 3) 30 L, xArr (t 1) (a 4) 30 (xB Z), xArr (t 0) (a 5) 12 E, xArr (t 0) (a 6) 144 B, xArr (t 0) (a 7) 12 X, xArr (t 0) (a 8) 12 R, xArr (t 0) (a 9) 12 N, xMod mb th tc rc, xArr (t 0) (mb 1) 120 (mkM F T L Z), xLng (t 2) o 1 f]
def lwEnv (p : Program) (l : Launch) (s : State) (m : MethodId) (meth : Method) (c : Code) (bs Ls : Nat) (xs : Nat → Int32) (D : va_G) (t sa : Nat → Nat) : Prop :=
  p.tables.exec = Jvm.exec ∧ c.code = cL_law ∧ c.maxLocals = 9 ∧ s.vm.findClass RL = some m.cls ∧ (∀ w ∈ wsL_law, w.before #[Value.ref bs] s = true) ∧ va_X bs Ls xs s s.heap ∧ bs < s.heap.size ∧ meth.locks = false ∧ va_K D vwCl (xTy t) s ∧ xTl s.heap.size sa s ∧ va_AOA .int s ∧ l.stackTraces = false ∧ Ls ≤ 2048
def lwNext (p : Program) (l : Launch) (e : Env) (s : State) (m : MethodId) (below : List Frame) (meth : Method) (c : Code) (Q : State → Prop) (bs : Nat) (D : va_G) (t a mb : Nat → Nat) (o j : Nat) : Prop :=
  ∀ (tc rc : Nat) (F T : Nat → Nat) (L : Nat → Int32) (Z : Nat → Bool) (ro : Int32) (E B X R N : Nat → Int32) (th : Int32) (f : Nat → Int64) (d0 : Drawn), xInv tc rc F T L Z ro E B → s.drawn.sameBut d0 lw_cs → ∀ (H : Heap) (locs : List Loc),
    va_P D vwCl (LWd t a mb o tc rc F T L Z ro E B X R N th f) H → va_D (fun q => s.heap.size ≤ q) (LWd t a mb o tc rc F T L Z ro E B X R N th f) → va_S (fun q => s.heap.size ≤ q) s.heap H locs → ∀ ls : Array Slot, lv_has ls 9 [(4, .int (nI (4 * j))), (3, .ref o), (2, .ref (mb 0)), (1, .ref (a 0)), (0, .ref bs)] →
      W p l e room_1 (s.setDrawn d0) m #[Value.ref bs] below meth c H locs (20 + 1100 * j + 1100) (1000 + 14000 * j + 14000) Q (F0 m 996 ls [])
