/-! whole numbers behind the 32 bits -/
theorem i_add {x y : Int32} (h1 : -2147483648 ≤ x.toInt + y.toInt) (h2 : x.toInt + y.toInt ≤ 2147483647) : (x + y).toInt = x.toInt + y.toInt := by
  rw [Int32.toInt_add]
  exact Int.bmod_eq_of_le (by omega) (by omega)
theorem i_sub {x y : Int32} (h1 : -2147483648 ≤ x.toInt - y.toInt) (h2 : x.toInt - y.toInt ≤ 2147483647) : (x - y).toInt = x.toInt - y.toInt := by
  rw [Int32.toInt_sub]
  exact Int.bmod_eq_of_le (by omega) (by omega)
theorem i_neg {x : Int32} (h1 : -2147483647 ≤ x.toInt) (h2 : x.toInt ≤ 2147483647) : (-x).toInt = -x.toInt := by
  rw [Int32.toInt_neg]
  exact Int.bmod_eq_of_le (by omega) (by omega)
theorem i_lt {x y : Int32} : x < y ↔ x.toInt < y.toInt := Int32.lt_iff_toInt_lt
theorem i_eq {x y : Int32} : x = y ↔ x.toInt = y.toInt := Int32.toInt_inj.symm
theorem i_mn (x y : Int32) : (mnI x y).toInt = if y.toInt < x.toInt then y.toInt else x.toInt := by
  unfold mnI
  by_cases h : y < x
  · rw [if_pos h, if_pos (i_lt.mp h)]
  · rw [if_neg h, if_neg (fun z => h (i_lt.mpr z))]
theorem i_mx (x y : Int32) : (mxI x y).toInt = if x.toInt < y.toInt then y.toInt else x.toInt := by
  unfold mxI
  by_cases h : x < y
  · rw [if_pos h, if_pos (i_lt.mp h)]
  · rw [if_neg h, if_neg (fun z => h (i_lt.mpr z))]
theorem i_inf : (99999 : Int32).toInt = 99999 := by decide
theorem i_m99 : (-99 : Int32).toInt = -99 := by decide
theorem i_0 : (0 : Int32).toInt = 0 := by decide
theorem i_m1 : (-1 : Int32).toInt = -1 := by decide
theorem nI_ne_m1 {k : Nat} (h : k < 2147483648) : ¬ nI k = -1 := by
  rw [i_eq, nI_toInt h, i_m1]
  omega
/-! the earliest times: class and reference -/
theorem passF_at12 (F T : Nat → Nat) (L : Nat → Int32) (A : Nat → Bool) {tc rc : Nat} (htc : tc ≤ 12) (hF : okR tc rc F T) : ∀ n r E ch, r + n = rc → (passF F T L A n r E ch).1 12 = E 12
  | 0, _, _, _, _ => rfl
  | n + 1, r, E, ch, h => by
    have hf := hF r (by omega)
    unfold passF
    split
    · rw [passF_at12 F T L A htc hF n (r + 1) _ _ (by omega)]
      exact pk_un (by omega)
    · exact passF_at12 F T L A htc hF n (r + 1) _ _ (by omega)
theorem passF_cA (F T : Nat → Nat) (L : Nat → Int32) {A A' : Nat → Bool} {rc : Nat} (hA : ∀ r, r < rc → A r = A' r) : ∀ n r E ch, r + n = rc → passF F T L A n r E ch = passF F T L A' n r E ch
  | 0, _, _, _, _ => rfl
  | n + 1, r, E, ch, h => by
    unfold passF
    rw [hA r (by omega)]
    split
    · exact passF_cA F T L hA n (r + 1) _ _ (by omega)
    · exact passF_cA F T L hA n (r + 1) _ _ (by omega)
theorem rndF_cA (F T : Nat → Nat) (L : Nat → Int32) {A A' : Nat → Bool} {rc : Nat} (hA : ∀ r, r < rc → A r = A' r) : ∀ n k E, rndF F T L A rc n k E = rndF F T L A' rc n k E
  | 0, _, _ => rfl
  | n + 1, k, E => by
    unfold rndF
    rw [passF_cA F T L hA rc 0 E false (by omega)]
    split
    · exact rndF_cA F T L hA n (k + 1) _
    · rfl
theorem rnd_rel (F T : Nat → Nat) (L : Nat → Int32) (A : Nat → Bool) {tc rc : Nat} (htc : tc ≤ 12) (hF : okR tc rc F T) : ∀ n k E, k + n ≤ 100 → (∀ v, ¬ v = 12 → rndM F T L A rc n k E v = (rndF F T L A rc n k E).1 v) ∧ rndM F T L A rc n k E 12 = if (rndF F T L A rc n k E).2 = -1 then E 12 else (rndF F T L A rc n k E).2
  | 0, _, _, _ => ⟨fun _ _ => rfl, by show _ = if (-1 : Int32) = -1 then _ else _; rw [if_pos rfl]; rfl⟩
  | n + 1, k, E, hk => by
    unfold rndM rndF
    by_cases h : (passF F T L A rc 0 E false).2 = true
    · rw [if_pos h, if_pos h]
      obtain ⟨h1, h2⟩ := rnd_rel F T L A htc hF n (k + 1) (passF F T L A rc 0 E false).1 (by omega)
      refine ⟨h1, ?_⟩
      rw [h2, passF_at12 F T L A htc hF rc 0 E false (by omega)]
    · rw [if_neg h, if_neg h]
      refine ⟨fun v hv => pk_un hv, ?_⟩
      show _ = if nI (k + 1) = -1 then _ else nI (k + 1)
      rw [if_neg (nI_ne_m1 (by omega))]
      exact pk_us
/-- the class's search answers as the reference's -/
theorem ear_rel {tc rc : Nat} {F T : Nat → Nat} (L : Nat → Int32) {A A' : Nat → Bool} (htc : tc ≤ 12) (hF : okR tc rc F T) (hA : ∀ r, r < rc → A r = A' r) (E : Nat → Int32) : (findE F T L A tc rc E).2 = earM F T L A' tc rc 12 ∧ ag tc (findE F T L A tc rc E).1 (earM F T L A' tc rc) := by
  have h0 : ag tc (fillF 0 tc 0 E) (upd (fun _ => 0) 12 (-1)) := fun j hj => by
    rw [fillF_in 0 tc 0 E j (by omega) (by omega)]
    show (0 : Int32) = upd (fun _ => 0) 12 (-1) j
    rw [pk_un (show ¬ j = 12 by omega)]
  obtain ⟨h1, h2⟩ := rndF_ag L A hF (tc + 1) 0 _ _ h0
  obtain ⟨h3, h4⟩ := rnd_rel F T L A' htc hF (tc + 1) 0 (upd (fun _ => 0) 12 (-1)) (by omega)
  have hc := rndF_cA F T L hA (tc + 1) 0 (upd (fun _ => 0) 12 (-1))
  unfold findE earM
  rw [h1, hc]
  refine ⟨?_, fun j hj => ?_⟩
  · rw [h4]
    split
    · rename_i h
      rw [h]
      exact pk_us.symm
    · rfl
  · rw [h2 j hj, hc]
    exact (h3 j (by omega)).symm
theorem actC_m1 (Z : Nat → Bool) {rc : Nat} (hrc : rc ≤ 30) : ∀ r, r < rc → actC Z (-1) r = Z r := fun r hr => by
  unfold actC
  rw [decide_eq_false (nI_ne_m1 (by omega))]
  simp
theorem actC_r0 (Z : Nat → Bool) {rc r0 : Nat} (hrc : rc ≤ 30) (h0 : r0 < rc) : ∀ r, r < rc → actC Z (nI r0) r = updB Z r0 false r := fun r hr => by
  unfold actC updB
  by_cases h : r = r0
  · rw [if_pos h, h]
    simp
  · rw [if_neg h, decide_eq_false (fun z => h ((nI_eq (by omega) (by omega)).mp z))]
    simp
/-! the times are small, and a timetable -/
def bnd (tc : Nat) (K : Int) (E : Nat → Int32) : Prop := ∀ v, v < tc → 0 ≤ (E v).toInt ∧ (E v).toInt ≤ K
def lenR (rc : Nat) (L : Nat → Int32) : Prop := ∀ r, r < rc → -99 ≤ (L r).toInt ∧ (L r).toInt ≤ 99
theorem bnd_upd {tc : Nat} {K : Int} {E : Nat → Int32} (h : bnd tc K E) {x : Int32} (h0 : 0 ≤ x.toInt) (h1 : x.toInt ≤ K) (k : Nat) : bnd tc K (upd E k x) := fun v hv => by
  unfold upd
  split
  · exact ⟨h0, h1⟩
  · exact h v hv
