/-! the search raises little by little; where it stops, it is a timetable -/
theorem passF_bnd {tc rc : Nat} {F T : Nat → Nat} {L : Nat → Int32} (A : Nat → Bool) (hF : okR tc rc F T) (hL : lenR rc L) : ∀ (n r : Nat) (E : Nat → Int32) (ch : Bool) (K : Int), r + n = rc → bnd tc K E → K + 99 * (n : Int) ≤ 1000000 → bnd tc (K + 99 * (n : Int)) (passF F T L A n r E ch).1
  | 0, _, E, _, K, _, h, _ => by
    show bnd tc (K + 99 * ((0 : Nat) : Int)) E
    intro v hv
    have := h v hv
    omega
  | n + 1, r, E, ch, K, hm, h, hK => by
    have hf := hF r (by omega)
    have h1 := h _ hf.1
    have h2 := h _ hf.2
    have hl := hL r (by omega)
    have hs : (E (T r) - L r).toInt = (E (T r)).toInt - (L r).toInt := i_sub (by omega) (by omega)
    have hw : ∀ E' : Nat → Int32, ∀ c', bnd tc (K + 99) E' → bnd tc (K + 99 * ((n + 1 : Nat) : Int)) (passF F T L A n (r + 1) E' c').1 := fun E' c' h' => by
      have := passF_bnd A hF hL n (r + 1) E' c' (K + 99) (by omega) h' (by omega)
      intro v hv
      have := this v hv
      omega
    have hm2 : bnd tc (K + 99) E := fun v hv => by
      have := h v hv
      omega
    unfold passF
    split
    · rename_i hc
      have hc2 := i_lt.mp hc.2
      exact hw _ _ (bnd_upd hm2 (by omega) (by omega) _)
    · exact hw _ _ hm2
theorem rndF_bnd {tc rc : Nat} {F T : Nat → Nat} {L : Nat → Int32} (A : Nat → Bool) (hF : okR tc rc F T) (hL : lenR rc L) (hrc : rc ≤ 30) : ∀ (n k : Nat) (E : Nat → Int32) (K : Int), bnd tc K E → K + 2970 * (n : Int) ≤ 1000000 → bnd tc (K + 2970 * (n : Int)) (rndF F T L A rc n k E).1
  | 0, _, E, K, h, _ => by
    show bnd tc (K + 2970 * ((0 : Nat) : Int)) E
    intro v hv
    have := h v hv
    omega
  | n + 1, k, E, K, h, hK => by
    have h1 := passF_bnd A hF hL rc 0 E false K (by omega) h (by omega)
    have h2 : bnd tc (K + 2970) (passF F T L A rc 0 E false).1 := fun v hv => by
      have := h1 v hv
      omega
    unfold rndF
    split
    · have := rndF_bnd A hF hL hrc n (k + 1) _ (K + 2970) h2 (by omega)
      intro v hv
      have := this v hv
      omega
    · intro v hv
      have := h2 v hv
      show 0 ≤ ((passF F T L A rc 0 E false).1 v).toInt ∧ ((passF F T L A rc 0 E false).1 v).toInt ≤ K + 2970 * ((n + 1 : Nat) : Int)
      omega
theorem passF_ch (F T : Nat → Nat) (L : Nat → Int32) (A : Nat → Bool) : ∀ n r E, (passF F T L A n r E true).2 = true
  | 0, _, _ => rfl
  | n + 1, r, E => by
    unfold passF
    split
    · exact passF_ch F T L A n (r + 1) _
    · exact passF_ch F T L A n (r + 1) _
/-- nothing was raised: all hold -/
theorem passF_fix (F T : Nat → Nat) (L : Nat → Int32) (A : Nat → Bool) : ∀ n r E, (passF F T L A n r E false).2 = false → (passF F T L A n r E false).1 = E ∧ ∀ j, r ≤ j → j < r + n → A j = true → ¬ E (F j) < E (T j) - L j
  | 0, _, _, _ => ⟨rfl, fun j h1 h2 => by omega⟩
  | n + 1, r, E, h => by
    unfold passF at h ⊢
    by_cases hc : A r = true ∧ E (F r) < E (T r) - L r
    · rw [if_pos hc, passF_ch] at h
      cases h
    · rw [if_neg hc] at h ⊢
      obtain ⟨h1, h2⟩ := passF_fix F T L A n (r + 1) E h
      refine ⟨h1, fun j hj1 hj2 hA => ?_⟩
      by_cases hj : j = r
      · subst hj
        exact fun z => hc ⟨hA, z⟩
      · exact h2 j (by omega) (by omega) hA
/-- a timetable of whole numbers -/
def ttb (tc rc : Nat) (F T : Nat → Nat) (L : Nat → Int32) (A : Nat → Bool) (K : Int) (t : Nat → Int) : Prop := (∀ v, v < tc → 0 ≤ t v ∧ t v ≤ K) ∧ ∀ r, r < rc → A r = true → t (T r) - t (F r) ≤ (L r).toInt
theorem rndF_ttb {tc rc : Nat} {F T : Nat → Nat} {L : Nat → Int32} (A : Nat → Bool) (hF : okR tc rc F T) (hL : lenR rc L) (hrc : rc ≤ 30) : ∀ (n k : Nat) (E : Nat → Int32) (K : Int), k + n ≤ 100 → bnd tc K E → K + 2970 * (n : Int) ≤ 1000000 → ¬ (rndF F T L A rc n k E).2 = -1 → ttb tc rc F T L A (K + 2970 * (n : Int)) (fun v => ((rndF F T L A rc n k E).1 v).toInt)
  | 0, _, _, _, _, _, _, h => absurd rfl h
  | n + 1, k, E, K, hk, h, hK, hne => by
    have hb := rndF_bnd A hF hL hrc (n + 1) k E K h hK
    have h1 := passF_bnd A hF hL rc 0 E false K (by omega) h (by omega)
    have h2 : bnd tc (K + 2970) (passF F T L A rc 0 E false).1 := fun v hv => by
      have := h1 v hv
      omega
    refine ⟨hb, fun r hr hA => ?_⟩
    unfold rndF at hne ⊢
    by_cases hc : (passF F T L A rc 0 E false).2 = true
    · rw [if_pos hc] at hne ⊢
      exact (rndF_ttb A hF hL hrc n (k + 1) _ (K + 2970) (by omega) h2 (by omega) hne).2 r hr hA
    · rw [if_neg hc]
      have hc2 : (passF F T L A rc 0 E false).2 = false := by
        cases hx : (passF F T L A rc 0 E false).2 with
        | false => rfl
        | true => exact absurd hx hc
      obtain ⟨e1, e2⟩ := passF_fix F T L A rc 0 E hc2
      have hg := e2 r (by omega) (by omega) hA
      rw [i_lt] at hg
      have hf := hF r hr
      have b1 := h _ hf.1
      have b2 := h _ hf.2
      have hl := hL r hr
      have hs : (E (T r) - L r).toInt = (E (T r)).toInt - (L r).toInt := i_sub (by omega) (by omega)
      show ((passF F T L A rc 0 E false).1 (T r)).toInt - ((passF F T L A rc 0 E false).1 (F r)).toInt ≤ _
      rw [e1]
      omega
/-- what is found is a timetable -/
theorem ear_ttb {tc rc : Nat} {F T : Nat → Nat} {L : Nat → Int32} {A : Nat → Bool} (htc : tc ≤ 12) (hrc : rc ≤ 30) (hF : okR tc rc F T) (hL : lenR rc L) (h : ¬ earM F T L A tc rc 12 = -1) : ttb tc rc F T L A 38610 (fun v => (earM F T L A tc rc v).toInt) := by
  obtain ⟨h3, h4⟩ := rnd_rel F T L A htc hF (tc + 1) 0 (upd (fun _ => 0) 12 (-1)) (by omega)
  have h0 : bnd tc 0 (upd (fun _ => 0) 12 (-1)) := fun v hv => by
    rw [pk_un (show ¬ v = 12 by omega)]
    exact ⟨Int.le_refl _, Int.le_refl _⟩
  unfold earM at h ⊢
  have hne : ¬ (rndF F T L A rc (tc + 1) 0 (upd (fun _ => 0) 12 (-1))).2 = -1 := fun z => h (by rw [h4, if_pos z]; exact pk_us)
  obtain ⟨t1, t2⟩ := rndF_ttb A hF hL hrc (tc + 1) 0 _ 0 (by omega) h0 (by omega) hne
  refine ⟨fun v hv => ?_, fun r hr hA => ?_⟩
  · have := t1 v hv
    dsimp only at this ⊢
    rw [h3 v (by omega)]
    omega
  · have := t2 r hr hA
    have hf := hF r hr
    show (rndM F T L A rc (tc + 1) 0 _ (T r)).toInt - (rndM F T L A rc (tc + 1) 0 _ (F r)).toInt ≤ _
    rw [h3 _ (by omega), h3 _ (by omega)]
    exact this
theorem ear_bnd {tc rc : Nat} {F T : Nat → Nat} {L : Nat → Int32} {A : Nat → Bool} (htc : tc ≤ 12) (hrc : rc ≤ 30) (hF : okR tc rc F T) (hL : lenR rc L) : bnd tc 38610 (earM F T L A tc rc) := fun v hv => by
  obtain ⟨h3, -⟩ := rnd_rel F T L A htc hF (tc + 1) 0 (upd (fun _ => 0) 12 (-1)) (by omega)
  have h0 : bnd tc 0 (upd (fun _ => 0) 12 (-1)) := fun v hv => by
    rw [pk_un (show ¬ v = 12 by omega)]
    exact ⟨Int.le_refl _, Int.le_refl _⟩
  have := rndF_bnd A hF hL hrc (tc + 1) 0 _ 0 h0 (by omega) v hv
  unfold earM
  rw [h3 v (by omega)]
  omega
