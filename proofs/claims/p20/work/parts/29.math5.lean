/-! where there is a timetable, the search finds one within its rounds -/
def fea (tc rc : Nat) (F T : Nat → Nat) (L : Nat → Int32) (A : Nat → Bool) (t : Nat → Int) : Prop := (∀ v, v < tc → 0 ≤ t v) ∧ ∀ r, r < rc → A r = true → t (T r) - t (F r) ≤ (L r).toInt
def smT (t : Nat → Int) : Nat → Nat
  | 0 => 0
  | n + 1 => smT t n + (t n).toNat
theorem smT_le {t t' : Nat → Int} : ∀ n, (∀ v, v < n → t v ≤ t' v) → smT t n ≤ smT t' n
  | 0, _ => Nat.le_refl _
  | n + 1, h => by
    have h1 := smT_le n (fun v hv => h v (by omega))
    have h2 := h n (by omega)
    show smT t n + (t n).toNat ≤ smT t' n + (t' n).toNat
    omega
theorem smT_lt {t t' : Nat → Int} {w : Nat} : ∀ n, (∀ v, v < n → t v ≤ t' v) → w < n → t w < t' w → 0 ≤ t w → smT t n < smT t' n
  | 0, _, hw, _, _ => by omega
  | n + 1, h, hw, hl, h0 => by
    have h2 := h n (by omega)
    show smT t n + (t n).toNat < smT t' n + (t' n).toNat
    by_cases hq : w = n
    · subst hq
      have h1 := smT_le w (fun v hv => h v (by omega))
      omega
    · have h1 := smT_lt n (fun v hv => h v (by omega)) (by omega) hl h0
      omega
theorem fea_min {tc rc : Nat} {F T : Nat → Nat} {L : Nat → Int32} {A : Nat → Bool} : ∀ (N : Nat) (t : Nat → Int), fea tc rc F T L A t → smT t tc ≤ N → ∃ t0, fea tc rc F T L A t0 ∧ ∀ t', fea tc rc F T L A t' → smT t0 tc ≤ smT t' tc
  | 0, t, h, hN => ⟨t, h, fun t' _ => by omega⟩
  | N + 1, t, h, hN => by
    by_cases hq : ∃ t', fea tc rc F T L A t' ∧ smT t' tc < smT t tc
    · obtain ⟨t', h1, h2⟩ := hq
      exact fea_min N t' h1 (by omega)
    · exact ⟨t, h, fun t' h' => Nat.le_of_not_lt (fun z => hq ⟨t', h', z⟩)⟩
/-- below the least timetable, some rope pulls -/
theorem fea_pull {tc rc : Nat} {F T : Nat → Nat} {L : Nat → Int32} {A : Nat → Bool} {t0 : Nat → Int} (hF : okR tc rc F T) (h : fea tc rc F T L A t0) (hm : ∀ t', fea tc rc F T L A t' → smT t0 tc ≤ smT t' tc) {x : Nat → Int} (h0 : ∀ v, v < tc → 0 ≤ x v) (hx : ∀ v, v < tc → x v ≤ t0 v) {w : Nat} (hw : w < tc) (hlt : x w < t0 w) : ∃ r, r < rc ∧ A r = true ∧ x (F r) < t0 (F r) ∧ x (T r) = t0 (T r) ∧ t0 (F r) = t0 (T r) - (L r).toInt := by
  apply Classical.byContradiction
  intro hno
  have hf : fea tc rc F T L A (fun v => if x v < t0 v then t0 v - 1 else t0 v) := by
    refine ⟨fun v hv => ?_, fun r hr hA => ?_⟩
    · have := h0 v hv
      have := h.1 v hv
      dsimp only
      split <;> omega
    · have h2 := h.2 r hr hA
      have hf := hF r hr
      have b1 := hx _ hf.1
      have b2 := hx _ hf.2
      dsimp only
      by_cases c1 : x (F r) < t0 (F r)
      · rw [if_pos c1]
        by_cases c2 : x (T r) < t0 (T r)
        · rw [if_pos c2]
          omega
        · rw [if_neg c2]
          have : ¬ t0 (F r) = t0 (T r) - (L r).toInt := fun z => hno ⟨r, hr, hA, c1, by omega, z⟩
          omega
      · rw [if_neg c1]
        split <;> omega
  have h1 := hm _ hf
  have h2 : smT (fun v => if x v < t0 v then t0 v - 1 else t0 v) tc < smT t0 tc := by
    refine smT_lt (w := w) tc (fun v hv => ?_) hw ?_ ?_
    · split <;> omega
    · rw [if_pos hlt]
      omega
    · have := h0 w hw
      rw [if_pos hlt]
      omega
  omega
theorem passF_le {tc rc : Nat} {F T : Nat → Nat} {L : Nat → Int32} {A : Nat → Bool} {t0 : Nat → Int} (hF : okR tc rc F T) (hL : lenR rc L) (ht : fea tc rc F T L A t0) : ∀ (n r : Nat) (E : Nat → Int32) (ch : Bool) (K : Int), r + n = rc → bnd tc K E → K + 99 * (n : Int) ≤ 1000000 → (∀ v, v < tc → (E v).toInt ≤ t0 v) → (∀ v, v < tc → ((passF F T L A n r E ch).1 v).toInt ≤ t0 v) ∧ (∀ v, v < tc → (E v).toInt ≤ ((passF F T L A n r E ch).1 v).toInt) ∧ ∀ j, r ≤ j → j < rc → A j = true → (E (T j)).toInt - (L j).toInt ≤ ((passF F T L A n r E ch).1 (F j)).toInt
  | 0, r, E, _, _, hm, _, _, h => ⟨h, fun _ _ => Int.le_refl _, fun j h1 h2 => by omega⟩
  | n + 1, r, E, ch, K, hm, hb, hK, h => by
    have hf := hF r (by omega)
    have h1 := hb _ hf.1
    have h2 := hb _ hf.2
    have hl := hL r (by omega)
    have hs : (E (T r) - L r).toInt = (E (T r)).toInt - (L r).toInt := i_sub (by omega) (by omega)
    have hm2 : bnd tc (K + 99) E := fun v hv => by
      have := hb v hv
      omega
    unfold passF
    by_cases hc : A r = true ∧ E (F r) < E (T r) - L r
    · rw [if_pos hc]
      have hc2 := i_lt.mp hc.2
      have ht2 := ht.2 r (by omega) hc.1
      have g1 := h _ hf.2
      have hup : ∀ v, v < tc → (E v).toInt ≤ (upd E (F r) (E (T r) - L r) v).toInt := fun v hv => by
        unfold upd
        split
        · rename_i he
          rw [he]
          omega
        · exact Int.le_refl _
      obtain ⟨q1, q2, q3⟩ := passF_le hF hL ht n (r + 1) (upd E (F r) (E (T r) - L r)) true (K + 99) (by omega) (bnd_upd hm2 (by omega) (by omega) _) (by omega) (fun v hv => by
        unfold upd
        split
        · rename_i he
          rw [he]
          omega
        · exact h v hv)
      refine ⟨q1, fun v hv => Int.le_trans (hup v hv) (q2 v hv), fun j hj1 hj2 hj3 => ?_⟩
      by_cases hj : j = r
      · subst hj
        have := q2 _ hf.1
        unfold upd at this
        rw [if_pos rfl] at this
        unfold upd
        omega
      · have h9 := q3 j (by omega) hj2 hj3
        have h8 := hup _ (hF j hj2).2
        omega
    · rw [if_neg hc]
      obtain ⟨q1, q2, q3⟩ := passF_le hF hL ht n (r + 1) E ch (K + 99) (by omega) hm2 (by omega) h
      refine ⟨q1, q2, fun j hj1 hj2 hj3 => ?_⟩
      by_cases hj : j = r
      · subst hj
        have := q2 _ hf.1
        have hn : ¬ E (F j) < E (T j) - L j := fun z => hc ⟨hj3, z⟩
        rw [i_lt] at hn
        omega
      · exact q3 j (by omega) hj2 hj3
theorem passF_calm (F T : Nat → Nat) (L : Nat → Int32) (A : Nat → Bool) : ∀ n r E, (∀ j, r ≤ j → j < r + n → A j = true → ¬ E (F j) < E (T j) - L j) → (passF F T L A n r E false).2 = false
  | 0, _, _, _ => rfl
  | n + 1, r, E, h => by
    unfold passF
    rw [if_neg (fun z => h r (by omega) (by omega) z.1 z.2)]
    exact passF_calm F T L A n (r + 1) E (fun j h1 h2 => h j (by omega) (by omega))
/-- how many are below -/
def bel (x t : Nat → Int) : Nat → Nat
  | 0 => 0
  | n + 1 => bel x t n + if x n < t n then 1 else 0
theorem bel_le (x t : Nat → Int) : ∀ n, bel x t n ≤ n
  | 0 => Nat.le_refl _
  | n + 1 => by
    have := bel_le x t n
    show bel x t n + (if x n < t n then 1 else 0) ≤ n + 1
    split <;> omega
theorem bel_mono {x x' t : Nat → Int} : ∀ n, (∀ v, v < n → x v ≤ x' v) → bel x' t n ≤ bel x t n
  | 0, _ => Nat.le_refl _
  | n + 1, h => by
    have h1 := bel_mono (t := t) n (fun v hv => h v (by omega))
    have h2 := h n (by omega)
    show bel x' t n + (if x' n < t n then 1 else 0) ≤ bel x t n + (if x n < t n then 1 else 0)
    split <;> split <;> omega
theorem bel_lt {x x' t : Nat → Int} {w : Nat} : ∀ n, (∀ v, v < n → x v ≤ x' v) → w < n → x w < t w → ¬ x' w < t w → bel x' t n < bel x t n
  | 0, _, hw, _, _ => by omega
  | n + 1, h, hw, h1, h2 => by
    have h3 := h n (by omega)
    show bel x' t n + (if x' n < t n then 1 else 0) < bel x t n + (if x n < t n then 1 else 0)
    by_cases hq : w = n
    · subst hq
      have := bel_mono (t := t) w (fun v hv => h v (by omega))
      rw [if_pos h1, if_neg h2]
      omega
    · have := bel_lt n (fun v hv => h v (by omega)) (by omega) h1 h2
      split <;> split <;> omega
theorem bel_0 {x t : Nat → Int} : ∀ n, bel x t n = 0 → ∀ v, v < n → ¬ x v < t v
  | 0, _, v, hv => by omega
  | n + 1, h, v, hv => by
    have h2 : bel x t n + (if x n < t n then 1 else 0) = 0 := h
    by_cases hq : v = n
    · subst hq
      intro z
      rw [if_pos z] at h2
      omega
    · exact bel_0 n (by omega) v (by omega)
theorem bel_ex {x t : Nat → Int} : ∀ n, 0 < bel x t n → ∃ v, v < n ∧ x v < t v
  | 0, h => absurd h (Nat.lt_irrefl 0)
  | n + 1, h => by
    have h2 : 0 < bel x t n + (if x n < t n then 1 else 0) := h
    by_cases hq : x n < t n
    · exact ⟨n, by omega, hq⟩
    · rw [if_neg hq] at h2
      obtain ⟨v, h3, h4⟩ := bel_ex n (by omega)
      exact ⟨v, by omega, h4⟩
theorem rndF_comp {tc rc : Nat} {F T : Nat → Nat} {L : Nat → Int32} {A : Nat → Bool} {t0 : Nat → Int} (hF : okR tc rc F T) (hL : lenR rc L) (hrc : rc ≤ 30) (ht : fea tc rc F T L A t0) (hmin : ∀ t', fea tc rc F T L A t' → smT t0 tc ≤ smT t' tc) : ∀ (n k : Nat) (E : Nat → Int32) (K : Int), k + n ≤ 100 → bnd tc K E → K + 2970 * (n : Int) ≤ 1000000 → (∀ v, v < tc → (E v).toInt ≤ t0 v) → bel (fun v => (E v).toInt) t0 tc < n → ¬ (rndF F T L A rc n k E).2 = -1
  | 0, _, _, _, _, _, _, _, h => absurd h (Nat.not_lt_zero _)
  | n + 1, k, E, K, hk, hb, hK, hle, hn => by
    have h1 := passF_bnd A hF hL rc 0 E false K (by omega) hb (by omega)
    have h2 : bnd tc (K + 2970) (passF F T L A rc 0 E false).1 := fun v hv => by
      have := h1 v hv
      omega
    obtain ⟨q1, q2, q3⟩ := passF_le hF hL ht rc 0 E false K (by omega) hb (by omega) hle
    unfold rndF
    by_cases hc : (passF F T L A rc 0 E false).2 = true
    · rw [if_pos hc]
      refine rndF_comp hF hL hrc ht hmin n (k + 1) _ (K + 2970) (by omega) h2 (by omega) q1 ?_
      rcases Nat.eq_zero_or_pos (bel (fun v => (E v).toInt) t0 tc) with h0 | h0
      · exfalso
        have hz := bel_0 tc h0
        have : (passF F T L A rc 0 E false).2 = false := passF_calm F T L A rc 0 E (fun j _ hj hA => by
          have hf := hF j (by omega)
          have b1 := hb _ hf.1
          have b2 := hb _ hf.2
          have hl := hL j (by omega)
          have hs : (E (T j) - L j).toInt = (E (T j)).toInt - (L j).toInt := i_sub (by omega) (by omega)
          rw [i_lt, hs]
          have z1 := hz _ hf.1
          have z2 := hle _ hf.1
          have z3 := hle _ hf.2
          have z4 := ht.2 j (by omega) hA
          omega)
        rw [this] at hc
        cases hc
      · obtain ⟨w, hw1, hw2⟩ := bel_ex tc h0
        obtain ⟨r, r1, r2, r3, r4, r5⟩ := fea_pull hF ht hmin (x := fun v => (E v).toInt) (fun v hv => (hb v hv).1) hle hw1 hw2
        have hf := hF r r1
        have := bel_lt (x := fun v => (E v).toInt) (x' := fun v => ((passF F T L A rc 0 E false).1 v).toInt) (t := t0) (w := F r) tc q2 hf.1 r3 (by
          have := q3 r (by omega) r1 r2
          omega)
        omega
    · rw [if_neg hc]
      exact nI_ne_m1 (by omega)
theorem ear_comp {tc rc : Nat} {F T : Nat → Nat} {L : Nat → Int32} {A : Nat → Bool} {t : Nat → Int} (htc : tc ≤ 12) (hrc : rc ≤ 30) (hF : okR tc rc F T) (hL : lenR rc L) (ht : fea tc rc F T L A t) : ¬ earM F T L A tc rc 12 = -1 := by
  obtain ⟨t0, h1, h2⟩ := fea_min _ t ht (Nat.le_refl _)
  obtain ⟨h3, h4⟩ := rnd_rel F T L A htc hF (tc + 1) 0 (upd (fun _ => 0) 12 (-1)) (by omega)
  have h0 : bnd tc 0 (upd (fun _ => 0) 12 (-1)) := fun v hv => by
    rw [pk_un (show ¬ v = 12 by omega)]
    exact ⟨Int.le_refl _, Int.le_refl _⟩
  have hne := rndF_comp hF hL hrc h1 h2 (tc + 1) 0 _ 0 (by omega) h0 (by omega) (fun v hv => by
    have := h0 v hv
    have := h1.1 v hv
    omega) (Nat.lt_succ_of_le (bel_le _ _ _))
  unfold earM
  rw [h4, if_neg hne]
  exact hne
