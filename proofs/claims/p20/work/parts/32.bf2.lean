/-! a timetable out of least ways -/
def mnW (W : Nat → Nat → Int32) (x : Nat) : Nat → Int
  | 0 => 38610
  | n + 1 => if W n x = 99999 then mnW W x n else if (W n x).toInt < mnW W x n then (W n x).toInt else mnW W x n
theorem mnW_le (W : Nat → Nat → Int32) (x : Nat) : ∀ n a, a < n → ¬ W a x = 99999 → mnW W x n ≤ (W a x).toInt
  | 0, _, h, _ => by omega
  | n + 1, a, h, hn => by
    unfold mnW
    by_cases ha : a = n
    · subst ha
      rw [if_neg hn]
      split <;> omega
    · have := mnW_le W x n a (by omega) hn
      split
      · exact this
      · split <;> omega
theorem mnW_at (W : Nat → Nat → Int32) (x : Nat) : ∀ n, mnW W x n = 38610 ∨ ∃ a, a < n ∧ ¬ W a x = 99999 ∧ mnW W x n = (W a x).toInt
  | 0 => Or.inl rfl
  | n + 1 => by
    have ih := mnW_at W x n
    unfold mnW
    split
    · rcases ih with h | ⟨a, h1, h2, h3⟩
      · exact Or.inl h
      · exact Or.inr ⟨a, by omega, h2, h3⟩
    · rename_i hn
      split
      · exact Or.inr ⟨n, by omega, hn, rfl⟩
      · rcases ih with h | ⟨a, h1, h2, h3⟩
        · exact Or.inl h
        · exact Or.inr ⟨a, by omega, h2, h3⟩
theorem ok_fea {tc rc : Nat} {F T : Nat → Nat} {L : Nat → Int32} {Z : Nat → Bool} (hF : okR tc rc F T) {W : Nat → Nat → Int32} (h : bfOK tc rc F T L Z W) : fea tc rc F T L Z (fun v => 38610 + mnW W v tc) := by
  obtain ⟨h1, h2, h3, -⟩ := h
  refine ⟨fun v hv => ?_, fun r hr hz => ?_⟩
  · show 0 ≤ 38610 + mnW W v tc
    rcases mnW_at W v tc with e | ⟨a, a1, a2, a3⟩
    · omega
    · have := h1 a a1 v hv a2
      omega
  · show 38610 + mnW W (T r) tc - (38610 + mnW W (F r) tc) ≤ (L r).toInt
    have hf := hF r hr
    have hd := h3 (F r) hf.1
    have hm := mnW_le W (F r) tc (F r) hf.1 hd.1
    rcases mnW_at W (F r) tc with e | ⟨a, a1, a2, a3⟩
    · omega
    · obtain ⟨c1, c2⟩ := h2 a a1 r hr hz a2
      have := mnW_le W (T r) tc a a1 c1
      dsimp only at c2
      omega
/-! the earliest times are the least, and small -/
theorem rndF_le {tc rc : Nat} {F T : Nat → Nat} {L : Nat → Int32} {A : Nat → Bool} {t0 : Nat → Int} (hF : okR tc rc F T) (hL : lenR rc L) (hrc : rc ≤ 30) (ht : fea tc rc F T L A t0) : ∀ (n k : Nat) (E : Nat → Int32) (K : Int), bnd tc K E → K + 2970 * (n : Int) ≤ 1000000 → (∀ v, v < tc → (E v).toInt ≤ t0 v) → ∀ v, v < tc → ((rndF F T L A rc n k E).1 v).toInt ≤ t0 v
  | 0, _, _, _, _, _, h => h
  | n + 1, k, E, K, hb, hK, h => by
    have h1 := passF_bnd A hF hL rc 0 E false K (by omega) hb (by omega)
    have h2 : bnd tc (K + 2970) (passF F T L A rc 0 E false).1 := fun v hv => by
      have := h1 v hv
      omega
    have h3 := (passF_le hF hL ht rc 0 E false K (by omega) hb (by omega) h).1
    unfold rndF
    split
    · exact rndF_le hF hL hrc ht n (k + 1) _ (K + 2970) h2 (by omega) h3
    · exact h3
theorem ear_le {tc rc : Nat} {F T : Nat → Nat} {L : Nat → Int32} {A : Nat → Bool} {t0 : Nat → Int} (htc : tc ≤ 12) (hrc : rc ≤ 30) (hF : okR tc rc F T) (hL : lenR rc L) (ht : fea tc rc F T L A t0) : ∀ v, v < tc → (earM F T L A tc rc v).toInt ≤ t0 v := fun v hv => by
  obtain ⟨h3, -⟩ := rnd_rel F T L A htc hF (tc + 1) 0 (upd (fun _ => 0) 12 (-1)) (by omega)
  have h0 : bnd tc 0 (upd (fun _ => 0) 12 (-1)) := fun v hv => by
    rw [pk_un (show ¬ v = 12 by omega)]
    exact ⟨Int.le_refl _, Int.le_refl _⟩
  unfold earM
  rw [h3 v (by omega)]
  refine rndF_le hF hL hrc ht (tc + 1) 0 _ 0 h0 (by omega) (fun v hv => ?_) v hv
  rw [pk_un (show ¬ v = 12 by omega)]
  exact ht.1 v hv
def cnU (P : Nat → Bool) : Nat → Nat
  | 0 => 0
  | n + 1 => cnU P n + (if P n = true then 1 else 0)
theorem cnU_le (P : Nat → Bool) : ∀ n, cnU P n ≤ n
  | 0 => Nat.le_refl 0
  | n + 1 => by
    have := cnU_le P n
    unfold cnU
    split <;> omega
theorem cnU_mono {P P' : Nat → Bool} : ∀ n, (∀ v, v < n → P' v = true → P v = true) → cnU P' n ≤ cnU P n
  | 0, _ => Nat.le_refl 0
  | n + 1, h => by
    have ih := cnU_mono n (fun v hv => h v (by omega))
    unfold cnU
    by_cases h2 : P' n = true
    · rw [if_pos h2, if_pos (h n (by omega) h2)]
      omega
    · rw [if_neg h2]
      omega
theorem cnU_lt {P P' : Nat → Bool} {w : Nat} : ∀ n, (∀ v, v < n → P' v = true → P v = true) → w < n → P w = true → ¬ P' w = true → cnU P' n < cnU P n
  | 0, _, h, _, _ => by omega
  | n + 1, h, hw, h1, h2 => by
    have hm := cnU_mono n (fun v hv => h v (by omega))
    unfold cnU
    by_cases hn : w = n
    · subst hn
      rw [if_neg h2, if_pos h1]
      omega
    · have := cnU_lt n (fun v hv => h v (by omega)) (by omega) h1 h2
      by_cases h3 : P' n = true
      · rw [if_pos h3, if_pos (h n (by omega) h3)]
        omega
      · rw [if_neg h3]
        omega
theorem cnU_all {P : Nat → Bool} : ∀ n, n ≤ cnU P n → ∀ v, v < n → P v = true
  | 0, _, _, h => by omega
  | n + 1, h, v, hv => by
    have h1 := cnU_le P n
    unfold cnU at h
    by_cases h2 : P n = true
    · rw [if_pos h2] at h
      by_cases hn : v = n
      · subst hn; exact h2
      · exact cnU_all n (by omega) v (by omega)
    · rw [if_neg h2] at h
      omega
theorem cnU_0 {P : Nat → Bool} : ∀ n, cnU P n = 0 → ∀ v, v < n → ¬ P v = true
  | 0, _, _, h => by omega
  | n + 1, h, v, hv => by
    unfold cnU at h
    by_cases h2 : P n = true
    · rw [if_pos h2] at h
      omega
    · by_cases hn : v = n
      · subst hn; exact h2
      · exact cnU_0 n (by omega) v (by omega)
/-- no gap: where one is later than x, one is later by 99 at the most -/
theorem ear_gap {tc rc : Nat} {F T : Nat → Nat} {L : Nat → Int32} {A : Nat → Bool} (htc : tc ≤ 12) (hrc : rc ≤ 30) (hF : okR tc rc F T) (hL : lenR rc L) (h : ¬ earM F T L A tc rc 12 = -1) {x : Int} (hx : -99 ≤ x) {w : Nat} (hw : w < tc) (hlt : x < (earM F T L A tc rc w).toInt) : ∃ v, v < tc ∧ x < (earM F T L A tc rc v).toInt ∧ (earM F T L A tc rc v).toInt ≤ x + 99 := by
  apply Classical.byContradiction
  intro hno
  have hno2 : ∀ v, v < tc → x < (earM F T L A tc rc v).toInt → x + 99 < (earM F T L A tc rc v).toInt := fun v hv h1 => by
    apply Classical.byContradiction
    intro h2
    exact hno ⟨v, hv, h1, by omega⟩
  obtain ⟨t1, t2⟩ := ear_ttb htc hrc hF hL h
  have hfea : fea tc rc F T L A (fun v => if x < (earM F T L A tc rc v).toInt then (earM F T L A tc rc v).toInt - 1 else (earM F T L A tc rc v).toInt) := by
    refine ⟨fun v hv => ?_, fun r hr hz => ?_⟩
    · have h1 := (t1 v hv).1
      dsimp only at h1 ⊢
      split
      · rename_i h2
        have := hno2 v hv h2
        omega
      · exact h1
    · have h1 := t2 r hr hz
      have hf := hF r hr
      have hl := hL r hr
      dsimp only at h1 ⊢
      by_cases hT : x < (earM F T L A tc rc (T r)).toInt
      · rw [if_pos hT]
        split
        · omega
        · omega
      · rw [if_neg hT]
        split
        · rename_i h2
          have := hno2 _ hf.1 h2
          omega
        · omega
  have := ear_le htc hrc hF hL hfea w hw
  rw [if_pos hlt] at this
  omega
theorem ear_small {tc rc : Nat} {F T : Nat → Nat} {L : Nat → Int32} {A : Nat → Bool} (htc : tc ≤ 12) (hrc : rc ≤ 30) (hF : okR tc rc F T) (hL : lenR rc L) (h : ¬ earM F T L A tc rc 12 = -1) : ∀ v, v < tc → 0 ≤ (earM F T L A tc rc v).toInt ∧ (earM F T L A tc rc v).toInt ≤ 1089 := by
  have key : ∀ k : Nat, (if tc ≤ k then tc else k) ≤ cnU (fun v => decide ((earM F T L A tc rc v).toInt ≤ 99 * (k : Int) - 99)) tc := by
    intro k
    induction k with
    | zero =>
      by_cases h0 : tc ≤ 0
      · rw [if_pos h0]
        omega
      · rw [if_neg h0]
        exact Nat.zero_le _
    | succ k ih =>
      have hmono : ∀ v, v < tc → decide ((earM F T L A tc rc v).toInt ≤ 99 * (k : Int) - 99) = true → decide ((earM F T L A tc rc v).toInt ≤ 99 * ((k + 1 : Nat) : Int) - 99) = true := fun v hv h1 => by
        rw [decide_eq_true_eq] at h1 ⊢
        omega
      have hm := cnU_mono tc hmono
      by_cases hall : ∀ v, v < tc → (earM F T L A tc rc v).toInt ≤ 99 * (k : Int) - 99
      · have hfull : ∀ n, n ≤ tc → n ≤ cnU (fun v => decide ((earM F T L A tc rc v).toInt ≤ 99 * ((k + 1 : Nat) : Int) - 99)) n := by
          intro n
          induction n with
          | zero => intro _; exact Nat.zero_le _
          | succ n ih2 =>
            intro hn
            have := ih2 (by omega)
            have h9 := hall n (by omega)
            unfold cnU
            rw [if_pos (by rw [decide_eq_true_eq]; omega)]
            omega
        have := hfull tc (Nat.le_refl _)
        split <;> omega
      · have hex : ∃ w, w < tc ∧ 99 * (k : Int) - 99 < (earM F T L A tc rc w).toInt := by
          apply Classical.byContradiction
          intro hno
          exact hall (fun v hv => by
            apply Classical.byContradiction
            intro h2
            exact hno ⟨v, hv, by omega⟩)
        obtain ⟨w, hw, hlt⟩ := hex
        obtain ⟨v, v1, v2, v3⟩ := ear_gap htc hrc hF hL h (x := 99 * (k : Int) - 99) (by omega) hw hlt
        have hlt2 := cnU_lt (P' := fun v => decide ((earM F T L A tc rc v).toInt ≤ 99 * (k : Int) - 99)) (P := fun v => decide ((earM F T L A tc rc v).toInt ≤ 99 * ((k + 1 : Nat) : Int) - 99)) tc hmono v1 (by rw [decide_eq_true_eq]; omega) (by rw [decide_eq_true_eq]; omega)
        split at ih <;> split <;> omega
  intro v hv
  have h1 := ((ear_ttb htc hrc hF hL h).1 v hv).1
  have h2 := key 12
  rw [if_pos htc] at h2
  have h3 := cnU_all tc h2 v hv
  rw [decide_eq_true_eq] at h3
  dsimp only at h1
  omega
/-! the class's table respects what is closed -/
def rspG (tc rc : Nat) (F T : Nat → Nat) (L : Nat → Int32) (Z : Nat → Bool) (M : Nat → Nat → Int32) : Prop := ∀ P G, clo rc F T L Z P G → ∀ a, a < tc → P a → rsp tc P G (G a) (M a)
theorem mn_or (x y : Int32) : mnI x y = x ∨ mnI x y = y := by
  unfold mnI
  split
  · exact Or.inr rfl
  · exact Or.inl rfl
theorem rspG_upd {tc rc : Nat} {F T : Nat → Nat} {L : Nat → Int32} {Z : Nat → Bool} {M : Nat → Nat → Int32} (h : rspG tc rc F T L Z M) {a b : Nat} {x : Int32} (hx : ∀ P G, clo rc F T L Z P G → a < tc → b < tc → P a → ¬ x = 99999 → P b ∧ G b ≤ G a + x.toInt) : rspG tc rc F T L Z (updG M a b x) := fun P G hG i hi hp v hv hn => by
  rw [updG_eq] at hn ⊢
  by_cases hc : i = a ∧ v = b
  · rw [if_pos hc] at hn ⊢
    obtain ⟨rfl, rfl⟩ := hc
    exact hx P G hG hi hv hp hn
  · rw [if_neg hc] at hn ⊢
    exact h P G hG i hi hp v hv hn
theorem gB_rsp {tc rc v a : Nat} {F T : Nat → Nat} {L : Nat → Int32} {Z : Nat → Bool} {t : Nat → Int} (hs : sml tc t) (hv : v < tc) (ha : a < tc) : ∀ (n b : Nat) (M : Nat → Nat → Int32), b + n = tc → pot tc t M → dia tc M → rspG tc rc F T L Z M → rspG tc rc F T L Z (gB v a n b M)
  | 0, _, _, _, _, _, h => h
  | n + 1, b, M, hb, hp, hd, h => by
    have hk := gB_keep hs hv ha 1 b M
    unfold gB
    by_cases hc : ¬ M a v = 99999 ∧ ¬ M v b = 99999
    · rw [if_pos hc]
      have hsum := pot_sum hs hp ha hv (show b < tc by omega)
      have hm := pot_mn hs hp ha hv (show b < tc by omega)
      have hup := pot_upd hp hd (a := a) (b := b) (x := mnI (M a b) (M a v + M v b)) hm.1 hm.2
      refine gB_rsp hs hv ha n (b + 1) _ (by omega) hup.1 (hup.2 ha) (rspG_upd h (fun P G hG _ hbt hpa hn => ?_))
      rcases mn_or (M a b) (M a v + M v b) with e | e
      · rw [e] at hn ⊢
        exact h P G hG a ha hpa b hbt hn
      · rw [e] at hn ⊢
        obtain ⟨p1, p2⟩ := h P G hG a ha hpa v hv hc.1
        obtain ⟨p3, p4⟩ := h P G hG v hv p1 b hbt hc.2
        exact ⟨p3, by omega⟩
    · rw [if_neg hc]
      exact gB_rsp hs hv ha n (b + 1) M (by omega) hp hd h
theorem gA_rsp {tc rc v : Nat} {F T : Nat → Nat} {L : Nat → Int32} {Z : Nat → Bool} {t : Nat → Int} (hs : sml tc t) (hv : v < tc) : ∀ (n a : Nat) (M : Nat → Nat → Int32), a + n = tc → pot tc t M → dia tc M → rspG tc rc F T L Z M → rspG tc rc F T L Z (gA v tc n a M)
  | 0, _, _, _, _, _, h => h
  | n + 1, a, M, hm, hp, hd, h => by
    obtain ⟨k1, k2, -⟩ := gB_keep hs hv (show a < tc by omega) tc 0 M (by omega) hp hd
    exact gA_rsp hs hv n (a + 1) _ (by omega) k1 k2 (gB_rsp hs hv (by omega) tc 0 M (by omega) hp hd h)
theorem gV_rsp {tc rc : Nat} {F T : Nat → Nat} {L : Nat → Int32} {Z : Nat → Bool} {t : Nat → Int} (hs : sml tc t) : ∀ (n v : Nat) (M : Nat → Nat → Int32), v + n = tc → pot tc t M → dia tc M → rspG tc rc F T L Z M → rspG tc rc F T L Z (gV tc n v M)
  | 0, _, _, _, _, _, h => h
  | n + 1, v, M, hm, hp, hd, h => by
    obtain ⟨k1, k2, -⟩ := gA_keep hs (show v < tc by omega) tc 0 M (by omega) hp hd
    exact gV_rsp hs n (v + 1) _ (by omega) k1 k2 (gA_rsp hs (by omega) tc 0 M (by omega) hp hd h)
theorem gRop_rsp {tc rc : Nat} {F T : Nat → Nat} {L : Nat → Int32} {Z : Nat → Bool} : ∀ (n r : Nat) (M : Nat → Nat → Int32), r + n = rc → rspG tc rc F T L Z M → rspG tc rc F T L Z (gRop F T L Z n r M)
  | 0, _, _, _, h => h
  | n + 1, r, M, hm, h => by
    show rspG tc rc F T L Z (gRop F T L Z n (r + 1) _)
    refine gRop_rsp n (r + 1) _ (by omega) ?_
    split
    · rename_i hz
      refine rspG_upd h (fun P G hG ha hb hp hn => ?_)
      rcases mn_or (M (F r) (T r)) (L r) with e | e
      · rw [e] at hn ⊢
        exact h P G hG _ ha hp _ hb hn
      · rw [e]
        exact hG r (by omega) hz hp
    · exact h
theorem way_rsp {tc rc : Nat} {F T : Nat → Nat} {L : Nat → Int32} {Z : Nat → Bool} {t : Nat → Int} (htc : tc ≤ 12) (hF : okR tc rc F T) (hL : lenR rc L) (ht : ttb tc rc F T L Z 38610 t) : rspG tc rc F T L Z (wayM F T L Z tc rc) := by
  have hs : sml tc t := ht.1
  obtain ⟨i1, i2⟩ := ini_pot htc hs
  obtain ⟨g1, g2, -⟩ := gRop_pot hF hL ht rc 0 _ (by omega) i1 i2
  refine gV_rsp hs tc 0 _ (by omega) g1 g2 (gRop_rsp rc 0 _ (by omega) (fun P G hG a ha hp v hv hn => ?_))
  rw [gIni_eq, if_pos (by omega)] at hn ⊢
  split at hn
  · rename_i h9
    subst h9
    rw [if_pos rfl, i_0]
    exact ⟨hp, by omega⟩
  · exact absurd rfl hn
