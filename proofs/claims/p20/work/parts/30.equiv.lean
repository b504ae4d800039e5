/-! what stands between two calls, and how it goes on -/
theorem sumF_ag {tc : Nat} {E E' : Nat → Int32} (h : ag tc E E') : ∀ n i sm, i + n = tc → sumF E n i sm = sumF E' n i sm
  | 0, _, _, _ => rfl
  | n + 1, i, sm, hm => by
    show sumF E n (i + 1) _ = sumF E' n (i + 1) _
    rw [h i (by omega)]
    exact sumF_ag h n (i + 1) _ (by omega)
section QE
variable {tc rc : Nat} {F T : Nat → Nat} {L : Nat → Int32} {Z : Nat → Bool} {ro : Int32} {E B : Nat → Int32}
theorem inv_tt (h : xInv tc rc F T L Z ro E B) (hro : ¬ ro = -1) : ttb tc rc F T L Z 38610 (fun v => (earM F T L Z tc rc v).toInt) :=
  ear_ttb h.1 h.2.1 h.2.2.1 h.2.2.2.1 (by rw [← h.2.2.2.2.1]; exact hro)
theorem q_settle (htc : tc ≤ 12) (hrc : rc ≤ 30) (hF : okR tc rc F T) (hL : ∀ r, r < rc → -99 ≤ (L r).toInt ∧ (L r).toInt ≤ 99) (E B : Nat → Int32) : xInv tc rc F T L Z (sRo F T L Z tc rc E) (sE F T L Z tc rc E) (sB F T L Z tc rc E B) := by
  obtain ⟨e1, e2⟩ := ear_rel L htc hF (actC_m1 Z hrc) E
  refine ⟨htc, hrc, hF, hL, e1, e2, fun hne a b ha hb => ?_⟩
  unfold sB
  rw [if_neg hne]
  exact way_eq htc hF hL (ear_ttb htc hrc hF hL (by rw [← e1]; exact hne)) B a b ha hb
theorem q_most (h : xInv tc rc F T L Z ro E B) (hro : ¬ ro = -1) {a b : Nat} (ha : a < tc) (hb : b < tc) : wayM F T L Z tc rc a b = B (a * 12 + b) := (h.2.2.2.2.2.2 hro a b ha hb).symm
theorem q_room (h : xInv tc rc F T L Z ro E B) (hro : ¬ ro = -1) {a b : Nat} (ha : a < tc) (hb : b < tc) : leastG (wayM F T L Z tc rc) a b = leastF B a b := by
  unfold leastG leastF
  rw [q_most h hro hb ha]
theorem last_le {tc : Nat} {E : Nat → Int32} (h : bnd tc 38610 E) : ∀ (n i : Nat) (mx : Int32), i + n = tc → mx.toInt ≤ 38610 → (lastF E n i mx).toInt ≤ 38610
  | 0, _, _, _, h2 => h2
  | n + 1, i, mx, hm, h2 => by
    have := h i (by omega)
    refine last_le h n (i + 1) _ (by omega) ?_
    rw [i_mx]
    split <;> omega
theorem adv_rel (htc : tc ≤ 12) (hrc : rc ≤ 30) (hF : okR tc rc F T) (hL : lenR rc L) : ∀ (n r : Nat) (best lm lc : Int32) (X : Nat → Int32), r + n = rc → (lm = lc ∨ (lm = 2147483647 ∧ lc = 99999)) → adM F T L Z tc rc n r best lm = advL F T L Z tc rc n r best lc X
  | 0, _, _, _, _, _, _, _ => rfl
  | n + 1, r, best, lm, lc, X, hm, h => by
    have hr : r < rc := by omega
    obtain ⟨e1, e2⟩ := ear_rel L htc hF (actC_r0 Z hrc hr) X
    have e3 := lastF_ag e2 tc 0 0 (by omega)
    have hb := last_le (ear_bnd (A := updB Z r false) htc hrc hF hL) tc 0 0 (by omega) (by rw [i_0]; omega)
    unfold adM advL
    rw [e1, e3]
    by_cases hz : Z r = true
    · rw [if_pos hz, if_pos hz]
      by_cases hq : earM F T L (updB Z r false) tc rc 12 = -1
      · rw [if_pos hq, if_pos hq]
        exact adv_rel htc hrc hF hL n (r + 1) _ _ _ _ (by omega) h
      · rw [if_neg hq, if_neg hq]
        have hc : (lastF (earM F T L (updB Z r false) tc rc) tc 0 0 < lm) ↔ (lastF (earM F T L (updB Z r false) tc rc) tc 0 0 < lc) := by
          rcases h with h | ⟨h1, h2⟩
          · rw [h]
          · rw [h1, h2, i_lt, i_lt, i_inf]
            have : (2147483647 : Int32).toInt = 2147483647 := by decide
            omega
        by_cases hd : lastF (earM F T L (updB Z r false) tc rc) tc 0 0 < lm
        · rw [if_pos hd, if_pos (hc.mp hd)]
          exact adv_rel htc hrc hF hL n (r + 1) _ _ _ _ (by omega) (Or.inl rfl)
        · rw [if_neg hd, if_neg (fun z => hd (hc.mpr z))]
          exact adv_rel htc hrc hF hL n (r + 1) _ _ _ _ (by omega) h
    · rw [if_neg hz, if_neg hz]
      exact adv_rel htc hrc hF hL n (r + 1) _ _ _ _ (by omega) h
theorem q_adv (h : xInv tc rc F T L Z ro E B) : advM F T L Z tc rc = advC ro E F T L Z tc rc := by
  obtain ⟨htc, hrc, hF, hL, hro, hE, hB⟩ := id h
  unfold advM advC
  refine adv_rel htc hrc hF hL rc 0 _ _ _ _ (by omega) ?_
  rw [← hro, ← lastF_ag hE tc 0 0 (by omega)]
  by_cases hne : ro = -1
  · rw [if_pos hne, if_pos hne]
    exact Or.inr ⟨rfl, rfl⟩
  · rw [if_neg hne, if_neg hne]
    exact Or.inl rfl
theorem tAll_tg (htc : tc ≤ 12) (hrc : rc ≤ 30) (hF : okR tc rc F T) : ∀ (n r : Nat) (sm : Int32) (L : Nat → Int32) (ro : Int32) (E B : Nat → Int32), r + n = rc → xInv tc rc F T L Z ro E B → ¬ ro = -1 →
    (tAll F T Z tc rc n r sm (L, ro, E, B)).1 = (tgM F T Z tc rc n r sm L).1 ∧ (tAll F T Z tc rc n r sm (L, ro, E, B)).2.1 = (tgM F T Z tc rc n r sm L).2 ∧ xInv tc rc F T (tAll F T Z tc rc n r sm (L, ro, E, B)).2.1 Z (tAll F T Z tc rc n r sm (L, ro, E, B)).2.2.1 (tAll F T Z tc rc n r sm (L, ro, E, B)).2.2.2.1 (tAll F T Z tc rc n r sm (L, ro, E, B)).2.2.2.2
  | 0, _, _, _, _, _, _, _, h, _ => ⟨rfl, rfl, h⟩
  | n + 1, r, sm, L, ro, E, B, hm, h, hro => by
    have hr : r < rc := by omega
    have hf := hF r hr
    have hL := h.2.2.2.1
    unfold tAll tgM
    by_cases hz : Z r = true
    · rw [if_pos hz, if_pos hz]
      have ht := inv_tt h hro
      have hx := least_le htc hF hL ht hr hz
      have hl := hL r hr
      have e1 := q_room h hro hf.1 hf.2
      have e2 : tOneD F T r (L, ro, E, B) = L r - leastG (wayM F T L Z tc rc) (F r) (T r) := by
        rw [e1]
        rfl
      have hn := tt_new htc hF hL ht hr
      generalize hxx : leastG (wayM F T L Z tc rc) (F r) (T r) = x at *
      have e3 : (L r - x).toInt = (L r).toInt - x.toInt := i_sub (by omega) (by omega)
      have e4 : L r - (L r - x) = x := by
        rw [i_eq, i_sub (by omega) (by omega), e3]
        omega
      rw [e2]
      unfold tOneS
      rw [e2]
      by_cases hd : 0 < L r - x
      · rw [if_pos hd]
        show (tAll F T Z tc rc n (r + 1) _ (upd L r (L r - (L r - x)), sRo F T (upd L r (L r - (L r - x))) Z tc rc E, sE F T (upd L r (L r - (L r - x))) Z tc rc E, sB F T (upd L r (L r - (L r - x))) Z tc rc E B)).1 = _ ∧ _
        rw [e4]
        have hI2 := q_settle (Z := Z) htc hrc hF (upd_len hL (x := x) (by omega) r) E B
        refine tAll_tg htc hrc hF n (r + 1) _ _ _ _ _ (by omega) hI2 ?_
        rw [hI2.2.2.2.2.1]
        exact ear_comp htc hrc hF (upd_len hL (x := x) (by omega) r) ⟨fun v hv => (hn.1 v hv).1, hn.2⟩
      · rw [if_neg hd]
        have e5 : x = L r := by
          rw [i_lt, i_0, e3] at hd
          rw [i_eq]
          omega
        have e6 : upd L r x = L := by
          funext j
          unfold upd
          split
          · rename_i hj
            rw [e5, hj]
          · rfl
        rw [e6]
        exact tAll_tg htc hrc hF n (r + 1) _ _ _ _ _ (by omega) h hro
    · rw [if_neg hz, if_neg hz]
      exact tAll_tg htc hrc hF n (r + 1) _ _ _ _ _ (by omega) h hro
theorem q_tight (h : xInv tc rc F T L Z ro E B) : (tightA F T Z tc rc (L, ro, E, B)).1 = (tgA F T Z tc rc L).1 ∧ (tightA F T Z tc rc (L, ro, E, B)).2.1 = (tgA F T Z tc rc L).2 ∧ xInv tc rc F T (tightA F T Z tc rc (L, ro, E, B)).2.1 Z (tightA F T Z tc rc (L, ro, E, B)).2.2.1 (tightA F T Z tc rc (L, ro, E, B)).2.2.2.1 (tightA F T Z tc rc (L, ro, E, B)).2.2.2.2 := by
  unfold tightA tgA
  rw [← h.2.2.2.2.1]
  by_cases hro : ro = -1
  · rw [if_pos hro, if_pos (show (L, ro, E, B).2.1 = -1 from hro)]
    exact ⟨rfl, rfl, h⟩
  · rw [if_neg hro, if_neg (show ¬ (L, ro, E, B).2.1 = -1 from hro)]
    exact tAll_tg h.1 h.2.1 h.2.2.1 rc 0 0 L ro E B (by omega) h hro
end QE
