/-! both mills answer alike -/
section QE
variable {tc rc : Nat} {F T : Nat → Nat} {L : Nat → Int32} {Z : Nat → Bool} {ro : Int32} {E B : Nat → Int32}
theorem q_settle (htc : tc ≤ 12) (hrc : rc ≤ 30) (hF : okR tc rc F T) (hL : ∀ r, r < rc → -99 ≤ (L r).toInt ∧ (L r).toInt ≤ 99) (E B : Nat → Int32) : xInv tc rc F T L Z (sRo F T L Z tc rc E) (sE F T L Z tc rc E) (sB F T L Z tc rc E B) := by
  sorry
theorem q_tight (h : xInv tc rc F T L Z ro E B) : (tightA F T Z tc rc (L, ro, E, B)).1 = (tgA F T Z tc rc L).1 ∧ (tightA F T Z tc rc (L, ro, E, B)).2.1 = (tgA F T Z tc rc L).2 ∧ xInv tc rc F T (tightA F T Z tc rc (L, ro, E, B)).2.1 Z (tightA F T Z tc rc (L, ro, E, B)).2.2.1 (tightA F T Z tc rc (L, ro, E, B)).2.2.2.1 (tightA F T Z tc rc (L, ro, E, B)).2.2.2.2 := by
  sorry
theorem q_told (h : xInv tc rc F T L Z ro E B) {r w : Nat} (hr : r < rc) : toldF (earM F T L Z tc rc 12) (earM F T L Z tc rc) F T L Z r w = toldF ro E F T L Z r w := by
  sorry
theorem q_about (h : xInv tc rc F T L Z ro E B) {v w : Nat} (hv : v < tc) : aboutF (earM F T L Z tc rc 12) (earM F T L Z tc rc) F T Z rc v w = aboutF ro E F T Z rc v w := by
  sorry
theorem q_count (h : xInv tc rc F T L Z ro E B) {w : Nat} (hw : w < 7) : cntM (earM F T L Z tc rc) F T L Z tc rc w = cntR ro E F T L Z tc rc w := by
  sorry
theorem q_kLate (h : xInv tc rc F T L Z ro E B) (p0 p1 : Int32) : kLate tc (earM F T L Z tc rc 12) (earM F T L Z tc rc) p0 p1 = kLate tc ro E p0 p1 := by
  sorry
theorem q_late (h : xInv tc rc F T L Z ro E B) (hro : ¬ ro = -1) {w : Nat} {en : Int32} (hw : w < tc) (hen : endB en = true) : en + lateG (wayM F T L Z tc rc) w tc 0 0 = lateF B w en tc 0 en := by
  sorry
theorem q_most (h : xInv tc rc F T L Z ro E B) (hro : ¬ ro = -1) {a b : Nat} (ha : a < tc) (hb : b < tc) : wayM F T L Z tc rc a b = B (a * 12 + b) := by
  sorry
theorem q_room (h : xInv tc rc F T L Z ro E B) (hro : ¬ ro = -1) {a b : Nat} (ha : a < tc) (hb : b < tc) : leastG (wayM F T L Z tc rc) a b = leastF B a b := by
  sorry
theorem q_would (h : xInv tc rc F T L Z ro E B) {a b : Nat} {w : Int32} (ha : a < tc) (hb : b < tc) (hw : lenB w = true) : (decide (¬ earM F T L Z tc rc 12 = -1) && (decide (wayM F T L Z tc rc b a = 99999) || !(decide (wayM F T L Z tc rc b a + w < 0)))) = (decide (¬ ro = -1) && !(decide (w < leastF B a b))) := by
  sorry
theorem q_at (h : xInv tc rc F T L Z ro E B) (k : Nat) : atF (earM F T L Z tc rc) tc k tc 0 = atF E tc k tc 0 := by
  sorry
theorem q_adv (h : xInv tc rc F T L Z ro E B) : advM F T L Z tc rc = advC ro E F T L Z tc rc := by
  sorry
theorem q_mean (h : xInv tc rc F T L Z ro E B) : meanF (earM F T L Z tc rc 12) (earM F T L Z tc rc) tc = meanF ro E tc := by
  sorry
theorem q_dg (h : xInv tc rc F T L Z ro E B) : dgMF F T L Z tc rc = dgF ro E B F T L Z tc rc := by
  sorry
end QE
