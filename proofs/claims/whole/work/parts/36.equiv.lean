/-! both mills answer alike -/
theorem sumF_ag {tc : Nat} {E E' : Nat → Int32} (h : ag tc E E') : ∀ n i sm, i + n = tc → sumF E n i sm = sumF E' n i sm
  | 0, _, _, _ => rfl
  | n + 1, i, sm, hm => by
    show sumF E n (i + 1) _ = sumF E' n (i + 1) _
    rw [h i (by omega)]
    exact sumF_ag h n (i + 1) _ (by omega)
theorem aheadF_ag {tc v : Nat} {E E' : Nat → Int32} (h : ag tc E E') (hv : v < tc) : ∀ n i k, i + n = tc → aheadF E v n i k = aheadF E' v n i k
  | 0, _, _, _ => rfl
  | n + 1, i, k, hm => by
    show aheadF E v n (i + 1) _ = aheadF E' v n (i + 1) _
    rw [h i (by omega), h v hv]
    exact aheadF_ag h hv n (i + 1) _ (by omega)
theorem atF_ag {tc pl : Nat} {E E' : Nat → Int32} (h : ag tc E E') : ∀ n v, v + n = tc → atF E tc pl n v = atF E' tc pl n v
  | 0, _, _ => rfl
  | n + 1, v, hm => by
    unfold atF
    rw [aheadF_ag h (by omega) tc 0 0 (by omega)]
    split
    · rfl
    · exact atF_ag h n (v + 1) (by omega)
theorem sumB_count (Z : Nat → Bool) : ∀ n i k, sumB Z n i (nI k) = nI (countF Z n i k)
  | 0, _, _ => rfl
  | n + 1, i, k => by
    show sumB Z n (i + 1) (nI k + bI (Z i)) = nI (countF Z n (i + 1) (if Z i = true then k + 1 else k))
    cases hz : Z i with
    | true =>
      rw [if_pos rfl, show nI k + bI true = nI (k + 1) from x_inc k]
      exact sumB_count Z n (i + 1) (k + 1)
    | false =>
      rw [if_neg (by decide), show nI k + bI false = nI k from Int32.add_zero _]
      exact sumB_count Z n (i + 1) k
theorem dgS_congr {f g : Nat → Int32} {m : Nat} (h : ∀ j, j < m → f j = g j) : ∀ n i d, i + n = m → dgS f n i d = dgS g n i d
  | 0, _, _, _ => rfl
  | n + 1, i, d, hm => by
    show dgS f n (i + 1) _ = dgS g n (i + 1) _
    rw [h i (by omega)]
    exact dgS_congr h n (i + 1) _ (by omega)
theorem dgD_congr {f g : Nat → Nat → Int32} {m m2 : Nat} (h : ∀ v, v < m2 → ∀ j, j < m → f v j = g v j) : ∀ n v d, v + n = m2 → dgD f m n v d = dgD g m n v d
  | 0, _, _, _ => rfl
  | n + 1, v, d, hm => by
    show dgD f m n (v + 1) (dgS (f v) m 0 d) = dgD g m n (v + 1) (dgS (g v) m 0 d)
    rw [dgS_congr (h v (by omega)) m 0 d (by omega)]
    exact dgD_congr h n (v + 1) _ (by omega)
/-! rings -/
theorem rgS_eq (st : Nat) : ∀ n i S j, rgS st n i S j = if i ≤ j ∧ j < i + n then (if j = st then 0 else 99999) else S j
  | 0, i, S, j => by rw [if_neg (by omega)]; rfl
  | n + 1, i, S, j => by
    unfold rgS
    rw [rgS_eq st n (i + 1) _ j]
    by_cases h : i + 1 ≤ j ∧ j < i + 1 + n
    · rw [if_pos h, if_pos (show i ≤ j ∧ j < i + (n + 1) by omega)]
    · rw [if_neg h]
      unfold upd
      by_cases h2 : j = i
      · rw [if_pos h2, if_pos (show i ≤ j ∧ j < i + (n + 1) by omega), h2]
      · rw [if_neg h2, if_neg (show ¬ (i ≤ j ∧ j < i + (n + 1)) by omega)]
theorem rgM_stop (F T : Nat → Nat) (L : Nat → Int32) (Z : Nat → Bool) (rc st : Nat) : ∀ n k best S, ¬ best = 0 → best ≤ k → rgM F T L Z rc st n k best S = best
  | 0, _, _, _, _, _ => rfl
  | n + 1, k, best, S, h1, h2 => by
    unfold rgM
    rw [if_neg (by omega)]
theorem ringL_ge (F T : Nat → Nat) (L : Nat → Int32) (Z : Nat → Bool) (tc rc st : Nat) : ∀ n k q, (ringL F T L Z tc rc st n k q).1 = 0 ∨ k ≤ (ringL F T L Z tc rc st n k q).1
  | 0, _, _ => Or.inl rfl
  | n + 1, k, q => by
    unfold ringL
    split
    · exact Or.inr (Nat.le_refl _)
    · have := ringL_ge F T L Z tc rc st n (k + 1) (oneR F T L Z tc rc q)
      omega
theorem oneR_rgN {tc rc : Nat} {F T : Nat → Nat} (L : Nat → Int32) (Z : Nat → Bool) (htc : tc ≤ 12) (hF : okR tc rc F T) {q : (Nat → Int32) × (Nat → Int32)} {S : Nat → Int32} (h : ag tc q.1 S) : ag tc (oneR F T L Z tc rc q).1 (rgN F T L Z rc S) := fun j hj => by
  show copyF _ tc 0 q.1 j = _
  rw [copyF_in _ tc 0 _ j (by omega) (by omega)]
  refine goW_ag L Z hF h rc 0 _ _ (by omega) (fun i hi => ?_) j hj
  rw [fillF_in 99999 tc 0 _ i (by omega) (by omega), fillF_in 99999 12 0 _ i (by omega) (by omega)]
theorem rgM_ring {tc rc st : Nat} {F T : Nat → Nat} (L : Nat → Int32) (Z : Nat → Bool) (htc : tc ≤ 12) (hF : okR tc rc F T) (hst : st < tc) : ∀ n k best S q, 1 ≤ k → ag tc q.1 S → rgM F T L Z rc st n k best S = if ¬ (ringL F T L Z tc rc st n k q).1 = 0 ∧ (best = 0 ∨ (ringL F T L Z tc rc st n k q).1 < best) then (ringL F T L Z tc rc st n k q).1 else best
  | 0, _, _, _, _, _, _ => by rw [if_neg (fun z => z.1 rfl)]; rfl
  | n + 1, k, best, S, q, hk, h => by
    have h1 := oneR_rgN L Z htc hF h
    have hge := ringL_ge F T L Z tc rc st (n + 1) k q
    unfold rgM
    by_cases hb : best = 0 ∨ k < best
    · rw [if_pos hb, ← h1 st hst]
      unfold ringL
      by_cases hn : (oneR F T L Z tc rc q).1 st < 0
      · rw [if_pos hn, if_pos hn, rgM_stop F T L Z rc st n (k + 1) k _ (by omega) (by omega), if_pos ⟨(by omega : ¬ k = 0), hb⟩]
      · rw [if_neg hn, if_neg hn]
        exact rgM_ring L Z htc hF hst n (k + 1) best _ _ (by omega) h1
    · rw [if_neg hb, if_neg (by omega)]
theorem rgA_ring {tc rc : Nat} {F T : Nat → Nat} (L : Nat → Int32) (Z : Nat → Bool) (htc : tc ≤ 12) (hF : okR tc rc F T) : ∀ n st few q, st + n = tc → rgA F T L Z tc rc n st few = (ringA F T L Z tc rc n st few q).1
  | 0, _, _, _, _ => rfl
  | n + 1, st, few, q, hm => by
    have hst : st < tc := by omega
    unfold rgA ringA
    have h0 : ag tc (upd (fillF 99999 tc 0 q.1) st 0) (rgS st 12 0 (fun _ => 0)) := fun j hj => by
      rw [rgS_eq, if_pos (by omega)]
      unfold upd
      split
      · rfl
      · exact fillF_in 99999 tc 0 _ j (by omega) (by omega)
    rw [rgM_ring L Z htc hF hst tc 1 few _ (upd (fillF 99999 tc 0 q.1) st 0, q.2) (by omega) h0]
    exact rgA_ring L Z htc hF n (st + 1) _ _ (by omega)
theorem ring_eq {tc rc : Nat} {F T : Nat → Nat} (L : Nat → Int32) (Z : Nat → Bool) (htc : tc ≤ 12) (hF : okR tc rc F T) : ringM F T L Z tc rc = ringC F T L Z tc rc := rgA_ring L Z htc hF tc 0 0 _ (by omega)
/-- sums of lengths are at least what a timetable leaves -/
def rbd (tc : Nat) (t : Nat → Int) (st : Nat) (R : Nat → Int32) : Prop := ∀ v, v < tc → t v - t st ≤ (R v).toInt ∧ (R v).toInt ≤ 99999
theorem goW_rbd {tc rc st : Nat} {F T : Nat → Nat} {L : Nat → Int32} {Z : Nat → Bool} {t : Nat → Int} (hF : okR tc rc F T) (hL : lenR rc L) (ht : ttb tc rc F T L Z 38610 t) (hst : st < tc) {R : Nat → Int32} (hR : rbd tc t st R) : ∀ n r N, r + n = rc → rbd tc t st N → rbd tc t st (goW F T L Z R n r N)
  | 0, _, _, _, h => h
  | n + 1, r, N, hm, h => by
    have hf := hF r (by omega)
    have hl := hL r (by omega)
    unfold goW
    refine goW_rbd hF hL ht hst hR n (r + 1) _ (by omega) ?_
    split
    · rename_i hc
      have h1 := hR _ hf.1
      have h2 := h _ hf.2
      have h3 := ht.2 r (by omega) hc.1
      have b1 := ht.1 _ hf.1
      have b2 := ht.1 _ hst
      have hs : (R (F r) + L r).toInt = (R (F r)).toInt + (L r).toInt := i_add (by omega) (by omega)
      intro v hv
      unfold upd
      split
      · rename_i he
        rw [he, i_mn, hs]
        split <;> omega
      · exact h v hv
    · exact h
theorem ringL_0 {tc rc st : Nat} {F T : Nat → Nat} {L : Nat → Int32} {Z : Nat → Bool} {t : Nat → Int} (hF : okR tc rc F T) (hL : lenR rc L) (ht : ttb tc rc F T L Z 38610 t) (hst : st < tc) : ∀ n k q, rbd tc t st q.1 → (ringL F T L Z tc rc st n k q).1 = 0
  | 0, _, _, _ => rfl
  | n + 1, k, q, h => by
    have hfill : rbd tc t st (fillF 99999 tc 0 q.2) := fun v hv => by
      have b1 := ht.1 _ hv
      have b2 := ht.1 _ hst
      rw [fillF_in 99999 tc 0 _ v (by omega) (by omega), i_inf]
      omega
    have h1 : rbd tc t st (oneR F T L Z tc rc q).1 := fun v hv => by
      show t v - t st ≤ (copyF _ tc 0 q.1 v).toInt ∧ (copyF _ tc 0 q.1 v).toInt ≤ 99999
      rw [copyF_in _ tc 0 _ v (by omega) (by omega)]
      exact goW_rbd hF hL ht hst h rc 0 _ (by omega) hfill v hv
    unfold ringL
    have h2 := h1 st hst
    rw [if_neg (by rw [i_lt, i_0]; omega)]
    exact ringL_0 hF hL ht hst n (k + 1) _ h1
theorem ringA_0 {tc rc : Nat} {F T : Nat → Nat} {L : Nat → Int32} {Z : Nat → Bool} {t : Nat → Int} (hF : okR tc rc F T) (hL : lenR rc L) (ht : ttb tc rc F T L Z 38610 t) : ∀ n st q, st + n = tc → (ringA F T L Z tc rc n st 0 q).1 = 0
  | 0, _, _, _ => rfl
  | n + 1, st, q, hm => by
    have hst : st < tc := by omega
    have h0 : (ringS F T L Z tc rc st q).1 = 0 := ringL_0 hF hL ht hst tc 1 _ (fun v hv => by
      have b1 := ht.1 _ hv
      have b2 := ht.1 _ hst
      show t v - t st ≤ (upd (fillF 99999 tc 0 q.1) st 0 v).toInt ∧ (upd (fillF 99999 tc 0 q.1) st 0 v).toInt ≤ 99999
      unfold upd
      split
      · rename_i he
        rw [he, i_0]
        omega
      · rw [fillF_in 99999 tc 0 _ v (by omega) (by omega), i_inf]
        omega)
    unfold ringA
    rw [if_neg (fun z => z.1 h0)]
    exact ringA_0 hF hL ht n (st + 1) _ (by omega)
section QE
variable {tc rc : Nat} {F T : Nat → Nat} {L : Nat → Int32} {Z : Nat → Bool} {ro : Int32} {E B : Nat → Int32}
theorem inv_tt (h : xInv tc rc F T L Z ro E B) (hro : ¬ ro = -1) : ttb tc rc F T L Z 38610 (fun v => (earM F T L Z tc rc v).toInt) :=
  ear_ttb h.1 h.2.1 h.2.2.1 h.2.2.2.1 (by rw [← h.2.2.2.2.1]; exact hro)
theorem q_settle (htc : tc ≤ 12) (hrc : rc ≤ 30) (hF : okR tc rc F T) (hL : ∀ r, r < rc → -99 ≤ (L r).toInt ∧ (L r).toInt ≤ 99) (E B : Nat → Int32) : xInv tc rc F T L Z (sRo F T L Z tc rc E) (sE F T L Z tc rc E) (sB F T L Z tc rc E B) := by
  obtain ⟨e1, e2⟩ := ear_rel L htc hF (actC_m1 Z hrc) E
  refine ⟨htc, hrc, hF, hL, e1, e2, fun hne a b ha hb => ?_⟩
  unfold sB
  rw [if_neg hne]
  exact way_eq htc hF hL (ear_ttb htc hrc hF hL (by rw [← e1]; exact hne)) B a b ha hb
theorem q_told (h : xInv tc rc F T L Z ro E B) {r w : Nat} (hr : r < rc) : toldF (earM F T L Z tc rc 12) (earM F T L Z tc rc) F T L Z r w = toldF ro E F T L Z r w := by
  obtain ⟨htc, hrc, hF, hL, hro, hE, hB⟩ := h
  have hf := hF r hr
  unfold toldF tightB
  rw [← hro, ← hE _ hf.1, ← hE _ hf.2]
theorem q_tb (h : xInv tc rc F T L Z ro E B) {r : Nat} (hr : r < rc) : tightB (earM F T L Z tc rc 12) (earM F T L Z tc rc) F T L Z r = tightB ro E F T L Z r := by
  obtain ⟨htc, hrc, hF, hL, hro, hE, hB⟩ := h
  have hf := hF r hr
  unfold tightB
  rw [← hro, ← hE _ hf.1, ← hE _ hf.2]
theorem q_about (h : xInv tc rc F T L Z ro E B) {v w : Nat} (hv : v < tc) : aboutF (earM F T L Z tc rc 12) (earM F T L Z tc rc) F T Z rc v w = aboutF ro E F T Z rc v w := by
  obtain ⟨htc, hrc, hF, hL, hro, hE, hB⟩ := h
  unfold aboutF
  rw [← hro, ← hE _ hv]
theorem q_count (h : xInv tc rc F T L Z ro E B) {w : Nat} (hw : w < 7) : cntM (earM F T L Z tc rc) F T L Z tc rc w = cntR ro E F T L Z tc rc w := by
  obtain ⟨htc, hrc, hF, hL, hro, hE, hB⟩ := id h
  unfold cntM cntR
  rw [← lastF_ag hE tc 0 0 (by omega), show sumB Z rc 0 0 = nI (countF Z rc 0 0) from sumB_count Z rc 0 0, countF_congr (m := rc) (fun j hj => q_tb h hj) rc 0 0 (by omega), ← hro, ring_eq L Z htc hF]
  by_cases hne : ro = -1
  · simp [hne]
  · have : ringC F T L Z tc rc = 0 := ringA_0 hF hL (inv_tt h hne) tc 0 _ (by omega)
    rw [this]
    simp only [if_neg hne]
    rfl
theorem q_kLate (h : xInv tc rc F T L Z ro E B) (p0 p1 : Int32) : kLate tc (earM F T L Z tc rc 12) (earM F T L Z tc rc) p0 p1 = kLate tc ro E p0 p1 := by
  obtain ⟨htc, hrc, hF, hL, hro, hE, hB⟩ := h
  unfold kLate
  rw [← hro, ← lastF_ag hE tc 0 0 (by omega)]
theorem q_most (h : xInv tc rc F T L Z ro E B) (hro : ¬ ro = -1) {a b : Nat} (ha : a < tc) (hb : b < tc) : wayM F T L Z tc rc a b = B (a * 12 + b) := (h.2.2.2.2.2.2 hro a b ha hb).symm
theorem q_room (h : xInv tc rc F T L Z ro E B) (hro : ¬ ro = -1) {a b : Nat} (ha : a < tc) (hb : b < tc) : leastG (wayM F T L Z tc rc) a b = leastF B a b := by
  unfold leastG leastF
  rw [q_most h hro hb ha]
theorem late_rel {W : Nat → Nat → Int32} {t : Nat → Int} (hs : sml tc t) (hp : pot tc t W) {w : Nat} (hw : w < tc) {en : Int32} (he : 0 ≤ en.toInt ∧ en.toInt ≤ 9999) (hB : ∀ i, i < tc → B (i * 12 + w) = W i w) : ∀ (n i : Nat) (la : Int32), i + n = tc → -38610 ≤ la.toInt → la.toInt ≤ 0 → en + lateG W w n i la = lateF B w en n i (en + la)
  | 0, _, _, _, _, _ => rfl
  | n + 1, i, la, hm, h1, h2 => by
    have hi : i < tc := by omega
    have hW := hp i w hi hw
    have b1 := hs i hi
    have b2 := hs w hw
    unfold lateG lateF
    rw [hB i hi]
    by_cases hc : W i w = 99999
    · rw [if_pos hc, hc]
      have : mnI la 99999 = la := by
        unfold mnI
        rw [if_neg (by rw [i_lt, i_inf]; omega)]
      rw [this]
      exact late_rel hs hp hw he hB n (i + 1) la (by omega) h1 h2
    · rw [if_neg hc]
      have e1 : (en + la).toInt = en.toInt + la.toInt := i_add (by omega) (by omega)
      have e2 : (en + W i w).toInt = en.toInt + (W i w).toInt := i_add (by omega) (by omega)
      have e3 : mnI (en + la) (en + W i w) = en + mnI la (W i w) := by
        unfold mnI
        by_cases hq : W i w < la
        · rw [if_pos hq, if_pos (by rw [i_lt, e1, e2]; have := i_lt.mp hq; omega)]
        · rw [if_neg hq, if_neg (by rw [i_lt, e1, e2]; rw [i_lt] at hq; omega)]
      rw [e3]
      refine late_rel hs hp hw he hB n (i + 1) _ (by omega) ?_ ?_
      · rw [i_mn]
        split <;> omega
      · rw [i_mn]
        split <;> omega
theorem q_late (h : xInv tc rc F T L Z ro E B) (hro : ¬ ro = -1) {w : Nat} {en : Int32} (hw : w < tc) (hen : endB en = true) : en + lateG (wayM F T L Z tc rc) w tc 0 0 = lateF B w en tc 0 en := by
  have ht := inv_tt h hro
  obtain ⟨w1, -, -⟩ := way_pot h.1 h.2.2.1 h.2.2.2.1 ht
  have he : 0 ≤ en.toInt ∧ en.toInt ≤ 9999 := by
    simp only [endB, Bool.and_eq_true, Bool.not_eq_true', decide_eq_false_iff_not, i_lt, i_0] at hen
    have : (9999 : Int32).toInt = 9999 := by decide
    omega
  have := late_rel (B := B) ht.1 w1 hw he (fun i hi => h.2.2.2.2.2.2 hro i w hi hw) tc 0 0 (by omega) (by rw [i_0]; omega) (by rw [i_0]; omega)
  rw [Int32.add_zero] at this
  exact this
theorem q_would (h : xInv tc rc F T L Z ro E B) {a b : Nat} {w : Int32} (ha : a < tc) (hb : b < tc) (hw : lenB w = true) : (decide (¬ earM F T L Z tc rc 12 = -1) && (decide (wayM F T L Z tc rc b a = 99999) || !(decide (wayM F T L Z tc rc b a + w < 0)))) = (decide (¬ ro = -1) && !(decide (w < leastF B a b))) := by
  rw [← h.2.2.2.2.1]
  by_cases hro : ro = -1
  · simp [hro]
  · have ht := inv_tt h hro
    obtain ⟨w1, -, -⟩ := way_pot h.1 h.2.2.1 h.2.2.2.1 ht
    have hl := lenB_of hw
    have hW := w1 b a hb ha
    have b1 := ht.1 _ ha
    have b2 := ht.1 _ hb
    rw [← q_room h hro ha hb]
    congr 1
    unfold leastG
    dsimp only at hW b1 b2
    by_cases hc : wayM F T L Z tc rc b a = 99999
    · rw [if_pos hc, decide_eq_true hc, decide_eq_false (show ¬ w < -99 by rw [i_lt, i_m99]; omega)]
      rfl
    · rw [if_neg hc, decide_eq_false hc, Bool.false_or]
      congr 1
      apply decide_eq_decide.mpr
      rw [i_lt, i_lt, i_mx, i_m99, i_neg (by omega) (by omega), i_add (by omega) (by omega), i_0]
      split <;> omega
theorem q_at (h : xInv tc rc F T L Z ro E B) (k : Nat) : atF (earM F T L Z tc rc) tc k tc 0 = atF E tc k tc 0 := (atF_ag h.2.2.2.2.2.1 tc 0 (by omega)).symm
theorem q_mean (h : xInv tc rc F T L Z ro E B) : meanF (earM F T L Z tc rc 12) (earM F T L Z tc rc) tc = meanF ro E tc := by
  unfold meanF
  rw [← h.2.2.2.2.1, sumF_ag h.2.2.2.2.2.1 tc 0 0 (by omega)]
theorem last_le {tc : Nat} {E : Nat → Int32} (h : bnd tc 38610 E) : ∀ (n i : Nat) (mx : Int32), i + n = tc → mx.toInt ≤ 38610 → (lastF E n i mx).toInt ≤ 38610
  | 0, _, _, _, h2 => h2
  | n + 1, i, mx, hm, h2 => by
    have := h i (by omega)
    refine last_le h n (i + 1) _ (by omega) ?_
    rw [i_mx]
    split <;> omega
theorem adv_rel (htc : tc ≤ 12) (hrc : rc ≤ 30) (hF : okR tc rc F T) (hL : lenR rc L) : ∀ (n r : Nat) (best lm lc : Int32) (X : Nat → Int32), r + n = rc → (lm = lc ∨ (lm = 2147483647 ∧ lc = 99999)) → adM F T L Z tc rc n r best lm = advL F T L Z tc rc n r best lc X
  | 0, _, _, _, _, _, _, _ => rfl
  | n + 1, r, best, lm, lc, X, hm, h => by
    have hr : r < rc := by omega
    obtain ⟨e1, e2⟩ := ear_rel L htc hF (actC_r0 Z hrc hr) X
    have e3 := lastF_ag e2 tc 0 0 (by omega)
    have hb := last_le (ear_bnd (A := updB Z r false) htc hrc hF hL) tc 0 0 (by omega) (by rw [i_0]; omega)
    unfold adM advL
    rw [e1, e3]
    by_cases hz : Z r = true
    · rw [if_pos hz, if_pos hz]
      by_cases hq : earM F T L (updB Z r false) tc rc 12 = -1
      · rw [if_pos hq, if_pos hq]
        exact adv_rel htc hrc hF hL n (r + 1) _ _ _ _ (by omega) h
      · rw [if_neg hq, if_neg hq]
        have hc : (lastF (earM F T L (updB Z r false) tc rc) tc 0 0 < lm) ↔ (lastF (earM F T L (updB Z r false) tc rc) tc 0 0 < lc) := by
          rcases h with h | ⟨h1, h2⟩
          · rw [h]
          · rw [h1, h2, i_lt, i_lt, i_inf]
            have : (2147483647 : Int32).toInt = 2147483647 := by decide
            omega
        by_cases hd : lastF (earM F T L (updB Z r false) tc rc) tc 0 0 < lm
        · rw [if_pos hd, if_pos (hc.mp hd)]
          exact adv_rel htc hrc hF hL n (r + 1) _ _ _ _ (by omega) (Or.inl rfl)
        · rw [if_neg hd, if_neg (fun z => hd (hc.mpr z))]
          exact adv_rel htc hrc hF hL n (r + 1) _ _ _ _ (by omega) h
    · rw [if_neg hz, if_neg hz]
      exact adv_rel htc hrc hF hL n (r + 1) _ _ _ _ (by omega) h
theorem q_adv (h : xInv tc rc F T L Z ro E B) : advM F T L Z tc rc = advC ro E F T L Z tc rc := by
  obtain ⟨htc, hrc, hF, hL, hro, hE, hB⟩ := id h
  unfold advM advC
  refine adv_rel htc hrc hF hL rc 0 _ _ _ _ (by omega) ?_
  rw [← hro, ← lastF_ag hE tc 0 0 (by omega)]
  by_cases hne : ro = -1
  · rw [if_pos hne, if_pos hne]
    exact Or.inr ⟨rfl, rfl⟩
  · rw [if_neg hne, if_neg hne]
    exact Or.inl rfl
theorem q_dg (h : xInv tc rc F T L Z ro E B) : dgMF F T L Z tc rc = dgF ro E B F T L Z tc rc := by
  have e : dgM F T L Z tc rc = dgA ro E F T L Z tc rc := by
    unfold dgM dgA
    rw [dgS_congr (m := 7) (fun j hj => q_count h hj) 7 0 _ (by omega), dgD_congr (m := 3) (m2 := tc) (fun v hv j _ => q_about h hv) tc 0 _ (by omega), dgD_congr (m := 5) (m2 := rc) (fun v hv j _ => q_told h hv) rc 0 _ (by omega)]
  unfold dgMF dgF
  rw [e, ← h.2.2.2.2.1]
  by_cases hne : ro = -1
  · rw [if_pos hne, if_pos hne]
  · rw [if_neg hne, if_neg hne]
    exact dgD_congr (m := tc) (m2 := tc) (fun v hv j hj => q_most h hne hv hj) tc 0 _ (by omega)
theorem tAll_tg (htc : tc ≤ 12) (hrc : rc ≤ 30) (hF : okR tc rc F T) : ∀ (n r : Nat) (sm : Int32) (L : Nat → Int32) (ro : Int32) (E B : Nat → Int32), r + n = rc → xInv tc rc F T L Z ro E B → ¬ ro = -1 →
    (tAll F T Z tc rc n r sm (L, ro, E, B)).1 = (tgM F T Z tc rc n r sm L).1 ∧ (tAll F T Z tc rc n r sm (L, ro, E, B)).2.1 = (tgM F T Z tc rc n r sm L).2 ∧ xInv tc rc F T (tAll F T Z tc rc n r sm (L, ro, E, B)).2.1 Z (tAll F T Z tc rc n r sm (L, ro, E, B)).2.2.1 (tAll F T Z tc rc n r sm (L, ro, E, B)).2.2.2.1 (tAll F T Z tc rc n r sm (L, ro, E, B)).2.2.2.2
  | 0, _, _, _, _, _, _, _, h, _ => ⟨rfl, rfl, h⟩
  | n + 1, r, sm, L, ro, E, B, hm, h, hro => by
    have hr : r < rc := by omega
    have hf := hF r hr
    have hL := h.2.2.2.1
    unfold tAll tgM
    by_cases hz : Z r = true
    · rw [if_pos hz, if_pos hz]
      have ht := inv_tt h hro
      have hx := least_le htc hF hL ht hr hz
      have hl := hL r hr
      have e1 := q_room h hro hf.1 hf.2
      have e2 : tOneD F T r (L, ro, E, B) = L r - leastG (wayM F T L Z tc rc) (F r) (T r) := by
        rw [e1]
        rfl
      have hn := tt_new htc hF hL ht hr
      generalize hxx : leastG (wayM F T L Z tc rc) (F r) (T r) = x at *
      have e3 : (L r - x).toInt = (L r).toInt - x.toInt := i_sub (by omega) (by omega)
      have e4 : L r - (L r - x) = x := by
        rw [i_eq, i_sub (by omega) (by omega), e3]
        omega
      rw [e2]
      unfold tOneS
      rw [e2]
      by_cases hd : 0 < L r - x
      · rw [if_pos hd]
        show (tAll F T Z tc rc n (r + 1) _ (upd L r (L r - (L r - x)), sRo F T (upd L r (L r - (L r - x))) Z tc rc E, sE F T (upd L r (L r - (L r - x))) Z tc rc E, sB F T (upd L r (L r - (L r - x))) Z tc rc E B)).1 = _ ∧ _
        rw [e4]
        have hI2 := q_settle (Z := Z) htc hrc hF (upd_len hL (x := x) (by omega) r) E B
        refine tAll_tg htc hrc hF n (r + 1) _ _ _ _ _ (by omega) hI2 ?_
        rw [hI2.2.2.2.2.1]
        exact ear_comp htc hrc hF (upd_len hL (x := x) (by omega) r) ⟨fun v hv => (hn.1 v hv).1, hn.2⟩
      · rw [if_neg hd]
        have e5 : x = L r := by
          rw [i_lt, i_0, e3] at hd
          rw [i_eq]
          omega
        have e6 : upd L r x = L := by
          funext j
          unfold upd
          split
          · rename_i hj
            rw [e5, hj]
          · rfl
        rw [e6]
        exact tAll_tg htc hrc hF n (r + 1) _ _ _ _ _ (by omega) h hro
    · rw [if_neg hz, if_neg hz]
      exact tAll_tg htc hrc hF n (r + 1) _ _ _ _ _ (by omega) h hro
theorem q_tight (h : xInv tc rc F T L Z ro E B) : (tightA F T Z tc rc (L, ro, E, B)).1 = (tgA F T Z tc rc L).1 ∧ (tightA F T Z tc rc (L, ro, E, B)).2.1 = (tgA F T Z tc rc L).2 ∧ xInv tc rc F T (tightA F T Z tc rc (L, ro, E, B)).2.1 Z (tightA F T Z tc rc (L, ro, E, B)).2.2.1 (tightA F T Z tc rc (L, ro, E, B)).2.2.2.1 (tightA F T Z tc rc (L, ro, E, B)).2.2.2.2 := by
  unfold tightA tgA
  rw [← h.2.2.2.2.1]
  by_cases hro : ro = -1
  · rw [if_pos hro, if_pos (show (L, ro, E, B).2.1 = -1 from hro)]
    exact ⟨rfl, rfl, h⟩
  · rw [if_neg hro, if_neg (show ¬ (L, ro, E, B).2.1 = -1 from hro)]
    exact tAll_tg h.1 h.2.1 h.2.2.1 rc 0 0 L ro E B (by omega) h hro
end QE
