/-! what the law asks, of the class's answers -/
section LF
variable {tc rc : Nat} {F T : Nat → Nat} {L : Nat → Int32} {Z : Nat → Bool} {ro : Int32} {E B : Nat → Int32}
theorem inv_ear (hI : xInv tc rc F T L Z ro E B) (hro : ¬ ro = -1) : ¬ earM F T L Z tc rc 12 = -1 := by
  rw [← hI.2.2.2.2.1]
  exact hro
theorem inv_way (hI : xInv tc rc F T L Z ro E B) (hro : ¬ ro = -1) {a b : Nat} (ha : a < tc) (hb : b < tc) : B (a * 12 + b) = wayM F T L Z tc rc a b := hI.2.2.2.2.2.2 hro a b ha hb
/-- an end by which all can be over -/
def enOK (tc : Nat) (E : Nat → Int32) (en : Int32) : Prop := (∀ v, v < tc → (E v).toInt ≤ en.toInt) ∧ 0 ≤ en.toInt ∧ en.toInt ≤ 9999 ∧ ¬ en < lastF E tc 0 0
theorem lateF_le (hI : xInv tc rc F T L Z ro E B) (hro : ¬ ro = -1) {w : Nat} (hw : w < tc) {en : Int32} (he : 0 ≤ en.toInt ∧ en.toInt ≤ 9999) : ∀ (n i : Nat) (la : Int32), i + n = tc → (lateF B w en n i la).toInt ≤ la.toInt ∧ ∀ j, i ≤ j → j < tc → ¬ wayM F T L Z tc rc j w = 99999 → (lateF B w en n i la).toInt ≤ en.toInt + (wayM F T L Z tc rc j w).toInt
  | 0, i, la, hm => ⟨Int.le_refl _, fun j h1 h2 => by omega⟩
  | n + 1, i, la, hm => by
    have eB := inv_way hI hro (show i < tc by omega) hw
    obtain ⟨htc, hrc, hF, hL, -⟩ := id hI
    have hw2 := (way_all htc hrc hF hL (inv_ear hI hro)).2.1 i (by omega) w hw
    show (lateF B w en n (i + 1) _).toInt ≤ _ ∧ ∀ j, _ → _ → _ → (lateF B w en n (i + 1) _).toInt ≤ _
    rw [eB]
    obtain ⟨h1, h2⟩ := lateF_le hI hro hw he n (i + 1) (if wayM F T L Z tc rc i w = 99999 then la else mnI la (en + wayM F T L Z tc rc i w)) (by omega)
    by_cases hn : wayM F T L Z tc rc i w = 99999
    · rw [if_pos hn] at h1 h2 ⊢
      refine ⟨h1, fun j j1 j2 jn => ?_⟩
      by_cases hj : j = i
      · subst hj; exact absurd hn jn
      · exact h2 j (by omega) j2 jn
    · rw [if_neg hn] at h1 h2 ⊢
      have hb := hw2 hn
      have hs : (en + wayM F T L Z tc rc i w).toInt = en.toInt + (wayM F T L Z tc rc i w).toInt := i_add (by omega) (by omega)
      have hm2 := i_mn la (en + wayM F T L Z tc rc i w)
      rw [hs] at hm2
      refine ⟨by split at hm2 <;> omega, fun j j1 j2 jn => ?_⟩
      by_cases hj : j = i
      · subst hj
        split at hm2 <;> omega
      · exact h2 j (by omega) j2 jn
theorem lateF_at (hI : xInv tc rc F T L Z ro E B) (hro : ¬ ro = -1) {w : Nat} (hw : w < tc) {en : Int32} (he : 0 ≤ en.toInt ∧ en.toInt ≤ 9999) : ∀ (n i : Nat) (la : Int32), i + n = tc → lateF B w en n i la = la ∨ ∃ j, i ≤ j ∧ j < tc ∧ ¬ wayM F T L Z tc rc j w = 99999 ∧ (lateF B w en n i la).toInt = en.toInt + (wayM F T L Z tc rc j w).toInt
  | 0, _, _, _ => Or.inl rfl
  | n + 1, i, la, hm => by
    have eB := inv_way hI hro (show i < tc by omega) hw
    obtain ⟨htc, hrc, hF, hL, -⟩ := id hI
    have hw2 := (way_all htc hrc hF hL (inv_ear hI hro)).2.1 i (by omega) w hw
    have h := lateF_at hI hro hw he n (i + 1) (if wayM F T L Z tc rc i w = 99999 then la else mnI la (en + wayM F T L Z tc rc i w)) (by omega)
    show lateF B w en n (i + 1) _ = la ∨ ∃ j, i ≤ j ∧ j < tc ∧ _ ∧ (lateF B w en n (i + 1) _).toInt = _
    rw [eB]
    rcases h with h | ⟨j, j1, j2, j3, j4⟩
    · rw [h]
      by_cases hn : wayM F T L Z tc rc i w = 99999
      · rw [if_pos hn]; exact Or.inl rfl
      · rw [if_neg hn]
        have hb := hw2 hn
        have hs : (en + wayM F T L Z tc rc i w).toInt = en.toInt + (wayM F T L Z tc rc i w).toInt := i_add (by omega) (by omega)
        unfold mnI
        split
        · exact Or.inr ⟨i, by omega, by omega, hn, hs⟩
        · exact Or.inl rfl
    · exact Or.inr ⟨j, by omega, j2, j3, j4⟩
/-- at the latest: not before the earliest, not behind the end -/
theorem late_in (hI : xInv tc rc F T L Z ro E B) (hro : ¬ ro = -1) {en : Int32} (he : enOK tc E en) {a : Nat} (ha : a < tc) : ¬ lateF B a en tc 0 en < E a ∧ ¬ en < lateF B a en tc 0 en ∧ 0 ≤ (lateF B a en tc 0 en).toInt ∧ (lateF B a en tc 0 en).toInt ≤ 9999 := by
  obtain ⟨e1, e2, e3, -⟩ := he
  obtain ⟨htc, hrc, hF, hL, -, eE, -⟩ := id hI
  have hsm := ear_small htc hrc hF hL (inv_ear hI hro)
  have h1 := (lateF_le hI hro ha ⟨e2, e3⟩ tc 0 en (by omega)).1
  have h2 : (E a).toInt ≤ (lateF B a en tc 0 en).toInt := by
    rcases lateF_at hI hro ha ⟨e2, e3⟩ tc 0 en (by omega) with h | ⟨j, -, j2, j3, j4⟩
    · rw [h]; exact e1 a ha
    · have := way_ear htc hrc hF hL (inv_ear hI hro) j2 ha j3
      have h3 := e1 j j2
      rw [eE j j2] at h3
      rw [eE a ha]
      omega
  have h4 := hsm a ha
  rw [eE a ha] at h2
  refine ⟨?_, ?_, by omega, by omega⟩
  · rw [i_lt, eE a ha]; omega
  · rw [i_lt]; omega
theorem most_ear (hI : xInv tc rc F T L Z ro E B) (hro : ¬ ro = -1) {a b : Nat} (ha : a < tc) (hb : b < tc) (hn : ¬ B (a * 12 + b) = 99999) : ¬ B (a * 12 + b) < E b - E a := by
  obtain ⟨htc, hrc, hF, hL, -, eE, -⟩ := id hI
  have hsm := ear_small htc hrc hF hL (inv_ear hI hro)
  rw [inv_way hI hro ha hb] at hn ⊢
  have h1 := way_ear htc hrc hF hL (inv_ear hI hro) ha hb hn
  have h2 := hsm a ha
  have h3 := hsm b hb
  rw [eE a ha, eE b hb, i_lt, i_sub (by omega) (by omega)]
  omega
theorem most_late (hI : xInv tc rc F T L Z ro E B) (hro : ¬ ro = -1) {en : Int32} (he : enOK tc E en) {a b : Nat} (ha : a < tc) (hb : b < tc) (hn : ¬ B (a * 12 + b) = 99999) : ¬ B (a * 12 + b) < lateF B b en tc 0 en - lateF B a en tc 0 en := by
  obtain ⟨htc, hrc, hF, hL, -, eE, -⟩ := id hI
  have l1 := late_in hI hro he ha
  have l2 := late_in hI hro he hb
  obtain ⟨e1, e2, e3, -⟩ := he
  rw [inv_way hI hro ha hb] at hn ⊢
  have hle := (lateF_le hI hro hb ⟨e2, e3⟩ tc 0 en (by omega)).2
  rw [i_lt, i_sub (by omega) (by omega)]
  rcases lateF_at hI hro ha ⟨e2, e3⟩ tc 0 en (by omega) with h | ⟨j, -, j2, j3, j4⟩
  · rw [h]
    have := hle a (by omega) ha hn
    omega
  · obtain ⟨t1, t2⟩ := way_tri htc hrc hF hL (inv_ear hI hro) j2 ha hb j3 hn
    have := hle j (by omega) j2 t1
    omega
/-- the grid of the law holds the class's table -/
def gridOK (F T : Nat → Nat) (L : Nat → Int32) (Z : Nat → Bool) (tc rc : Nat) (G : Nat → Nat → Int32) : Prop := ∀ a b, a < tc → b < tc → G a b = wayM F T L Z tc rc a b
theorem grid_tri (hI : xInv tc rc F T L Z ro E B) (hro : ¬ ro = -1) {G : Nat → Nat → Int32} (hG : gridOK F T L Z tc rc G) {a b c : Nat} (ha : a < tc) (hb : b < tc) (hc : c < tc) (h1 : ¬ G a b = 99999) (h2 : ¬ G b c = 99999) : ¬ G a b + G b c < G a c := by
  obtain ⟨htc, hrc, hF, hL, -⟩ := id hI
  rw [hG a b ha hb] at h1 ⊢
  rw [hG b c hb hc] at h2 ⊢
  rw [hG a c ha hc]
  have hw := (way_all htc hrc hF hL (inv_ear hI hro)).2.1
  have b1 := hw a ha b hb h1
  have b2 := hw b hb c hc h2
  obtain ⟨t1, t2⟩ := way_tri htc hrc hF hL (inv_ear hI hro) ha hb hc h1 h2
  rw [i_lt, i_add (by omega) (by omega)]
  omega
theorem most_0 (hI : xInv tc rc F T L Z ro E B) (hro : ¬ ro = -1) {a : Nat} (ha : a < tc) : B (a * 12 + a) = 0 := by
  obtain ⟨htc, hrc, hF, hL, -⟩ := id hI
  rw [inv_way hI hro ha ha]
  exact (way_all htc hrc hF hL (inv_ear hI hro)).1 a ha
/-- a rope and its room -/
theorem room_in (hI : xInv tc rc F T L Z ro E B) (hro : ¬ ro = -1) {r : Nat} (hr : r < rc) (hz : Z r = true) : leastF B (F r) (T r) = leastG (wayM F T L Z tc rc) (F r) (T r) ∧ ¬ L r < leastF B (F r) (T r) ∧ ¬ leastF B (F r) (T r) < -99 ∧ lenB (leastF B (F r) (T r)) = true ∧ lenB (L r) = true ∧ ∀ G, gridOK F T L Z tc rc G → ¬ L r < G (F r) (T r) := by
  obtain ⟨htc, hrc, hF, hL, -⟩ := id hI
  have hf := hF r hr
  have hl := hL r hr
  have e := q_room hI hro hf.1 hf.2
  have hx := least_in htc hrc hF hL (inv_ear hI hro) hr hz
  have e99 : (99 : Int32).toInt = 99 := by decide
  rw [e] at hx
  have hin : ∀ x : Int32, -99 ≤ x.toInt → x.toInt ≤ 99 → lenB x = true := fun x h1 h2 => by
    simp only [lenB, Bool.and_eq_true, Bool.not_eq_true', decide_eq_false_iff_not, i_lt, i_m99, e99]
    omega
  refine ⟨e.symm, by rw [i_lt]; omega, by rw [i_lt, i_m99]; omega, hin _ hx.1 (by omega), hin _ hl.1 hl.2, fun G hG => ?_⟩
  rw [hG _ _ hf.1 hf.2, i_lt]
  have := (way_pot htc hF hL (ear_ttb htc hrc hF hL (inv_ear hI hro))).2.2 r hr hz
  omega
theorem lenB_pred {x : Int32} (h : lenB x = true) (h2 : ¬ x ≤ -99) : lenB (x - 1) = true ∧ (x - 1).toInt = x.toInt - 1 ∧ -99 < x.toInt := by
  have hx := lenB_of h
  have e99 : (99 : Int32).toInt = 99 := by decide
  have e1 : (1 : Int32).toInt = 1 := by decide
  rw [Int32.le_iff_toInt_le, i_m99] at h2
  have hs : (x - 1).toInt = x.toInt - 1 := by
    rw [i_sub (by rw [e1]; omega) (by rw [e1]; omega), e1]
  refine ⟨?_, hs, by omega⟩
  simp only [lenB, Bool.and_eq_true, Bool.not_eq_true', decide_eq_false_iff_not, i_lt, i_m99, e99, hs]
  omega
end LF
/-! which rope is advised -/
theorem adM_at (F T : Nat → Nat) (L : Nat → Int32) (Z : Nat → Bool) (tc rc : Nat) : ∀ (n r : Nat) (best least : Int32), adM F T L Z tc rc n r best least = best ∨ ∃ k, r ≤ k ∧ k < r + n ∧ adM F T L Z tc rc n r best least = nI k ∧ Z k = true ∧ ¬ earM F T L (updB Z k false) tc rc 12 = -1 ∧ lastF (earM F T L (updB Z k false) tc rc) tc 0 0 < least
  | 0, _, _, _ => Or.inl rfl
  | n + 1, r, best, least => by
    unfold adM
    by_cases hz : Z r = true
    · rw [if_pos hz]
      by_cases he : earM F T L (updB Z r false) tc rc 12 = -1
      · rw [if_pos he]
        rcases adM_at F T L Z tc rc n (r + 1) best least with h | ⟨k, k1, k2, k3⟩
        · exact Or.inl h
        · exact Or.inr ⟨k, by omega, by omega, k3⟩
      · rw [if_neg he]
        by_cases hl : lastF (earM F T L (updB Z r false) tc rc) tc 0 0 < least
        · rw [if_pos hl]
          rcases adM_at F T L Z tc rc n (r + 1) (nI r) (lastF (earM F T L (updB Z r false) tc rc) tc 0 0) with h | ⟨k, k1, k2, k3, k4, k5, k6⟩
          · exact Or.inr ⟨r, by omega, by omega, h, hz, he, hl⟩
          · exact Or.inr ⟨k, by omega, by omega, k3, k4, k5, by rw [i_lt] at hl k6 ⊢; omega⟩
        · rw [if_neg hl]
          rcases adM_at F T L Z tc rc n (r + 1) best least with h | ⟨k, k1, k2, k3⟩
          · exact Or.inl h
          · exact Or.inr ⟨k, by omega, by omega, k3⟩
    · rw [if_neg hz]
      rcases adM_at F T L Z tc rc n (r + 1) best least with h | ⟨k, k1, k2, k3⟩
      · exact Or.inl h
      · exact Or.inr ⟨k, by omega, by omega, k3⟩
theorem adv_at {tc rc : Nat} {F T : Nat → Nat} {L : Nat → Int32} {Z : Nat → Bool} {ro : Int32} {E B : Nat → Int32} (hI : xInv tc rc F T L Z ro E B) : advC ro E F T L Z tc rc = -1 ∨ ∃ k, k < rc ∧ advC ro E F T L Z tc rc = nI k ∧ Z k = true ∧ ¬ earM F T L (updB Z k false) tc rc 12 = -1 ∧ (¬ ro = -1 → lastF (earM F T L (updB Z k false) tc rc) tc 0 0 < lastF E tc 0 0) := by
  rw [← q_adv hI]
  obtain ⟨htc, hrc, hF, hL, e1, e2, -⟩ := id hI
  unfold advM
  rcases adM_at F T L Z tc rc rc 0 (-1) (if earM F T L Z tc rc 12 = -1 then 2147483647 else lastF (earM F T L Z tc rc) tc 0 0) with h | ⟨k, k1, k2, k3, k4, k5, k6⟩
  · exact Or.inl h
  · refine Or.inr ⟨k, by omega, k3, k4, k5, fun hro => ?_⟩
    rw [if_neg (by rw [← e1]; exact hro)] at k6
    rw [lastF_ag e2 tc 0 0 (by omega)]
    exact k6
/-! the mean is a number -/
theorem nan_dc {r : UInt64} (h : isNaN64 r = true) : FP.Core.decode FP.Core.b64 r.toNat = .nan := by
  rw [FP.Core.decode_nan]
  rw [isNaN64_iff] at h
  have e : (0x7fffffffffffffff : Nat) = 2 ^ 63 - 1 := by decide
  rw [e, Nat.and_two_pow_sub_one_eq_mod] at h
  exact h
def finD : FP.Core.Datum → Bool
  | .fin _ d _ => d != 0
  | _ => false
theorem turns_fin : ∀ n, n < 13 → 0 < n → finD (FP.Core.val64 (FP.i2d (nI n))) = true := by decide +kernel
theorem mean_num (x : Int32) {n : Nat} (h : 0 < n) (h2 : n ≤ 12) : isNaN64 (FP.ddiv (FP.i2d x) (FP.i2d (nI n))) = false := by
  cases hb : isNaN64 (FP.ddiv (FP.i2d x) (FP.i2d (nI n))) with
  | false => rfl
  | true =>
    have h3 : FP.Core.val64 (FP.ddiv (FP.i2d x) (FP.i2d (nI n))) = .nan := nan_dc hb
    have h4 : FP.Core.quotient FP.Core.b64 (FP.Core.val64 (FP.i2d x)) (FP.Core.val64 (FP.i2d (nI n))) = .nan := (FP.Core.val64_ddiv _ _).symm.trans h3
    have h5 := turns_fin n (by omega) h
    have h6 : FP.Core.val64 (FP.i2d x) ≠ .nan := by
      rw [show FP.Core.val64 (FP.i2d x) = FP.Core.round FP.Core.b64 (FP.Core.ofInt x.toInt) from FP.Core.val64_i2d x]
      exact FP.Core.roundRatio_ne_nan _ _ _ _ _
    generalize FP.Core.val64 (FP.i2d (nI n)) = dn at h4 h5
    generalize FP.Core.val64 (FP.i2d x) = dx at h4 h6
    cases dn with
    | nan => cases h5
    | inf s => cases h5
    | fin s d q =>
      have hd : ¬ d = 0 := by simpa [finD] using h5
      cases dx with
      | nan => exact absurd rfl h6
      | inf s => cases h4
      | fin s9 c q9 =>
        have h7 : (if d = 0 then (if c = 0 then FP.Core.Datum.nan else .inf (s9 != s)) else FP.Core.roundRatio FP.Core.b64 (s9 != s) c d (q9 - q)) = .nan := h4
        rw [if_neg hd] at h7
        exact absurd h7 (FP.Core.roundRatio_ne_nan _ _ _ _ _)
theorem alike_eq {r X : UInt64} (h : alike64 r X = true) (hX : isNaN64 X = false) : r = X := by
  simp only [alike64, Bool.or_eq_true, decide_eq_true_eq, Bool.and_eq_true, hX] at h
  rcases h with h | h
  · exact h
  · cases h.2
theorem cmp_self {X : UInt64} (hX : isNaN64 X = false) : Op.cmpValue (FP.dcmp X X) .l = 0 := by
  have h : FP.dcmp X X = some .eq := by
    show FP.Core.order (FP.Core.decode FP.Core.b64 X.toNat) (FP.Core.decode FP.Core.b64 X.toNat) = some .eq
    cases hd : FP.Core.decode FP.Core.b64 X.toNat with
    | nan =>
      exfalso
      have : isNaN64 X = true := by
        rw [isNaN64_iff]
        rw [FP.Core.decode_nan] at hd
        have e : (0x7fffffffffffffff : Nat) = 2 ^ 63 - 1 := by decide
        rw [e, Nat.and_two_pow_sub_one_eq_mod]
        exact hd
      rw [hX] at this
      cases this
    | inf s => simp [FP.Core.order]
    | fin s c q => simp [FP.Core.order]
  rw [h]
  rfl
