/-! the bounds: class and reference go alike, where the diagonal is 0 -/
def dia (tc : Nat) (M : Nat → Nat → Int32) : Prop := ∀ v, v < tc → M v v = 0
/-- at least what a timetable leaves, at most 'no bound' -/
def pot (tc : Nat) (t : Nat → Int) (M : Nat → Nat → Int32) : Prop := ∀ a b, a < tc → b < tc → t b - t a ≤ (M a b).toInt ∧ (M a b).toInt ≤ 99999
def gEq (tc : Nat) (B : Nat → Int32) (M : Nat → Nat → Int32) : Prop := ∀ a b, a < tc → b < tc → B (a * 12 + b) = M a b
theorem updG_eq (M : Nat → Nat → Int32) (a b : Nat) (x : Int32) (i j : Nat) : updG M a b x i j = if i = a ∧ j = b then x else M i j := by
  unfold updG
  by_cases h : i = a
  · rw [if_pos h]
    unfold upd
    by_cases h2 : j = b
    · rw [if_pos h2, if_pos ⟨h, h2⟩]
    · rw [if_neg h2, if_neg (fun z => h2 z.2)]
  · rw [if_neg h, if_neg (fun z => h z.1)]
theorem gEq_upd {tc : Nat} {B : Nat → Int32} {M : Nat → Nat → Int32} (htc : tc ≤ 12) (h : gEq tc B M) {a b : Nat} (ha : a < tc) (hb : b < tc) (x : Int32) : gEq tc (upd B (a * 12 + b) x) (updG M a b x) := fun i j hi hj => by
  rw [updG_eq]
  unfold upd
  by_cases he : i * 12 + j = a * 12 + b
  · rw [if_pos he, if_pos ⟨by omega, by omega⟩]
  · rw [if_neg he, if_neg (fun z => he (by rw [z.1, z.2]))]
    exact h i j hi hj
theorem mn_self (x : Int32) : mnI x (x + 0) = x := by
  rw [Int32.add_zero]
  unfold mnI
  split <;> rfl
def sml (tc : Nat) (t : Nat → Int) : Prop := ∀ v, v < tc → 0 ≤ t v ∧ t v ≤ 38610
theorem pot_sum {tc : Nat} {t : Nat → Int} {M : Nat → Nat → Int32} (hs : sml tc t) (hp : pot tc t M) {a v b : Nat} (ha : a < tc) (hv : v < tc) (hb : b < tc) : (M a v + M v b).toInt = (M a v).toInt + (M v b).toInt := by
  have h1 := hp a v ha hv
  have h2 := hp v b hv hb
  have s1 := hs a ha
  have s2 := hs v hv
  have s3 := hs b hb
  exact i_add (by omega) (by omega)
theorem pot_upd {tc : Nat} {t : Nat → Int} {M : Nat → Nat → Int32} (hp : pot tc t M) (hd : dia tc M) {a b : Nat} {x : Int32} (h1 : t b - t a ≤ x.toInt) (h2 : x.toInt ≤ (M a b).toInt) : pot tc t (updG M a b x) ∧ (a < tc → dia tc (updG M a b x)) := by
  refine ⟨fun i j hi hj => ?_, fun ha w hw => ?_⟩
  · rw [updG_eq]
    have h := hp i j hi hj
    split
    · rename_i he
      rw [he.1, he.2] at h ⊢
      omega
    · exact h
  · rw [updG_eq]
    split
    · rename_i he
      have e : a = b := he.1.symm.trans he.2
      subst e
      rw [hd a ha] at h2
      rw [i_eq, i_0]
      rw [i_0] at h2
      omega
    · exact hd w hw
theorem pot_mn {tc : Nat} {t : Nat → Int} {M : Nat → Nat → Int32} (hs : sml tc t) (hp : pot tc t M) {a v b : Nat} (ha : a < tc) (hv : v < tc) (hb : b < tc) : t b - t a ≤ (mnI (M a b) (M a v + M v b)).toInt ∧ (mnI (M a b) (M a v + M v b)).toInt ≤ (M a b).toInt := by
  have h1 := hp a v ha hv
  have h2 := hp v b hv hb
  have h3 := hp a b ha hb
  have h4 := pot_sum hs hp ha hv hb
  rw [i_mn, h4]
  split <;> omega
/-- one column after the other, of the row a, over v -/
theorem goF_gB {tc v a : Nat} {t : Nat → Int} (htc : tc ≤ 12) (hs : sml tc t) (hv : v < tc) (ha : a < tc) (first : Int32) (hne : ¬ first = 99999) : ∀ (n b : Nat) (B : Nat → Int32) (M : Nat → Nat → Int32), b + n = tc → gEq tc B M → pot tc t M → dia tc M → M a v = first → gEq tc (goF a v first n b B) (gB v a n b M)
  | 0, _, _, _, _, h, _, _, _ => h
  | n + 1, b, B, M, hm, h, hp, hd, hf => by
    unfold goF gB
    rw [h v b hv (by omega)]
    by_cases hc : M v b = 99999
    · rw [if_pos hc, if_neg (fun z => z.2 hc)]
      exact goF_gB htc hs hv ha first hne n (b + 1) B M (by omega) h hp hd hf
    · rw [if_neg hc, if_pos ⟨by rw [hf]; exact hne, hc⟩]
      have hb : b < tc := by omega
      obtain ⟨g1, g2⟩ := pot_mn hs hp ha hv hb
      obtain ⟨p1, p2⟩ := pot_upd hp hd g1 g2
      unfold shortB
      rw [h a b ha hb]
      refine goF_gB htc hs hv ha first hne n (b + 1) _ _ (by omega) (by rw [← hf]; exact gEq_upd htc h ha hb _) p1 (p2 ha) ?_
      rw [updG_eq]
      split
      · rename_i he
        rw [← he.2, hf, hd v hv]
        exact mn_self first
      · exact hf
/-- pot and diagonal stay, entries only fall -/
theorem gB_keep {tc v a : Nat} {t : Nat → Int} (hs : sml tc t) (hv : v < tc) (ha : a < tc) : ∀ (n b : Nat) (M : Nat → Nat → Int32), b + n = tc → pot tc t M → dia tc M → pot tc t (gB v a n b M) ∧ dia tc (gB v a n b M) ∧ ∀ i j, i < tc → j < tc → (gB v a n b M i j).toInt ≤ (M i j).toInt
  | 0, _, _, _, hp, hd => ⟨hp, hd, fun _ _ _ _ => Int.le_refl _⟩
  | n + 1, b, M, hm, hp, hd => by
    unfold gB
    split
    · have hb : b < tc := by omega
      obtain ⟨g1, g2⟩ := pot_mn hs hp ha hv hb
      obtain ⟨p1, p2⟩ := pot_upd hp hd g1 g2
      obtain ⟨q1, q2, q3⟩ := gB_keep hs hv ha n (b + 1) _ (by omega) p1 (p2 ha)
      refine ⟨q1, q2, fun i j hi hj => Int.le_trans (q3 i j hi hj) ?_⟩
      rw [updG_eq]
      split
      · rename_i he
        rw [he.1, he.2]
        exact g2
      · exact Int.le_refl _
    · exact gB_keep hs hv ha n (b + 1) M (by omega) hp hd
theorem gB_none {v a : Nat} : ∀ (n b : Nat) (M : Nat → Nat → Int32), M a v = 99999 → gB v a n b M = M
  | 0, _, _, _ => rfl
  | n + 1, b, M, h => by
    unfold gB
    rw [if_neg (fun z => z.1 h)]
    exact gB_none n (b + 1) M h
theorem fbA_gA {tc v : Nat} {t : Nat → Int} (htc : tc ≤ 12) (hs : sml tc t) (hv : v < tc) : ∀ (n a : Nat) (B : Nat → Int32) (M : Nat → Nat → Int32), a + n = tc → gEq tc B M → pot tc t M → dia tc M → gEq tc (fbA v tc n a B) (gA v tc n a M)
  | 0, _, _, _, _, h, _, _ => h
  | n + 1, a, B, M, hm, h, hp, hd => by
    have ha : a < tc := by omega
    unfold fbA gA
    rw [h a v ha hv]
    obtain ⟨q1, q2, -⟩ := gB_keep hs hv ha tc 0 M (by omega) hp hd
    refine fbA_gA htc hs hv n (a + 1) _ _ (by omega) ?_ q1 q2
    by_cases hc : M a v = 99999
    · rw [if_pos hc, gB_none tc 0 M hc]
      exact h
    · rw [if_neg hc]
      exact goF_gB htc hs hv ha (M a v) hc tc 0 B M (by omega) h hp hd rfl
theorem gA_keep {tc v : Nat} {t : Nat → Int} (hs : sml tc t) (hv : v < tc) : ∀ (n a : Nat) (M : Nat → Nat → Int32), a + n = tc → pot tc t M → dia tc M → pot tc t (gA v tc n a M) ∧ dia tc (gA v tc n a M) ∧ ∀ i j, i < tc → j < tc → (gA v tc n a M i j).toInt ≤ (M i j).toInt
  | 0, _, _, _, hp, hd => ⟨hp, hd, fun _ _ _ _ => Int.le_refl _⟩
  | n + 1, a, M, hm, hp, hd => by
    unfold gA
    obtain ⟨q1, q2, q3⟩ := gB_keep hs hv (by omega : a < tc) tc 0 M (by omega) hp hd
    obtain ⟨r1, r2, r3⟩ := gA_keep hs hv n (a + 1) _ (by omega) q1 q2
    exact ⟨r1, r2, fun i j hi hj => Int.le_trans (r3 i j hi hj) (q3 i j hi hj)⟩
theorem fbM_gV {tc : Nat} {t : Nat → Int} (htc : tc ≤ 12) (hs : sml tc t) : ∀ (n v : Nat) (B : Nat → Int32) (M : Nat → Nat → Int32), v + n = tc → gEq tc B M → pot tc t M → dia tc M → gEq tc (fbM tc n v B) (gV tc n v M)
  | 0, _, _, _, _, h, _, _ => h
  | n + 1, v, B, M, hm, h, hp, hd => by
    have hv : v < tc := by omega
    unfold fbM gV
    obtain ⟨q1, q2, -⟩ := gA_keep hs hv tc 0 M (by omega) hp hd
    exact fbM_gV htc hs n (v + 1) _ _ (by omega) (fbA_gA htc hs hv tc 0 B M (by omega) h hp hd) q1 q2
theorem gV_keep {tc : Nat} {t : Nat → Int} (hs : sml tc t) : ∀ (n v : Nat) (M : Nat → Nat → Int32), v + n = tc → pot tc t M → dia tc M → pot tc t (gV tc n v M) ∧ dia tc (gV tc n v M) ∧ ∀ i j, i < tc → j < tc → (gV tc n v M i j).toInt ≤ (M i j).toInt
  | 0, _, _, _, hp, hd => ⟨hp, hd, fun _ _ _ _ => Int.le_refl _⟩
  | n + 1, v, M, hm, hp, hd => by
    unfold gV
    obtain ⟨q1, q2, q3⟩ := gA_keep hs (by omega : v < tc) tc 0 M (by omega) hp hd
    obtain ⟨r1, r2, r3⟩ := gV_keep hs n (v + 1) _ (by omega) q1 q2
    exact ⟨r1, r2, fun i j hi hj => Int.le_trans (r3 i j hi hj) (q3 i j hi hj)⟩
/-! the start -/
theorem gRow_eq (a : Nat) : ∀ (n b : Nat) (M : Nat → Nat → Int32) (i j : Nat), gRow a n b M i j = if i = a ∧ b ≤ j ∧ j < b + n then (if a = j then 0 else 99999) else M i j
  | 0, b, M, i, j => by rw [if_neg (by omega)]; rfl
  | n + 1, b, M, i, j => by
    unfold gRow
    rw [gRow_eq a n (b + 1) _ i j, updG_eq]
    by_cases h : i = a ∧ b + 1 ≤ j ∧ j < b + 1 + n
    · rw [if_pos h, if_pos (show i = a ∧ b ≤ j ∧ j < b + (n + 1) by omega)]
    · rw [if_neg h]
      by_cases h2 : i = a ∧ j = b
      · rw [if_pos h2, if_pos (show i = a ∧ b ≤ j ∧ j < b + (n + 1) by omega), h2.2]
      · rw [if_neg h2, if_neg (show ¬ (i = a ∧ b ≤ j ∧ j < b + (n + 1)) by omega)]
theorem gIni_eq : ∀ (n a : Nat) (M : Nat → Nat → Int32) (i j : Nat), gIni n a M i j = if a ≤ i ∧ i < a + n ∧ j < 12 then (if i = j then 0 else 99999) else M i j
  | 0, a, M, i, j => by rw [if_neg (by omega)]; rfl
  | n + 1, a, M, i, j => by
    unfold gIni
    rw [gIni_eq n (a + 1) _ i j, gRow_eq]
    by_cases h : a + 1 ≤ i ∧ i < a + 1 + n ∧ j < 12
    · rw [if_pos h, if_pos (show a ≤ i ∧ i < a + (n + 1) ∧ j < 12 by omega)]
    · rw [if_neg h]
      by_cases h2 : i = a ∧ 0 ≤ j ∧ j < 0 + 12
      · rw [if_pos h2, if_pos (show a ≤ i ∧ i < a + (n + 1) ∧ j < 12 by omega), h2.1]
      · rw [if_neg h2, if_neg (show ¬ (a ≤ i ∧ i < a + (n + 1) ∧ j < 12) by omega)]
theorem sbR_eq {tc : Nat} (htc : tc ≤ 12) (a : Nat) : ∀ (n b : Nat) (B : Nat → Int32) (i j : Nat), b + n = tc → j < tc → sbR a n b B (i * 12 + j) = if i = a ∧ b ≤ j then (if a = j then 0 else 99999) else B (i * 12 + j)
  | 0, b, B, i, j, hm, hj => by rw [if_neg (by omega)]; rfl
  | n + 1, b, B, i, j, hm, hj => by
    unfold sbR
    rw [sbR_eq htc a n (b + 1) _ i j (by omega) hj]
    unfold upd
    by_cases h : i = a ∧ b + 1 ≤ j
    · rw [if_pos h, if_pos (show i = a ∧ b ≤ j by omega)]
    · rw [if_neg h]
      by_cases h2 : i * 12 + j = a * 12 + b
      · rw [if_pos h2, if_pos (show i = a ∧ b ≤ j by omega), show j = b by omega]
      · rw [if_neg h2, if_neg (show ¬ (i = a ∧ b ≤ j) by omega)]
theorem sbA_eq {tc : Nat} (htc : tc ≤ 12) : ∀ (n a : Nat) (B : Nat → Int32) (i j : Nat), a + n = tc → i < tc → j < tc → sbA tc n a B (i * 12 + j) = if a ≤ i then (if i = j then 0 else 99999) else B (i * 12 + j)
  | 0, a, B, i, j, hm, hi, hj => by rw [if_neg (by omega)]; rfl
  | n + 1, a, B, i, j, hm, hi, hj => by
    unfold sbA
    rw [sbA_eq htc n (a + 1) _ i j (by omega) hi hj, sbR_eq htc a tc 0 B i j (by omega) hj]
    by_cases h : a + 1 ≤ i
    · rw [if_pos h, if_pos (show a ≤ i by omega)]
    · rw [if_neg h]
      by_cases h2 : i = a ∧ 0 ≤ j
      · rw [if_pos h2, if_pos (show a ≤ i by omega), h2.1]
      · rw [if_neg h2, if_neg (show ¬ (a ≤ i) by omega)]
theorem ini_gEq {tc : Nat} (htc : tc ≤ 12) (B : Nat → Int32) : gEq tc (sbA tc tc 0 B) (gIni 12 0 (fun _ _ => 0)) := fun i j hi hj => by
  rw [sbA_eq htc tc 0 B i j (by omega) hi hj, gIni_eq, if_pos (Nat.zero_le i), if_pos (show 0 ≤ i ∧ i < 0 + 12 ∧ j < 12 by omega)]
theorem sbW_gRop {tc rc : Nat} {F T : Nat → Nat} (L : Nat → Int32) (Z : Nat → Bool) (htc : tc ≤ 12) (hF : okR tc rc F T) : ∀ (n r : Nat) (B : Nat → Int32) (M : Nat → Nat → Int32), r + n = rc → gEq tc B M → gEq tc (sbW F T L Z n r B) (gRop F T L Z n r M)
  | 0, _, _, _, _, h => h
  | n + 1, r, B, M, hm, h => by
    have hf := hF r (by omega)
    unfold sbW gRop
    refine sbW_gRop L Z htc hF n (r + 1) _ _ (by omega) ?_
    split
    · unfold shortB
      rw [h _ _ hf.1 hf.2]
      exact gEq_upd htc h hf.1 hf.2 _
    · exact h
theorem ini_pot {tc : Nat} {t : Nat → Int} (htc : tc ≤ 12) (hs : sml tc t) : pot tc t (gIni 12 0 (fun _ _ => 0)) ∧ dia tc (gIni 12 0 (fun _ _ => 0)) := by
  refine ⟨fun a b ha hb => ?_, fun v hv => ?_⟩
  · rw [gIni_eq, if_pos (by omega)]
    have h1 := hs a ha
    have h2 := hs b hb
    split
    · rename_i he
      rw [i_0, he]
      omega
    · rw [i_inf]
      omega
  · rw [gIni_eq, if_pos (by omega), if_pos rfl]
/-- with the ropes in: still above the timetable; every tied rope is in -/
theorem gRop_pot {tc rc : Nat} {F T : Nat → Nat} {L : Nat → Int32} {Z : Nat → Bool} {t : Nat → Int} {K : Int} (hF : okR tc rc F T) (hL : lenR rc L) (ht : ttb tc rc F T L Z K t) : ∀ (n r : Nat) (M : Nat → Nat → Int32), r + n = rc → pot tc t M → dia tc M → pot tc t (gRop F T L Z n r M) ∧ dia tc (gRop F T L Z n r M) ∧ (∀ i j, i < tc → j < tc → (gRop F T L Z n r M i j).toInt ≤ (M i j).toInt) ∧ ∀ k, r ≤ k → k < rc → Z k = true → (gRop F T L Z n r M (F k) (T k)).toInt ≤ (L k).toInt
  | 0, _, _, hm, hp, hd => ⟨hp, hd, fun _ _ _ _ => Int.le_refl _, fun k h1 h2 => by omega⟩
  | n + 1, r, M, hm, hp, hd => by
    have hf := hF r (by omega)
    have hl := hL r (by omega)
    unfold gRop
    by_cases hz : Z r = true
    · rw [if_pos hz]
      have h0 := hp _ _ hf.1 hf.2
      have h1 := ht.2 r (by omega) hz
      have g1 : t (T r) - t (F r) ≤ (mnI (M (F r) (T r)) (L r)).toInt := by
        rw [i_mn]
        split <;> omega
      have g2 : (mnI (M (F r) (T r)) (L r)).toInt ≤ (M (F r) (T r)).toInt := by
        rw [i_mn]
        split <;> omega
      have g3 : (mnI (M (F r) (T r)) (L r)).toInt ≤ (L r).toInt := by
        rw [i_mn]
        split <;> omega
      obtain ⟨p1, p2⟩ := pot_upd hp hd g1 g2
      obtain ⟨q1, q2, q3, q4⟩ := gRop_pot hF hL ht n (r + 1) _ (by omega) p1 (p2 hf.1)
      refine ⟨q1, q2, fun i j hi hj => Int.le_trans (q3 i j hi hj) ?_, fun k h1 h2 h3 => ?_⟩
      · rw [updG_eq]
        split
        · rename_i he
          rw [he.1, he.2]
          exact g2
        · exact Int.le_refl _
      · by_cases hk : k = r
        · subst hk
          refine Int.le_trans (q3 _ _ hf.1 hf.2) ?_
          rw [updG_eq, if_pos ⟨rfl, rfl⟩]
          exact g3
        · exact q4 k (by omega) h2 h3
    · rw [if_neg hz]
      obtain ⟨q1, q2, q3, q4⟩ := gRop_pot hF hL ht n (r + 1) M (by omega) hp hd
      refine ⟨q1, q2, q3, fun k h1 h2 h3 => ?_⟩
      by_cases hk : k = r
      · subst hk
        exact absurd h3 hz
      · exact q4 k (by omega) h2 h3
/-- the two tables are the same, where there is a timetable -/
theorem way_eq {tc rc : Nat} {F T : Nat → Nat} {L : Nat → Int32} {Z : Nat → Bool} {t : Nat → Int} (htc : tc ≤ 12) (hF : okR tc rc F T) (hL : lenR rc L) (ht : ttb tc rc F T L Z 38610 t) (B : Nat → Int32) : gEq tc (findB F T L Z tc rc B) (wayM F T L Z tc rc) := by
  obtain ⟨h1, h2⟩ := ini_pot htc ht.1
  obtain ⟨q1, q2, -, -⟩ := gRop_pot hF hL ht rc 0 _ (by omega) h1 h2
  exact fbM_gV htc ht.1 tc 0 _ _ (by omega) (sbW_gRop L Z htc hF rc 0 _ _ (by omega) (ini_gEq htc B)) q1 q2
theorem way_pot {tc rc : Nat} {F T : Nat → Nat} {L : Nat → Int32} {Z : Nat → Bool} {t : Nat → Int} (htc : tc ≤ 12) (hF : okR tc rc F T) (hL : lenR rc L) (ht : ttb tc rc F T L Z 38610 t) : pot tc t (wayM F T L Z tc rc) ∧ dia tc (wayM F T L Z tc rc) ∧ ∀ k, k < rc → Z k = true → (wayM F T L Z tc rc (F k) (T k)).toInt ≤ (L k).toInt := by
  obtain ⟨h1, h2⟩ := ini_pot htc ht.1
  obtain ⟨q1, q2, -, q4⟩ := gRop_pot hF hL ht rc 0 _ (by omega) h1 h2
  obtain ⟨r1, r2, r3⟩ := gV_keep ht.1 tc 0 _ (by omega) q1 q2
  exact ⟨r1, r2, fun k hk hz => Int.le_trans (r3 _ _ (hF k hk).1 (hF k hk).2) (q4 k (by omega) hk hz)⟩
