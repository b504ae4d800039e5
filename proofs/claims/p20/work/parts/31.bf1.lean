/-! the law's search for least ways, row by row -/
def bfR (F T : Nat → Nat) (L : Nat → Int32) (Z : Nat → Bool) : Nat → Nat → (Nat → Int32) → Bool → (Nat → Int32) × Bool
  | 0, _, D, ch => (D, ch)
  | n + 1, r, D, ch => if Z r = true ∧ ¬ D (F r) = 99999 ∧ D (F r) + L r < D (T r) then bfR F T L Z n (r + 1) (upd D (T r) (D (F r) + L r)) true else bfR F T L Z n (r + 1) D ch
theorem updG_at (M : Nat → Nat → Int32) (a b : Nat) (x : Int32) : updG M a b x a = upd (M a) b x := if_pos rfl
theorem updG_ne (M : Nat → Nat → Int32) {a i : Nat} (b : Nat) (x : Int32) (h : ¬ i = a) : updG M a b x i = M i := if_neg h
theorem bfI_row (F T : Nat → Nat) (L : Nat → Int32) (Z : Nat → Bool) (a : Nat) : ∀ n r M ch, (bfI F T L Z a n r M ch).1 a = (bfR F T L Z n r (M a) ch).1 ∧ (∀ i, ¬ i = a → (bfI F T L Z a n r M ch).1 i = M i) ∧ (bfI F T L Z a n r M ch).2 = (bfR F T L Z n r (M a) ch).2
  | 0, _, _, _ => ⟨rfl, fun _ _ => rfl, rfl⟩
  | n + 1, r, M, ch => by
    unfold bfI bfR
    by_cases h : Z r = true ∧ ¬ M a (F r) = 99999 ∧ M a (F r) + L r < M a (T r)
    · rw [if_pos h, if_pos h]
      obtain ⟨h1, h2, h3⟩ := bfI_row F T L Z a n (r + 1) (updG M a (T r) (M a (F r) + L r)) true
      rw [updG_at] at h1 h3
      exact ⟨h1, fun i hi => (h2 i hi).trans (updG_ne M _ _ hi), h3⟩
    · rw [if_neg h, if_neg h]
      exact bfI_row F T L Z a n (r + 1) M ch
theorem bfR_ch (F T : Nat → Nat) (L : Nat → Int32) (Z : Nat → Bool) : ∀ n r D ch, (bfR F T L Z n r D ch).1 = (bfR F T L Z n r D false).1 ∧ ((bfR F T L Z n r D ch).2 = false ↔ ch = false ∧ (bfR F T L Z n r D false).2 = false)
  | 0, _, _, ch => ⟨rfl, by show ch = false ↔ ch = false ∧ false = false; simp⟩
  | n + 1, r, D, ch => by
    unfold bfR
    by_cases h : Z r = true ∧ ¬ D (F r) = 99999 ∧ D (F r) + L r < D (T r)
    · rw [if_pos h, if_pos h]
      obtain ⟨-, h2⟩ := bfR_ch F T L Z n (r + 1) (upd D (T r) (D (F r) + L r)) true
      refine ⟨rfl, ?_⟩
      have h3 : ¬ (bfR F T L Z n (r + 1) (upd D (T r) (D (F r) + L r)) true).2 = false := fun z => by
        have := (h2.mp z).1
        cases this
      exact ⟨fun z => absurd z h3, fun z => absurd z.2 h3⟩
    · rw [if_neg h, if_neg h]
      exact bfR_ch F T L Z n (r + 1) D ch
theorem bfG_row (F T : Nat → Nat) (L : Nat → Int32) (Z : Nat → Bool) (m : Nat) : ∀ n a M ch, (∀ i, (bfG F T L Z m n a M ch).1 i = if a ≤ i ∧ i < a + n then (bfR F T L Z m 0 (M i) false).1 else M i) ∧ ((bfG F T L Z m n a M ch).2 = false ↔ ch = false ∧ ∀ i, a ≤ i → i < a + n → (bfR F T L Z m 0 (M i) false).2 = false)
  | 0, a, M, ch => ⟨fun i => by rw [if_neg (by omega)]; rfl, by
    show ch = false ↔ _
    exact ⟨fun h => ⟨h, fun i h1 h2 => by omega⟩, fun h => h.1⟩⟩
  | n + 1, a, M, ch => by
    obtain ⟨r1, r2, r3⟩ := bfI_row F T L Z a m 0 M ch
    obtain ⟨h1, h2⟩ := bfG_row F T L Z m n (a + 1) (bfI F T L Z a m 0 M ch).1 (bfI F T L Z a m 0 M ch).2
    obtain ⟨c1, c2⟩ := bfR_ch F T L Z m 0 (M a) ch
    refine ⟨fun i => ?_, ?_⟩
    · show (bfG F T L Z m n (a + 1) _ _).1 i = _
      rw [h1 i]
      by_cases hi : i = a
      · subst hi
        rw [if_neg (by omega), if_pos (by omega), r1, c1]
      · rw [r2 i hi]
        by_cases hr : a + 1 ≤ i ∧ i < a + 1 + n
        · rw [if_pos hr, if_pos (by omega)]
        · rw [if_neg hr, if_neg (by omega)]
    · show (bfG F T L Z m n (a + 1) _ _).2 = false ↔ _
      rw [h2, r3, c2]
      constructor
      · rintro ⟨⟨g1, g2⟩, g3⟩
        refine ⟨g1, fun i i1 i2 => ?_⟩
        by_cases hi : i = a
        · subst hi
          exact g2
        · have := g3 i (by omega) (by omega)
          rw [r2 i hi] at this
          exact this
      · rintro ⟨g1, g2⟩
        refine ⟨⟨g1, g2 a (by omega) (by omega)⟩, fun i i1 i2 => ?_⟩
        rw [r2 i (by omega)]
        exact g2 i (by omega) (by omega)
theorem gRw_eq (a : Nat) : ∀ (n b : Nat) (M : Nat → Nat → Int32) (i j : Nat), gRw a n b M i j = if i = a ∧ b ≤ j ∧ j < b + n then (if a = j then 0 else 99999) else M i j
  | 0, b, M, i, j => by rw [if_neg (by omega)]; rfl
  | n + 1, b, M, i, j => by
    show gRw a n (b + 1) _ i j = _
    rw [gRw_eq a n (b + 1) _ i j, updG_eq]
    by_cases h1 : i = a ∧ b + 1 ≤ j ∧ j < b + 1 + n
    · rw [if_pos h1, if_pos (show i = a ∧ b ≤ j ∧ j < b + (n + 1) by omega)]
    · rw [if_neg h1]
      by_cases h2 : i = a ∧ j = b
      · rw [if_pos h2, if_pos (show i = a ∧ b ≤ j ∧ j < b + (n + 1) by omega), h2.2]
      · rw [if_neg h2, if_neg (show ¬ (i = a ∧ b ≤ j ∧ j < b + (n + 1)) by omega)]
theorem gIn_eq (nn : Nat) : ∀ (n a : Nat) (M : Nat → Nat → Int32) (i j : Nat), j < nn → gIn nn n a M i j = if a ≤ i ∧ i < a + n then (if i = j then 0 else 99999) else M i j
  | 0, a, M, i, j, _ => by rw [if_neg (by omega)]; rfl
  | n + 1, a, M, i, j, hj => by
    show gIn nn n (a + 1) _ i j = _
    rw [gIn_eq nn n (a + 1) _ i j hj, gRw_eq]
    by_cases h1 : a + 1 ≤ i ∧ i < a + 1 + n
    · rw [if_pos h1, if_pos (show a ≤ i ∧ i < a + (n + 1) by omega)]
    · rw [if_neg h1]
      by_cases h2 : i = a
      · subst h2
        rw [if_pos (show i = i ∧ 0 ≤ j ∧ j < 0 + nn by omega), if_pos (show i ≤ i ∧ i < i + (n + 1) by omega)]
      · rw [if_neg (show ¬ (i = a ∧ 0 ≤ j ∧ j < 0 + nn) by omega), if_neg (show ¬ (a ≤ i ∧ i < a + (n + 1)) by omega)]
/-! closed functions: P where there is a value; no rope leads below it -/
def clo (rc : Nat) (F T : Nat → Nat) (L : Nat → Int32) (Z : Nat → Bool) (P : Nat → Prop) (G : Nat → Int) : Prop := ∀ r, r < rc → Z r = true → P (F r) → P (T r) ∧ G (T r) ≤ G (F r) + (L r).toInt
def rbn (tc : Nat) (K : Int) (D : Nat → Int32) : Prop := ∀ v, v < tc → ¬ D v = 99999 → -K ≤ (D v).toInt ∧ (D v).toInt ≤ K
def rsp (tc : Nat) (P : Nat → Prop) (G : Nat → Int) (c : Int) (D : Nat → Int32) : Prop := ∀ v, v < tc → ¬ D v = 99999 → P v ∧ G v ≤ c + (D v).toInt
theorem ne_inf {x : Int32} : ¬ x = 99999 ↔ ¬ x.toInt = 99999 := by
  rw [i_eq, i_inf]
theorem upd_cases (D : Nat → Int32) (k : Nat) (x : Int32) (v : Nat) : upd D k x v = x ∧ v = k ∨ upd D k x v = D v ∧ ¬ v = k := by
  unfold upd
  by_cases h : v = k
  · exact Or.inl ⟨if_pos h, h⟩
  · exact Or.inr ⟨if_neg h, h⟩
/-- one pass over the ropes: bounds; what is closed is respected; it only falls; a rope behind the pass -/
theorem bfR_all {tc rc : Nat} {F T : Nat → Nat} {L : Nat → Int32} {Z : Nat → Bool} (hF : okR tc rc F T) (hL : lenR rc L) : ∀ (n r : Nat) (D : Nat → Int32) (ch : Bool) (K : Int), r + n = rc → 0 ≤ K → rbn tc K D → K + 99 * (n : Int) ≤ 90000 →
    rbn tc (K + 99 * (n : Int)) (bfR F T L Z n r D ch).1 ∧ (∀ P G c, clo rc F T L Z P G → rsp tc P G c D → rsp tc P G c (bfR F T L Z n r D ch).1) ∧ (∀ v, v < tc → ¬ D v = 99999 → ¬ (bfR F T L Z n r D ch).1 v = 99999 ∧ ((bfR F T L Z n r D ch).1 v).toInt ≤ (D v).toInt) ∧
    (∀ j, r ≤ j → j < rc → Z j = true → ¬ D (F j) = 99999 → ¬ (bfR F T L Z n r D ch).1 (T j) = 99999 ∧ ((bfR F T L Z n r D ch).1 (T j)).toInt ≤ (D (F j)).toInt + (L j).toInt)
  | 0, r, D, ch, K, hm, h0, h, _ => by
    refine ⟨fun v hv hn => ?_, fun _ _ _ _ h => h, fun v _ hn => ⟨hn, Int.le_refl _⟩, fun j h1 h2 => by omega⟩
    have := h v hv hn
    show -(K + 99 * ((0 : Nat) : Int)) ≤ (D v).toInt ∧ (D v).toInt ≤ K + 99 * ((0 : Nat) : Int)
    omega
  | n + 1, r, D, ch, K, hm, h0, h, hK => by
    have hf := hF r (by omega)
    have hl := hL r (by omega)
    unfold bfR
    by_cases hc : Z r = true ∧ ¬ D (F r) = 99999 ∧ D (F r) + L r < D (T r)
    · rw [if_pos hc]
      have hbF := h _ hf.1 hc.2.1
      have hs : (D (F r) + L r).toInt = (D (F r)).toInt + (L r).toInt := i_add (by omega) (by omega)
      have hlt := i_lt.mp hc.2.2
      have hni : ¬ D (F r) + L r = 99999 := by
        rw [ne_inf, hs]
        omega
      have hb2 : rbn tc (K + 99) (upd D (T r) (D (F r) + L r)) := fun v hv hn => by
        rcases upd_cases D (T r) (D (F r) + L r) v with ⟨e, -⟩ | ⟨e, -⟩
        · rw [e, hs]
          omega
        · rw [e] at hn ⊢
          have := h v hv hn
          omega
      obtain ⟨g1, g2, g3, g4⟩ := bfR_all (Z := Z) hF hL n (r + 1) (upd D (T r) (D (F r) + L r)) true (K + 99) (by omega) (by omega) hb2 (by omega)
      have hfall : ∀ v, ¬ D v = 99999 → ¬ upd D (T r) (D (F r) + L r) v = 99999 ∧ (upd D (T r) (D (F r) + L r) v).toInt ≤ (D v).toInt := fun v hn => by
        rcases upd_cases D (T r) (D (F r) + L r) v with ⟨e, ev⟩ | ⟨e, -⟩
        · rw [e]
          subst ev
          exact ⟨hni, by omega⟩
        · rw [e]
          exact ⟨hn, Int.le_refl _⟩
      refine ⟨fun v hv hn => ?_, fun P G c hG hr => g2 P G c hG (fun v hv hn => ?_), fun v hv hn => ?_, fun j h1 h2 hz hn => ?_⟩
      · have := g1 v hv hn
        omega
      · rcases upd_cases D (T r) (D (F r) + L r) v with ⟨e, ev⟩ | ⟨e, -⟩
        · rw [e, hs]
          subst ev
          obtain ⟨p1, p2⟩ := hr _ hf.1 hc.2.1
          obtain ⟨p3, p4⟩ := hG r (by omega) hc.1 p1
          exact ⟨p3, by omega⟩
        · rw [e] at hn ⊢
          exact hr v hv hn
      · obtain ⟨a1, a2⟩ := hfall v hn
        obtain ⟨a3, a4⟩ := g3 v hv a1
        exact ⟨a3, by omega⟩
      · by_cases hj : j = r
        · subst hj
          have e : upd D (T j) (D (F j) + L j) (T j) = D (F j) + L j := pk_us
          obtain ⟨a3, a4⟩ := g3 (T j) hf.2 (by rw [e]; exact hni)
          rw [e, hs] at a4
          exact ⟨a3, a4⟩
        · obtain ⟨a1, a2⟩ := hfall (F j) hn
          obtain ⟨a3, a4⟩ := g4 j (by omega) h2 hz a1
          exact ⟨a3, by omega⟩
    · rw [if_neg hc]
      obtain ⟨g1, g2, g3, g4⟩ := bfR_all (Z := Z) hF hL n (r + 1) D ch K (by omega) h0 h (by omega)
      refine ⟨fun v hv hn => ?_, g2, g3, fun j h1 h2 hz hn => ?_⟩
      · have := g1 v hv hn
        omega
      · by_cases hj : j = r
        · subst hj
          have hbF := h _ hf.1 hn
          have hs : (D (F j) + L j).toInt = (D (F j)).toInt + (L j).toInt := i_add (by omega) (by omega)
          have hge : ¬ D (F j) + L j < D (T j) := fun z => hc ⟨hz, hn, z⟩
          rw [i_lt, hs] at hge
          have hnT : ¬ D (T j) = 99999 := by
            rw [ne_inf]
            omega
          obtain ⟨a3, a4⟩ := g3 (T j) hf.2 hnT
          exact ⟨a3, by omega⟩
        · exact g4 j (by omega) h2 hz hn
/-- nothing fell: it is closed -/
theorem bfR_fix (F T : Nat → Nat) (L : Nat → Int32) (Z : Nat → Bool) : ∀ n r D, (bfR F T L Z n r D false).2 = false → (bfR F T L Z n r D false).1 = D ∧ ∀ j, r ≤ j → j < r + n → Z j = true → ¬ D (F j) = 99999 → ¬ D (F j) + L j < D (T j)
  | 0, _, _, _ => ⟨rfl, fun j h1 h2 => by omega⟩
  | n + 1, r, D, h => by
    unfold bfR at h ⊢
    by_cases hc : Z r = true ∧ ¬ D (F r) = 99999 ∧ D (F r) + L r < D (T r)
    · rw [if_pos hc] at h
      have := ((bfR_ch F T L Z n (r + 1) _ true).2.mp h).1
      cases this
    · rw [if_neg hc] at h ⊢
      obtain ⟨h1, h2⟩ := bfR_fix F T L Z n (r + 1) D h
      refine ⟨h1, fun j hj1 hj2 hz hn => ?_⟩
      by_cases hj : j = r
      · subst hj
        exact fun z => hc ⟨hz, hn, z⟩
      · exact h2 j (by omega) (by omega) hz hn
theorem bfR_calm (F T : Nat → Nat) (L : Nat → Int32) (Z : Nat → Bool) : ∀ n r D, (∀ j, r ≤ j → j < r + n → Z j = true → ¬ D (F j) = 99999 → ¬ D (F j) + L j < D (T j)) → (bfR F T L Z n r D false).2 = false
  | 0, _, _, _ => rfl
  | n + 1, r, D, h => by
    unfold bfR
    rw [if_neg (fun z => h r (Nat.le_refl r) (by omega) z.1 z.2.1 z.2.2)]
    exact bfR_calm F T L Z n (r + 1) D (fun j h1 h2 => h j (by omega) (by omega))
/-- what the search leaves -/
def bfOK (tc rc : Nat) (F T : Nat → Nat) (L : Nat → Int32) (Z : Nat → Bool) (W : Nat → Nat → Int32) : Prop :=
  (∀ a, a < tc → rbn tc 38610 (W a)) ∧ (∀ a, a < tc → clo rc F T L Z (fun x => ¬ W a x = 99999) (fun x => (W a x).toInt)) ∧ (∀ a, a < tc → ¬ W a a = 99999 ∧ (W a a).toInt ≤ 0) ∧
  ∀ P G, clo rc F T L Z P G → ∀ a, a < tc → P a → rsp tc P G (G a) (W a)
theorem bfT_ok {tc rc : Nat} {F T : Nat → Nat} {L : Nat → Int32} {Z : Nat → Bool} (hrc : rc ≤ 30) (hF : okR tc rc F T) (hL : lenR rc L) : ∀ (f k : Nat) (M W : Nat → Nat → Int32), k + f ≤ 13 → (∀ a, a < tc → rbn tc (2970 * (k : Int)) (M a)) → (∀ a, a < tc → ¬ M a a = 99999 ∧ (M a a).toInt ≤ 0) →
    (∀ P G, clo rc F T L Z P G → ∀ a, a < tc → P a → rsp tc P G (G a) (M a)) → bfT F T L Z tc rc f M = some W → bfOK tc rc F T L Z W
  | 0, _, _, _, _, _, _, _, h => by cases h
  | f + 1, k, M, W, hk, h1, h2, h3, h => by
    unfold bfT at h
    obtain ⟨g1, g2⟩ := bfG_row F T L Z rc tc 0 M false
    by_cases hc : (bfG F T L Z rc tc 0 M false).2 = true
    · rw [if_pos hc] at h
      refine bfT_ok hrc hF hL f (k + 1) _ W (by omega) (fun a ha => ?_) (fun a ha => ?_) (fun P G hG a ha hp => ?_) h
      · rw [g1 a, if_pos (by omega)]
        intro v hv hn
        have := (bfR_all (Z := Z) hF hL rc 0 (M a) false (2970 * (k : Int)) (by omega) (by omega) (h1 a ha) (by omega)).1 v hv hn
        omega
      · rw [g1 a, if_pos (by omega)]
        obtain ⟨d1, d2⟩ := h2 a ha
        obtain ⟨d3, d4⟩ := (bfR_all (Z := Z) hF hL rc 0 (M a) false (2970 * (k : Int)) (by omega) (by omega) (h1 a ha) (by omega)).2.2.1 a ha d1
        exact ⟨d3, by omega⟩
      · rw [g1 a, if_pos (by omega)]
        exact (bfR_all (Z := Z) hF hL rc 0 (M a) false (2970 * (k : Int)) (by omega) (by omega) (h1 a ha) (by omega)).2.1 P G _ hG (h3 P G hG a ha hp)
    · rw [if_neg hc] at h
      have hc2 : (bfG F T L Z rc tc 0 M false).2 = false := by
        cases hx : (bfG F T L Z rc tc 0 M false).2 with
        | false => rfl
        | true => exact absurd hx hc
      have hst := (g2.mp hc2).2
      have hrow : ∀ a, a < tc → W a = M a := fun a ha => by
        have e := Option.some.inj h
        rw [← e, g1 a, if_pos (by omega)]
        exact (bfR_fix F T L Z rc 0 (M a) (hst a (by omega) (by omega))).1
      refine ⟨fun a ha => ?_, fun a ha r hr hz hn => ?_, fun a ha => by rw [hrow a ha]; exact h2 a ha, fun P G hG a ha hp => by rw [hrow a ha]; exact h3 P G hG a ha hp⟩
      · rw [hrow a ha]
        intro v hv hn
        have := h1 a ha v hv hn
        omega
      · show ¬ W a (T r) = 99999 ∧ (W a (T r)).toInt ≤ (W a (F r)).toInt + (L r).toInt
        have hn' : ¬ W a (F r) = 99999 := hn
        rw [hrow a ha] at hn' ⊢
        have hf := hF r hr
        have hl := hL r hr
        have hb := h1 a ha _ hf.1 hn'
        have hg := (bfR_fix F T L Z rc 0 (M a) (hst a (by omega) (by omega))).2 r (by omega) (by omega) hz hn'
        have hs : (M a (F r) + L r).toInt = (M a (F r)).toInt + (L r).toInt := i_add (by omega) (by omega)
        rw [i_lt, hs] at hg
        refine ⟨?_, by omega⟩
        rw [ne_inf]
        omega
theorem bfW_ok {tc rc : Nat} {F T : Nat → Nat} {L : Nat → Int32} {Z : Nat → Bool} (htc : tc ≤ 12) (hrc : rc ≤ 30) (hF : okR tc rc F T) (hL : lenR rc L) {W : Nat → Nat → Int32} (h : bfW F T L Z tc rc = some W) : bfOK tc rc F T L Z W := by
  have e : ∀ a v, a < tc → v < tc → gIn tc tc 0 (fun _ _ => 0) a v = if a = v then 0 else 99999 := fun a v ha hv => by
    rw [gIn_eq tc tc 0 _ a v hv, if_pos (by omega)]
  refine bfT_ok hrc hF hL (tc + 1) 0 _ W (by omega) (fun a ha v hv hn => ?_) (fun a ha => ?_) (fun P G hG a ha hp v hv hn => ?_) h
  · rw [e a v ha hv] at hn ⊢
    split at hn
    · rename_i h9
      rw [if_pos h9]
      exact ⟨by decide, by decide⟩
    · exact absurd rfl hn
  · rw [e a a ha ha, if_pos rfl]
    exact ⟨by decide, by decide⟩
  · rw [e a v ha hv] at hn ⊢
    split at hn
    · rename_i h9
      subst h9
      rw [if_pos rfl, i_0]
      exact ⟨hp, by omega⟩
    · exact absurd rfl hn
