/-! the law's short ring is the class's -/
theorem ringL_ge (F T : Nat → Nat) (L : Nat → Int32) (Z : Nat → Bool) (tc rc st : Nat) : ∀ n k q, (ringL F T L Z tc rc st n k q).1 = 0 ∨ k ≤ (ringL F T L Z tc rc st n k q).1
  | 0, _, _ => Or.inl rfl
  | n + 1, k, q => by
    show (if _ then _ else _ : Nat × (Nat → Int32) × (Nat → Int32)).1 = 0 ∨ k ≤ (if _ then _ else _ : Nat × (Nat → Int32) × (Nat → Int32)).1
    split
    · exact Or.inr (Nat.le_refl k)
    · rcases ringL_ge F T L Z tc rc st n (k + 1) (oneR F T L Z tc rc q) with h | h
      · exact Or.inl h
      · exact Or.inr (by omega)
theorem rgI_row (F T : Nat → Nat) (L : Nat → Int32) (Z : Nat → Bool) (S : Nat → Nat → Int32) (a : Nat) : ∀ n r M, rgI F T L Z S a n r M a = goW F T L Z (S a) n r (M a) ∧ ∀ i, ¬ i = a → rgI F T L Z S a n r M i = M i
  | 0, _, _ => ⟨rfl, fun _ _ => rfl⟩
  | n + 1, r, M => by
    unfold rgI goW
    by_cases h : Z r = true ∧ ¬ S a (F r) = 99999
    · rw [if_pos h, if_pos h]
      obtain ⟨h1, h2⟩ := rgI_row F T L Z S a n (r + 1) (updG M a (T r) (mnI (M a (T r)) (S a (F r) + L r)))
      rw [updG_at] at h1
      exact ⟨h1, fun i hi => (h2 i hi).trans (updG_ne M _ _ hi)⟩
    · rw [if_neg h, if_neg h]
      exact rgI_row F T L Z S a n (r + 1) M
theorem rgG_row (F T : Nat → Nat) (L : Nat → Int32) (Z : Nat → Bool) (S : Nat → Nat → Int32) (m : Nat) : ∀ n a M i, rgG F T L Z S m n a M i = if a ≤ i ∧ i < a + n then goW F T L Z (S i) m 0 (M i) else M i
  | 0, a, M, i => by rw [if_neg (by omega)]; rfl
  | n + 1, a, M, i => by
    obtain ⟨h1, h2⟩ := rgI_row F T L Z S a m 0 M
    show rgG F T L Z S m n (a + 1) _ i = _
    rw [rgG_row F T L Z S m n (a + 1) _ i]
    by_cases hi : i = a
    · subst hi
      rw [if_neg (by omega), if_pos (by omega), h1]
    · rw [h2 i hi]
      by_cases hr : a + 1 ≤ i ∧ i < a + 1 + n
      · rw [if_pos hr, if_pos (by omega)]
      · rw [if_neg hr, if_neg (by omega)]
theorem gF1_eq (a : Nat) : ∀ (n b : Nat) (M : Nat → Nat → Int32) (i j : Nat), gF1 a n b M i j = if i = a ∧ b ≤ j ∧ j < b + n then 99999 else M i j
  | 0, b, M, i, j => by rw [if_neg (by omega)]; rfl
  | n + 1, b, M, i, j => by
    show gF1 a n (b + 1) _ i j = _
    rw [gF1_eq a n (b + 1) _ i j, updG_eq]
    by_cases h1 : i = a ∧ b + 1 ≤ j ∧ j < b + 1 + n
    · rw [if_pos h1, if_pos (show i = a ∧ b ≤ j ∧ j < b + (n + 1) by omega)]
    · rw [if_neg h1]
      by_cases h2 : i = a ∧ j = b
      · rw [if_pos h2, if_pos (show i = a ∧ b ≤ j ∧ j < b + (n + 1) by omega)]
      · rw [if_neg h2, if_neg (show ¬ (i = a ∧ b ≤ j ∧ j < b + (n + 1)) by omega)]
theorem gFA_eq (nn : Nat) : ∀ (n a : Nat) (M : Nat → Nat → Int32) (i j : Nat), j < nn → gFA nn n a M i j = if a ≤ i ∧ i < a + n then 99999 else M i j
  | 0, a, M, i, j, _ => by rw [if_neg (by omega)]; rfl
  | n + 1, a, M, i, j, hj => by
    show gFA nn n (a + 1) _ i j = _
    rw [gFA_eq nn n (a + 1) _ i j hj, gF1_eq]
    by_cases h1 : a + 1 ≤ i ∧ i < a + 1 + n
    · rw [if_pos h1, if_pos (show a ≤ i ∧ i < a + (n + 1) by omega)]
    · rw [if_neg h1]
      by_cases h2 : i = a
      · subst h2
        rw [if_pos (show i = i ∧ 0 ≤ j ∧ j < 0 + nn by omega), if_pos (show i ≤ i ∧ i < i + (n + 1) by omega)]
      · rw [if_neg (show ¬ (i = a ∧ 0 ≤ j ∧ j < 0 + nn) by omega), if_neg (show ¬ (a ≤ i ∧ i < a + (n + 1)) by omega)]
theorem nx_ag {tc rc : Nat} {F T : Nat → Nat} (L : Nat → Int32) (Z : Nat → Bool) (hF : okR tc rc F T) {S : Nat → Nat → Int32} {q : (Nat → Int32) × (Nat → Int32)} {i : Nat} (hi : i < tc) (h : ag tc q.1 (S i)) : ag tc (oneR F T L Z tc rc q).1 (nxG F T L Z tc rc S i) := fun j hj => by
  show copyF _ tc 0 q.1 j = _
  rw [copyF_in _ tc 0 _ j (by omega) (by omega)]
  unfold nxG
  rw [rgG_row, if_pos (by omega)]
  refine goW_ag L Z hF h rc 0 _ _ (by omega) (fun k hk => ?_) j hj
  rw [fillF_in 99999 tc 0 q.2 k (by omega) (by omega), gFA_eq tc tc 0 _ i k hk, if_pos (by omega)]
theorem ngA_iff (S : Nat → Nat → Int32) : ∀ n a, ngA S n a = true ↔ ∃ i, a ≤ i ∧ i < a + n ∧ S i i < 0
  | 0, a => ⟨fun h => (by cases h), fun ⟨i, h1, h2, _⟩ => (by omega)⟩
  | n + 1, a => by
    unfold ngA
    by_cases h : S a a < 0
    · rw [if_pos h]
      exact ⟨fun _ => ⟨a, by omega, by omega, h⟩, fun _ => rfl⟩
    · rw [if_neg h, ngA_iff S n (a + 1)]
      constructor
      · rintro ⟨i, h1, h2, h3⟩
        exact ⟨i, by omega, by omega, h3⟩
      · rintro ⟨i, h1, h2, h3⟩
        by_cases hi : i = a
        · subst hi
          exact absurd h3 h
        · exact ⟨i, by omega, by omega, h3⟩
/-- v is the least of f that is not 0, below n; 0 if there is none -/
def chr (n : Nat) (f : Nat → Nat) (v : Nat) : Prop := (v = 0 ∧ ∀ a, a < n → f a = 0) ∨ (¬ v = 0 ∧ (∃ a, a < n ∧ f a = v) ∧ ∀ a, a < n → ¬ f a = 0 → v ≤ f a)
theorem chr_uniq {n : Nat} {f : Nat → Nat} {v w : Nat} (h1 : chr n f v) (h2 : chr n f w) : v = w := by
  rcases h1 with ⟨a1, a2⟩ | ⟨a1, ⟨a, b1, b2⟩, a3⟩
  · rcases h2 with ⟨c1, c2⟩ | ⟨c1, ⟨c, d1, d2⟩, c3⟩
    · rw [a1, c1]
    · have := a2 c d1
      omega
  · rcases h2 with ⟨c1, c2⟩ | ⟨c1, ⟨c, d1, d2⟩, c3⟩
    · have := c2 a b1
      omega
    · have e1 := a3 c d1 (by omega)
      have e2 := c3 a b1 (by omega)
      omega
theorem rgT_chr {tc rc : Nat} {F T : Nat → Nat} (L : Nat → Int32) (Z : Nat → Bool) (hF : okR tc rc F T) : ∀ (k many : Nat) (S : Nat → Nat → Int32) (q : Nat → (Nat → Int32) × (Nat → Int32)), 1 ≤ many → (∀ a, a < tc → ag tc (q a).1 (S a)) → chr tc (fun a => (ringL F T L Z tc rc a k many (q a)).1) (rgT F T L Z tc rc k many S)
  | 0, _, _, _, _, _ => Or.inl ⟨rfl, fun _ _ => rfl⟩
  | k + 1, many, S, q, hm, h => by
    have hn : ∀ a, a < tc → ag tc (oneR F T L Z tc rc (q a)).1 (nxG F T L Z tc rc S a) := fun a ha => nx_ag L Z hF ha (h a ha)
    have hL : ∀ a, a < tc → (ringL F T L Z tc rc a (k + 1) many (q a)).1 = if nxG F T L Z tc rc S a a < 0 then many else (ringL F T L Z tc rc a k (many + 1) (oneR F T L Z tc rc (q a))).1 := fun a ha => by
      show (if _ then _ else _ : Nat × (Nat → Int32) × (Nat → Int32)).1 = _
      rw [hn a ha a ha]
      split <;> rfl
    unfold rgT
    by_cases hc : ngA (nxG F T L Z tc rc S) tc 0 = true
    · rw [if_pos hc]
      obtain ⟨i, -, i2, i3⟩ := (ngA_iff _ _ _).mp hc
      refine Or.inr ⟨by omega, ⟨i, by omega, ?_⟩, fun a ha hne => ?_⟩
      · dsimp only
        rw [hL i (by omega), if_pos i3]
      · dsimp only at hne ⊢
        rw [hL a ha] at hne ⊢
        split
        · exact Nat.le_refl _
        · rename_i hng
          rw [if_neg hng] at hne
          rcases ringL_ge F T L Z tc rc a k (many + 1) (oneR F T L Z tc rc (q a)) with h9 | h9
          · exact absurd h9 hne
          · omega
    · rw [if_neg hc]
      have hno : ∀ a, a < tc → ¬ nxG F T L Z tc rc S a a < 0 := fun a ha z => hc ((ngA_iff _ _ _).mpr ⟨a, by omega, by omega, z⟩)
      have ih := rgT_chr L Z hF k (many + 1) (nxG F T L Z tc rc S) (fun a => oneR F T L Z tc rc (q a)) (by omega) hn
      have he : ∀ a, a < tc → (ringL F T L Z tc rc a (k + 1) many (q a)).1 = (ringL F T L Z tc rc a k (many + 1) (oneR F T L Z tc rc (q a))).1 := fun a ha => by
        rw [hL a ha, if_neg (hno a ha)]
      rcases ih with ⟨a1, a2⟩ | ⟨a1, ⟨a, b1, b2⟩, a3⟩
      · exact Or.inl ⟨a1, fun a ha => by
          have := a2 a ha
          dsimp only at this ⊢
          rw [he a ha]; exact this⟩
      · refine Or.inr ⟨a1, ⟨a, b1, ?_⟩, fun c hc2 hne => ?_⟩
        · dsimp only at b2 ⊢
          rw [he a b1]; exact b2
        · have := a3 c hc2
          dsimp only at this hne ⊢
          rw [he c hc2] at hne ⊢
          exact this hne
theorem ringA_chr {tc rc : Nat} {F T : Nat → Nat} (L : Nat → Int32) (Z : Nat → Bool) (hF : okR tc rc F T) (q0 : (Nat → Int32) × (Nat → Int32)) : ∀ (n st few : Nat) (q : (Nat → Int32) × (Nat → Int32)), st + n = tc → chr st (fun a => (ringS F T L Z tc rc a q0).1) few → chr tc (fun a => (ringS F T L Z tc rc a q0).1) (ringA F T L Z tc rc n st few q).1
  | 0, st, few, q, hm, h => by
    obtain rfl : tc = st := by omega
    exact h
  | n + 1, st, few, q, hm, h => by
    have e := ringS_any L Z hF (show st < tc by omega) q q0
    show chr tc _ (ringA F T L Z tc rc n (st + 1) _ _).1
    refine ringA_chr L Z hF q0 n (st + 1) _ _ (by omega) ?_
    rw [e]
    have hlt : ∀ a, a < st + 1 → a < st ∨ a = st := fun a ha => by omega
    by_cases hc : ¬ (ringS F T L Z tc rc st q0).1 = 0 ∧ (few = 0 ∨ (ringS F T L Z tc rc st q0).1 < few)
    · rw [if_pos hc]
      refine Or.inr ⟨hc.1, ⟨st, by omega, rfl⟩, fun a ha hne => ?_⟩
      rcases hlt a ha with h1 | h1
      · rcases h with ⟨a1, a2⟩ | ⟨a1, -, a3⟩
        · exact absurd (a2 a h1) hne
        · have := a3 a h1 hne
          dsimp only at this ⊢
          omega
      · subst h1
        exact Nat.le_refl _
    · rw [if_neg hc]
      rcases h with ⟨a1, a2⟩ | ⟨a1, ⟨a, b1, b2⟩, a3⟩
      · refine Or.inl ⟨a1, fun a ha => ?_⟩
        rcases hlt a ha with h1 | h1
        · exact a2 a h1
        · subst h1
          dsimp only
          omega
      · refine Or.inr ⟨a1, ⟨a, by omega, b2⟩, fun c hc2 hne => ?_⟩
        rcases hlt c hc2 with h1 | h1
        · exact a3 c h1 hne
        · subst h1
          dsimp only at hne ⊢
          omega
theorem ring_eq {tc rc : Nat} {F T : Nat → Nat} (L : Nat → Int32) (Z : Nat → Bool) (hF : okR tc rc F T) : rgT F T L Z tc rc tc 1 (gIn tc tc 0 (fun _ _ => 0)) = ringC F T L Z tc rc := by
  have h1 := ringA_chr L Z hF (fun _ => 0, fun _ => 0) tc 0 0 (fun _ => 0, fun _ => 0) (by omega) (Or.inl ⟨rfl, fun a ha => absurd ha (Nat.not_lt_zero a)⟩)
  have h2 := rgT_chr L Z hF tc 1 (gIn tc tc 0 (fun _ _ => 0)) (fun a => (upd (fillF 99999 tc 0 (fun _ => 0)) a 0, fun _ => 0)) (by omega) (fun a ha j hj => by
    show upd (fillF 99999 tc 0 (fun _ => 0)) a 0 j = _
    rw [gIn_eq tc tc 0 _ a j hj, if_pos (by omega)]
    by_cases hj2 : j = a
    · subst hj2
      rw [pk_us, if_pos rfl]
    · rw [pk_un hj2, fillF_in 99999 tc 0 _ j (by omega) (by omega), if_neg (fun z => hj2 z.symm)])
  exact chr_uniq h2 h1
