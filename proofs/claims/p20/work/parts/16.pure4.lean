theorem xA_le {ws : va_W} {sz N0 : Nat} (h : ∀ x ∈ ws, N0 ≤ x.1) (hN : N0 ≤ sz) : ∀ q, va_A ws sz q → N0 ≤ q := fun q hq => hq.elim (fun ⟨k, e, hk⟩ => h (q, e) (List.mem_of_getElem? hk)) (fun h2 => Nat.le_trans hN h2)
theorem okR_turn {tc rc : Nat} {F T : Nat → Nat} (h : okR tc rc F T) : okR (tc + 1) rc F T := fun r hr => by have := h r hr; omega
theorem okR_tie {tc rc a b : Nat} {F T : Nat → Nat} (h : okR tc rc F T) (ha : a < tc) (hb : b < tc) : okR tc (rc + 1) (updN F rc a) (updN T rc b) := fun r hr => by
  unfold updN
  by_cases hq : r = rc
  · rw [if_pos hq, if_pos hq]; exact ⟨ha, hb⟩
  · rw [if_neg hq, if_neg hq]; exact h r (by omega)
