/-! what the methods compute: the loops as functions -/
abbrev xTy (t : Nat → ClassId) : List (ClassId × FieldType) := [(t 0, .int), (t 1, .boolean), (t 3, .array .int)]
theorem xTrav_T : xTrav (fun _ => True) := fun _ _ _ _ h => h
theorem x_inc (i : Nat) : nI i + Int32.ofInt 1 = nI (i + 1) := nI_1 i
theorem x_inc4 (i : Nat) : nI i + Int32.ofInt 4 = nI (i + 4) := nI_add i 4
def lastF (E : Nat → Int32) : Nat → Nat → Int32 → Int32
  | 0, _, mx => mx
  | n + 1, i, mx => lastF E n (i + 1) (mxI mx (E i))
def aheadF (E : Nat → Int32) (t : Nat) : Nat → Nat → Nat → Nat
  | 0, _, ah => ah
  | n + 1, i, ah => aheadF E t n (i + 1) (if E i < E t ∨ (E i = E t ∧ i < t) then ah + 1 else ah)
def countF (P : Nat → Bool) : Nat → Nat → Nat → Nat
  | 0, _, k => k
  | n + 1, i, k => countF P n (i + 1) (if P i = true then k + 1 else k)
def tightB (ro : Int32) (E : Nat → Int32) (F T : Nat → Nat) (L : Nat → Int32) (Z : Nat → Bool) (r : Nat) : Bool := decide (¬ ro = -1) && (Z r && decide (E (T r) = E (F r) + L r))
def leastF (B : Nat → Int32) (a b : Nat) : Int32 := if B (b * 12 + a) = 99999 then -99 else mxI (-99) (-(B (b * 12 + a)))
theorem countF_le (P : Nat → Bool) : ∀ n i k, countF P n i k ≤ k + n
  | 0, _, k => Nat.le_refl k
  | n + 1, i, k => by
    have h := countF_le P n (i + 1) (if P i = true then k + 1 else k)
    show countF P n (i + 1) _ ≤ _
    split at h <;> split <;> simp_all <;> omega
theorem aheadF_le (E : Nat → Int32) (t : Nat) : ∀ n i ah, aheadF E t n i ah ≤ ah + n
  | 0, _, ah => Nat.le_refl ah
  | n + 1, i, ah => by
    have h := aheadF_le E t n (i + 1) (if E i < E t ∨ (E i = E t ∧ i < t) then ah + 1 else ah)
    show aheadF E t n (i + 1) _ ≤ _
    split at h <;> split <;> simp_all <;> omega
