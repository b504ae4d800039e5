/-! what the law's own mill computes: its loops as functions -/
def gRw (a : Nat) : Nat → Nat → (Nat → Nat → Int32) → Nat → Nat → Int32
  | 0, _, M => M
  | n + 1, b, M => gRw a n (b + 1) (updG M a b (if a = b then 0 else 99999))
def gIn (nn : Nat) : Nat → Nat → (Nat → Nat → Int32) → Nat → Nat → Int32
  | 0, _, M => M
  | n + 1, a, M => gIn nn n (a + 1) (gRw a nn 0 M)
def bfI (F T : Nat → Nat) (L : Nat → Int32) (Z : Nat → Bool) (a : Nat) : Nat → Nat → (Nat → Nat → Int32) → Bool → (Nat → Nat → Int32) × Bool
  | 0, _, M, ch => (M, ch)
  | n + 1, r, M, ch => if Z r = true ∧ ¬ M a (F r) = 99999 ∧ M a (F r) + L r < M a (T r) then bfI F T L Z a n (r + 1) (updG M a (T r) (M a (F r) + L r)) true else bfI F T L Z a n (r + 1) M ch
def bfG (F T : Nat → Nat) (L : Nat → Int32) (Z : Nat → Bool) (m : Nat) : Nat → Nat → (Nat → Nat → Int32) → Bool → (Nat → Nat → Int32) × Bool
  | 0, _, M, ch => (M, ch)
  | n + 1, a, M, ch => bfG F T L Z m n (a + 1) (bfI F T L Z a m 0 M ch).1 (bfI F T L Z a m 0 M ch).2
def bfT (F T : Nat → Nat) (L : Nat → Int32) (Z : Nat → Bool) (nn m : Nat) : Nat → (Nat → Nat → Int32) → Option (Nat → Nat → Int32)
  | 0, _ => none
  | k + 1, M => if (bfG F T L Z m nn 0 M false).2 = true then bfT F T L Z nn m k (bfG F T L Z m nn 0 M false).1 else some (bfG F T L Z m nn 0 M false).1
/-- all least ways, or none -/
def bfW (F T : Nat → Nat) (L : Nat → Int32) (Z : Nat → Bool) (n m : Nat) : Option (Nat → Nat → Int32) := bfT F T L Z n m (n + 1) (gIn n n 0 (fun _ _ => 0))
def tmI (W : Nat → Nat → Int32) (a : Nat) : Nat → Nat → (Nat → Int32) → Nat → Int32
  | 0, _, E => E
  | n + 1, b, E => tmI W a n (b + 1) (upd E a (mxI (E a) (-(W a b))))
def tmA (W : Nat → Nat → Int32) (nn : Nat) : Nat → Nat → (Nat → Int32) → Nat → Int32
  | 0, _, E => E
  | n + 1, a, E => tmA W nn n (a + 1) (tmI W a nn 0 E)
def timS (W : Nat → Nat → Int32) (n : Nat) : Nat → Int32 := tmA W n n 0 (fun _ => 0)
def psS (F T : Nat → Nat) (L : Nat → Int32) (Z : Nat → Bool) : Nat → Nat → (Nat → Int32) → Bool → (Nat → Int32) × Bool
  | 0, _, E, ch => (E, ch)
  | n + 1, r, E, ch => if Z r = true ∧ E (F r) + L r < E (T r) then psS F T L Z n (r + 1) (upd E (F r) (E (T r) - L r)) true else psS F T L Z n (r + 1) E ch
def rdS (F T : Nat → Nat) (L : Nat → Int32) (Z : Nat → Bool) (m : Nat) : Nat → Nat → (Nat → Int32) → Int32
  | 0, _, _ => -1
  | k + 1, i, E => if (psS F T L Z m 0 E false).2 = true then rdS F T L Z m k (i + 1) (psS F T L Z m 0 E false).1 else nI (i + 1)
def gF1 (a : Nat) : Nat → Nat → (Nat → Nat → Int32) → Nat → Nat → Int32
  | 0, _, M => M
  | n + 1, b, M => gF1 a n (b + 1) (updG M a b 99999)
def gFA (nn : Nat) : Nat → Nat → (Nat → Nat → Int32) → Nat → Nat → Int32
  | 0, _, M => M
  | n + 1, a, M => gFA nn n (a + 1) (gF1 a nn 0 M)
def rgI (F T : Nat → Nat) (L : Nat → Int32) (Z : Nat → Bool) (S : Nat → Nat → Int32) (a : Nat) : Nat → Nat → (Nat → Nat → Int32) → Nat → Nat → Int32
  | 0, _, M => M
  | n + 1, r, M => if Z r = true ∧ ¬ S a (F r) = 99999 then rgI F T L Z S a n (r + 1) (updG M a (T r) (mnI (M a (T r)) (S a (F r) + L r))) else rgI F T L Z S a n (r + 1) M
def rgG (F T : Nat → Nat) (L : Nat → Int32) (Z : Nat → Bool) (S : Nat → Nat → Int32) (m : Nat) : Nat → Nat → (Nat → Nat → Int32) → Nat → Nat → Int32
  | 0, _, M => M
  | n + 1, a, M => rgG F T L Z S m n (a + 1) (rgI F T L Z S a m 0 M)
def nxG (F T : Nat → Nat) (L : Nat → Int32) (Z : Nat → Bool) (nn m : Nat) (S : Nat → Nat → Int32) : Nat → Nat → Int32 := rgG F T L Z S m nn 0 (gFA nn nn 0 (fun _ _ => 0))
def ngA (S : Nat → Nat → Int32) : Nat → Nat → Bool
  | 0, _ => false
  | n + 1, a => if S a a < 0 then true else ngA S n (a + 1)
def rgT (F T : Nat → Nat) (L : Nat → Int32) (Z : Nat → Bool) (nn m : Nat) : Nat → Nat → (Nat → Nat → Int32) → Nat
  | 0, _, _ => 0
  | k + 1, many, S => if ngA (nxG F T L Z nn m S) nn 0 = true then many else rgT F T L Z nn m k (many + 1) (nxG F T L Z nn m S)
def rmV (W : Nat → Nat → Int32) (a b : Nat) : Int32 := if W b a = 99999 then -99 else if 99 < W b a then -99 else -(W b a)
theorem rgT_le (F T : Nat → Nat) (L : Nat → Int32) (Z : Nat → Bool) (nn m : Nat) : ∀ k many S, rgT F T L Z nn m k many S ≤ k + many
  | 0, _, _ => Nat.zero_le _
  | k + 1, many, S => by
    unfold rgT
    split
    · omega
    · have := rgT_le F T L Z nn m k (many + 1) (nxG F T L Z nn m S)
      omega
