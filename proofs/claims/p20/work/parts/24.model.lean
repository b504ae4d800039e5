/-! the earliest search and the table of least ways as a grid: what both mills are held against -/
def gRow (a : Nat) : Nat → Nat → (Nat → Nat → Int32) → Nat → Nat → Int32
  | 0, _, M => M
  | n + 1, b, M => gRow a n (b + 1) (updG M a b (if a = b then 0 else 99999))
def gIni : Nat → Nat → (Nat → Nat → Int32) → Nat → Nat → Int32
  | 0, _, M => M
  | n + 1, a, M => gIni n (a + 1) (gRow a 12 0 M)
def gRop (F T : Nat → Nat) (L : Nat → Int32) (Z : Nat → Bool) : Nat → Nat → (Nat → Nat → Int32) → Nat → Nat → Int32
  | 0, _, M => M
  | n + 1, r, M => gRop F T L Z n (r + 1) (if Z r = true then updG M (F r) (T r) (mnI (M (F r) (T r)) (L r)) else M)
def gB (v a : Nat) : Nat → Nat → (Nat → Nat → Int32) → Nat → Nat → Int32
  | 0, _, M => M
  | n + 1, b, M => gB v a n (b + 1) (if ¬ M a v = 99999 ∧ ¬ M v b = 99999 then updG M a b (mnI (M a b) (M a v + M v b)) else M)
def gA (v tc : Nat) : Nat → Nat → (Nat → Nat → Int32) → Nat → Nat → Int32
  | 0, _, M => M
  | n + 1, a, M => gA v tc n (a + 1) (gB v a tc 0 M)
def gV (tc : Nat) : Nat → Nat → (Nat → Nat → Int32) → Nat → Nat → Int32
  | 0, _, M => M
  | n + 1, v, M => gV tc n (v + 1) (gA v tc tc 0 M)
def wayM (F T : Nat → Nat) (L : Nat → Int32) (Z : Nat → Bool) (tc rc : Nat) : Nat → Nat → Int32 := gV tc tc 0 (gRop F T L Z rc 0 (gIni 12 0 (fun _ _ => 0)))
def leastG (M : Nat → Nat → Int32) (a b : Nat) : Int32 := if M b a = 99999 then -99 else mxI (-99) (-(M b a))
def rndM (F T : Nat → Nat) (L : Nat → Int32) (A : Nat → Bool) (rc : Nat) : Nat → Nat → (Nat → Int32) → Nat → Int32
  | 0, _, E => E
  | n + 1, k, E => if (passF F T L A rc 0 E false).2 = true then rndM F T L A rc n (k + 1) (passF F T L A rc 0 E false).1 else upd (passF F T L A rc 0 E false).1 12 (nI (k + 1))
def earM (F T : Nat → Nat) (L : Nat → Int32) (A : Nat → Bool) (tc rc : Nat) : Nat → Int32 := rndM F T L A rc (tc + 1) 0 (upd (fun _ => 0) 12 (-1))
def tgM (F T : Nat → Nat) (Z : Nat → Bool) (tc rc : Nat) : Nat → Nat → Int32 → (Nat → Int32) → Int32 × (Nat → Int32)
  | 0, _, sm, L => (sm, L)
  | n + 1, r, sm, L => if Z r = true then tgM F T Z tc rc n (r + 1) (sm + (L r - leastG (wayM F T L Z tc rc) (F r) (T r))) (upd L r (leastG (wayM F T L Z tc rc) (F r) (T r))) else tgM F T Z tc rc n (r + 1) sm L
def tgA (F T : Nat → Nat) (Z : Nat → Bool) (tc rc : Nat) (L : Nat → Int32) : Int32 × (Nat → Int32) := if earM F T L Z tc rc 12 = -1 then (0, L) else tgM F T Z tc rc rc 0 0 L
def adM (F T : Nat → Nat) (L : Nat → Int32) (Z : Nat → Bool) (tc rc : Nat) : Nat → Nat → Int32 → Int32 → Int32
  | 0, _, best, _ => best
  | n + 1, r, best, least =>
    if Z r = true then
      (if earM F T L (updB Z r false) tc rc 12 = -1 then adM F T L Z tc rc n (r + 1) best least
       else if lastF (earM F T L (updB Z r false) tc rc) tc 0 0 < least then adM F T L Z tc rc n (r + 1) (nI r) (lastF (earM F T L (updB Z r false) tc rc) tc 0 0)
       else adM F T L Z tc rc n (r + 1) best least)
    else adM F T L Z tc rc n (r + 1) best least
def advM (F T : Nat → Nat) (L : Nat → Int32) (Z : Nat → Bool) (tc rc : Nat) : Int32 := adM F T L Z tc rc rc 0 (-1) (if earM F T L Z tc rc 12 = -1 then 2147483647 else lastF (earM F T L Z tc rc) tc 0 0)
def xInv (tc rc : Nat) (F T : Nat → Nat) (L : Nat → Int32) (Z : Nat → Bool) (ro : Int32) (E B : Nat → Int32) : Prop :=
  tc ≤ 12 ∧ rc ≤ 30 ∧ okR tc rc F T ∧ (∀ r, r < rc → -99 ≤ (L r).toInt ∧ (L r).toInt ≤ 99) ∧ ro = earM F T L Z tc rc 12 ∧ ag tc E (earM F T L Z tc rc) ∧ (¬ ro = -1 → ∀ a b, a < tc → b < tc → B (a * 12 + b) = wayM F T L Z tc rc a b)
theorem lenB_of {x : Int32} (h : lenB x = true) : -99 ≤ x.toInt ∧ x.toInt ≤ 99 := by
  simp only [lenB, Bool.and_eq_true, Bool.not_eq_true', decide_eq_false_iff_not, Int32.lt_iff_toInt_lt] at h
  have e1 : (-99 : Int32).toInt = -99 := by decide
  have e2 : (99 : Int32).toInt = 99 := by decide
  rw [e1, e2] at h
  omega
theorem upd_len {rc : Nat} {L : Nat → Int32} (hL : ∀ r, r < rc → -99 ≤ (L r).toInt ∧ (L r).toInt ≤ 99) {x : Int32} (hx : -99 ≤ x.toInt ∧ x.toInt ≤ 99) (k : Nat) : ∀ r, r < rc → -99 ≤ (upd L k x r).toInt ∧ (upd L k x r).toInt ≤ 99 := fun r hr => by
  unfold upd
  split
  · exact hx
  · exact hL r hr
theorem upd_len1 {rc : Nat} {L : Nat → Int32} (hL : ∀ r, r < rc → -99 ≤ (L r).toInt ∧ (L r).toInt ≤ 99) {x : Int32} (hx : -99 ≤ x.toInt ∧ x.toInt ≤ 99) : ∀ r, r < rc + 1 → -99 ≤ (upd L rc x r).toInt ∧ (upd L rc x r).toInt ≤ 99 := fun r hr => by
  unfold upd
  split
  · exact hx
  · exact hL r (by omega)
