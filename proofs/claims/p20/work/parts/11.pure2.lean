def actC (Z : Nat → Bool) (lo : Int32) : Nat → Bool := fun r => Z r && !(decide (nI r = lo))
def passF (F T : Nat → Nat) (L : Nat → Int32) (A : Nat → Bool) : Nat → Nat → (Nat → Int32) → Bool → (Nat → Int32) × Bool
  | 0, _, E, ch => (E, ch)
  | n + 1, r, E, ch => if A r = true ∧ E (F r) < E (T r) - L r then passF F T L A n (r + 1) (upd E (F r) (E (T r) - L r)) true else passF F T L A n (r + 1) E ch
def fillF (v : Int32) : Nat → Nat → (Nat → Int32) → Nat → Int32
  | 0, _, E => E
  | n + 1, i, E => fillF v n (i + 1) (upd E i v)
def rndF (F T : Nat → Nat) (L : Nat → Int32) (A : Nat → Bool) (rc : Nat) : Nat → Nat → (Nat → Int32) → (Nat → Int32) × Int32
  | 0, _, E => (E, -1)
  | n + 1, k, E => if (passF F T L A rc 0 E false).2 = true then rndF F T L A rc n (k + 1) (passF F T L A rc 0 E false).1 else ((passF F T L A rc 0 E false).1, nI (k + 1))
def findE (F T : Nat → Nat) (L : Nat → Int32) (A : Nat → Bool) (tc rc : Nat) (E : Nat → Int32) : (Nat → Int32) × Int32 := rndF F T L A rc (tc + 1) 0 (fillF 0 tc 0 E)
def shortB (B : Nat → Int32) (a b : Nat) (w : Int32) : Nat → Int32 := upd B (a * 12 + b) (mnI (B (a * 12 + b)) w)
def sbR (a : Nat) : Nat → Nat → (Nat → Int32) → Nat → Int32
  | 0, _, B => B
  | n + 1, b, B => sbR a n (b + 1) (upd B (a * 12 + b) (if a = b then 0 else 99999))
def sbA (tc : Nat) : Nat → Nat → (Nat → Int32) → Nat → Int32
  | 0, _, B => B
  | n + 1, a, B => sbA tc n (a + 1) (sbR a tc 0 B)
def sbW (F T : Nat → Nat) (L : Nat → Int32) (Z : Nat → Bool) : Nat → Nat → (Nat → Int32) → Nat → Int32
  | 0, _, B => B
  | n + 1, r, B => sbW F T L Z n (r + 1) (if Z r = true then shortB B (F r) (T r) (L r) else B)
def startF (F T : Nat → Nat) (L : Nat → Int32) (Z : Nat → Bool) (tc rc : Nat) (B : Nat → Int32) : Nat → Int32 := sbW F T L Z rc 0 (sbA tc tc 0 B)
def goF (a mid : Nat) (first : Int32) : Nat → Nat → (Nat → Int32) → Nat → Int32
  | 0, _, B => B
  | n + 1, b, B => goF a mid first n (b + 1) (if B (mid * 12 + b) = 99999 then B else shortB B a b (first + B (mid * 12 + b)))
def fbA (mid tc : Nat) : Nat → Nat → (Nat → Int32) → Nat → Int32
  | 0, _, B => B
  | n + 1, a, B => fbA mid tc n (a + 1) (if B (a * 12 + mid) = 99999 then B else goF a mid (B (a * 12 + mid)) tc 0 B)
def fbM (tc : Nat) : Nat → Nat → (Nat → Int32) → Nat → Int32
  | 0, _, B => B
  | n + 1, mid, B => fbM tc n (mid + 1) (fbA mid tc tc 0 B)
def findB (F T : Nat → Nat) (L : Nat → Int32) (Z : Nat → Bool) (tc rc : Nat) (B : Nat → Int32) : Nat → Int32 := fbM tc tc 0 (startF F T L Z tc rc B)
def sRo (F T : Nat → Nat) (L : Nat → Int32) (Z : Nat → Bool) (tc rc : Nat) (E : Nat → Int32) : Int32 := (findE F T L (actC Z (-1)) tc rc E).2
def sE (F T : Nat → Nat) (L : Nat → Int32) (Z : Nat → Bool) (tc rc : Nat) (E : Nat → Int32) : Nat → Int32 := (findE F T L (actC Z (-1)) tc rc E).1
def sB (F T : Nat → Nat) (L : Nat → Int32) (Z : Nat → Bool) (tc rc : Nat) (E B : Nat → Int32) : Nat → Int32 := if sRo F T L Z tc rc E = -1 then B else findB F T L Z tc rc B
/-- rounds, earliest, bound -/
abbrev xS3 : Type := Int32 × (Nat → Int32) × (Nat → Int32)
def settF (F T : Nat → Nat) (L : Nat → Int32) (Z : Nat → Bool) (tc rc : Nat) (E B : Nat → Int32) : xS3 := (sRo F T L Z tc rc E, sE F T L Z tc rc E, sB F T L Z tc rc E B)
/-- length, rounds, earliest, bound -/
abbrev xS4 : Type := (Nat → Int32) × xS3
def tOneD (F T : Nat → Nat) (r : Nat) (q : xS4) : Int32 := q.1 r - leastF q.2.2.2 (F r) (T r)
def tOneS (F T : Nat → Nat) (Z : Nat → Bool) (tc rc r : Nat) (q : xS4) : xS4 :=
  if 0 < tOneD F T r q then (upd q.1 r (q.1 r - tOneD F T r q), settF F T (upd q.1 r (q.1 r - tOneD F T r q)) Z tc rc q.2.2.1 q.2.2.2) else q
def tAll (F T : Nat → Nat) (Z : Nat → Bool) (tc rc : Nat) : Nat → Nat → Int32 → xS4 → Int32 × xS4
  | 0, _, sm, q => (sm, q)
  | n + 1, r, sm, q => if Z r = true then tAll F T Z tc rc n (r + 1) (sm + tOneD F T r q) (tOneS F T Z tc rc r q) else tAll F T Z tc rc n (r + 1) sm q
def goW (F T : Nat → Nat) (L : Nat → Int32) (Z : Nat → Bool) (R : Nat → Int32) : Nat → Nat → (Nat → Int32) → Nat → Int32
  | 0, _, N => N
  | n + 1, r, N => goW F T L Z R n (r + 1) (if Z r = true ∧ ¬ R (F r) = 99999 then upd N (T r) (mnI (N (T r)) (R (F r) + L r)) else N)
def copyF (N : Nat → Int32) : Nat → Nat → (Nat → Int32) → Nat → Int32
  | 0, _, R => R
  | n + 1, i, R => copyF N n (i + 1) (upd R i (N i))
/-- reach, nextReach behind one rope more -/
def oneR (F T : Nat → Nat) (L : Nat → Int32) (Z : Nat → Bool) (tc rc : Nat) (q : (Nat → Int32) × (Nat → Int32)) : (Nat → Int32) × (Nat → Int32) :=
  (copyF (goW F T L Z q.1 rc 0 (fillF 99999 tc 0 q.2)) tc 0 q.1, goW F T L Z q.1 rc 0 (fillF 99999 tc 0 q.2))
/-- how many ropes, or 0; reach, nextReach -/
def ringL (F T : Nat → Nat) (L : Nat → Int32) (Z : Nat → Bool) (tc rc st : Nat) : Nat → Nat → (Nat → Int32) × (Nat → Int32) → Nat × (Nat → Int32) × (Nat → Int32)
  | 0, _, q => (0, q)
  | n + 1, k, q => if (oneR F T L Z tc rc q).1 st < 0 then (k, oneR F T L Z tc rc q) else ringL F T L Z tc rc st n (k + 1) (oneR F T L Z tc rc q)
def ringS (F T : Nat → Nat) (L : Nat → Int32) (Z : Nat → Bool) (tc rc st : Nat) (q : (Nat → Int32) × (Nat → Int32)) : Nat × (Nat → Int32) × (Nat → Int32) :=
  ringL F T L Z tc rc st tc 1 (upd (fillF 99999 tc 0 q.1) st 0, q.2)
def ringA (F T : Nat → Nat) (L : Nat → Int32) (Z : Nat → Bool) (tc rc : Nat) : Nat → Nat → Nat → (Nat → Int32) × (Nat → Int32) → Nat × (Nat → Int32) × (Nat → Int32)
  | 0, _, few, q => (few, q)
  | n + 1, st, few, q => ringA F T L Z tc rc n (st + 1) (if ¬ (ringS F T L Z tc rc st q).1 = 0 ∧ (few = 0 ∨ (ringS F T L Z tc rc st q).1 < few) then (ringS F T L Z tc rc st q).1 else few) (ringS F T L Z tc rc st q).2
def tightA (F T : Nat → Nat) (Z : Nat → Bool) (tc rc : Nat) (q : xS4) : Int32 × xS4 := if q.2.1 = -1 then (0, q) else tAll F T Z tc rc rc 0 0 q
theorem ringL_le (F T : Nat → Nat) (L : Nat → Int32) (Z : Nat → Bool) (tc rc st : Nat) : ∀ n k q, (ringL F T L Z tc rc st n k q).1 ≤ k + n
  | 0, _, _ => Nat.zero_le _
  | n + 1, k, q => by
    show (if _ then _ else _ : Nat × (Nat → Int32) × (Nat → Int32)).1 ≤ _
    split
    · show k ≤ _
      omega
    · have := ringL_le F T L Z tc rc st n (k + 1) (oneR F T L Z tc rc q)
      omega
theorem ringS_le (F T : Nat → Nat) (L : Nat → Int32) (Z : Nat → Bool) (tc rc st : Nat) (q : (Nat → Int32) × (Nat → Int32)) : (ringS F T L Z tc rc st q).1 ≤ tc + 1 := by
  have := ringL_le F T L Z tc rc st tc 1 (upd (fillF 99999 tc 0 q.1) st 0, q.2)
  unfold ringS
  omega
