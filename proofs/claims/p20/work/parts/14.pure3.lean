/-! arrays that agree below n; the loops see no more -/
def ag (n : Nat) (f g : Nat → Int32) : Prop := ∀ j, j < n → f j = g j
theorem ag.rf {n : Nat} {f : Nat → Int32} : ag n f f := fun _ _ => rfl
theorem ag.sm {n : Nat} {f g : Nat → Int32} (h : ag n f g) : ag n g f := fun j hj => (h j hj).symm
theorem ag.tr {n : Nat} {f g k : Nat → Int32} (h : ag n f g) (h2 : ag n g k) : ag n f k := fun j hj => (h j hj).trans (h2 j hj)
theorem ag.up {n : Nat} {f g : Nat → Int32} (h : ag n f g) (k : Nat) (x : Int32) : ag n (upd f k x) (upd g k x) := fun j hj => by
  unfold upd
  split
  · rfl
  · exact h j hj
def okR (tc rc : Nat) (F T : Nat → Nat) : Prop := ∀ r, r < rc → F r < tc ∧ T r < tc
theorem fillF_in (v : Int32) : ∀ n i E j, i ≤ j → j < i + n → fillF v n i E j = v
  | 0, i, E, j, h1, h2 => by omega
  | n + 1, i, E, j, h1, h2 => by
    show fillF v n (i + 1) (upd E i v) j = v
    by_cases h : j = i
    · subst h
      have ho : ∀ n k E, j < k → fillF v n k E j = E j := by
        intro n
        induction n with
        | zero => intro k E _; rfl
        | succ n ih =>
          intro k E hk
          show fillF v n (k + 1) (upd E k v) j = E j
          rw [ih (k + 1) _ (by omega)]
          exact pk_un (by omega)
      rw [ho n (j + 1) _ (by omega)]
      exact pk_us
    · exact fillF_in v n (i + 1) _ j (by omega) (by omega)
theorem fillF_ag {tc : Nat} (v : Int32) (E E' : Nat → Int32) : ag tc (fillF v tc 0 E) (fillF v tc 0 E') := fun j hj => by
  rw [fillF_in v tc 0 E j (by omega) (by omega), fillF_in v tc 0 E' j (by omega) (by omega)]
theorem copyF_out (N : Nat → Int32) : ∀ n k R j, j < k → copyF N n k R j = R j
  | 0, _, _, _, _ => rfl
  | n + 1, k, R, j, h => by
    show copyF N n (k + 1) (upd R k (N k)) j = R j
    rw [copyF_out N n (k + 1) _ j (by omega)]
    exact pk_un (by omega)
theorem copyF_in (N : Nat → Int32) : ∀ n i R j, i ≤ j → j < i + n → copyF N n i R j = N j
  | 0, i, R, j, h1, h2 => by omega
  | n + 1, i, R, j, h1, h2 => by
    show copyF N n (i + 1) (upd R i (N i)) j = N j
    by_cases h : j = i
    · subst h
      rw [copyF_out N n (j + 1) _ j (by omega)]
      exact pk_us
    · exact copyF_in N n (i + 1) _ j (by omega) (by omega)
theorem goW_ag {tc rc : Nat} {F T : Nat → Nat} (L : Nat → Int32) (Z : Nat → Bool) (hF : okR tc rc F T) {R R' : Nat → Int32} (hR : ag tc R R') : ∀ n r N N', r + n = rc → ag tc N N' → ag tc (goW F T L Z R n r N) (goW F T L Z R' n r N')
  | 0, _, _, _, _, h => h
  | n + 1, r, N, N', hm, h => by
    have hf := hF r (by omega)
    show ag tc (goW F T L Z R n (r + 1) _) (goW F T L Z R' n (r + 1) _)
    refine goW_ag L Z hF hR n (r + 1) _ _ (by omega) ?_
    rw [← hR (F r) hf.1, ← h (T r) hf.2]
    split
    · exact h.up _ _
    · exact h
theorem oneR_ag {tc rc : Nat} {F T : Nat → Nat} (L : Nat → Int32) (Z : Nat → Bool) (hF : okR tc rc F T) {q q' : (Nat → Int32) × (Nat → Int32)} (h : ag tc q.1 q'.1) : ag tc (oneR F T L Z tc rc q).1 (oneR F T L Z tc rc q').1 := fun j hj => by
  show copyF _ tc 0 q.1 j = copyF _ tc 0 q'.1 j
  rw [copyF_in _ tc 0 _ j (by omega) (by omega), copyF_in _ tc 0 _ j (by omega) (by omega)]
  exact goW_ag L Z hF h rc 0 _ _ (by omega) (fillF_ag _ _ _) j hj
theorem ringL_ag {tc rc st : Nat} {F T : Nat → Nat} (L : Nat → Int32) (Z : Nat → Bool) (hF : okR tc rc F T) (hs : st < tc) : ∀ n k q q', ag tc q.1 q'.1 → (ringL F T L Z tc rc st n k q).1 = (ringL F T L Z tc rc st n k q').1
  | 0, _, _, _, _ => rfl
  | n + 1, k, q, q', h => by
    have h1 := oneR_ag L Z hF h
    show (if _ then _ else _ : Nat × (Nat → Int32) × (Nat → Int32)).1 = (if _ then _ else _ : Nat × (Nat → Int32) × (Nat → Int32)).1
    rw [← h1 st hs]
    split
    · rfl
    · exact ringL_ag L Z hF hs n (k + 1) _ _ h1
theorem ringS_any {tc rc st : Nat} {F T : Nat → Nat} (L : Nat → Int32) (Z : Nat → Bool) (hF : okR tc rc F T) (hs : st < tc) (q q' : (Nat → Int32) × (Nat → Int32)) : (ringS F T L Z tc rc st q).1 = (ringS F T L Z tc rc st q').1 :=
  ringL_ag L Z hF hs tc 1 _ _ ((fillF_ag _ _ _).up _ _)
theorem ringA_any {tc rc : Nat} {F T : Nat → Nat} (L : Nat → Int32) (Z : Nat → Bool) (hF : okR tc rc F T) : ∀ n st few q q', st + n = tc → (ringA F T L Z tc rc n st few q).1 = (ringA F T L Z tc rc n st few q').1
  | 0, _, _, _, _, _ => rfl
  | n + 1, st, few, q, q', hm => by
    show (ringA F T L Z tc rc n (st + 1) _ _).1 = (ringA F T L Z tc rc n (st + 1) _ _).1
    rw [ringS_any L Z hF (by omega : st < tc) q q']
    exact ringA_any L Z hF n (st + 1) _ _ _ (by omega)
theorem passF_ag {tc rc : Nat} {F T : Nat → Nat} (L : Nat → Int32) (A : Nat → Bool) (hF : okR tc rc F T) : ∀ n r E E' ch, r + n = rc → ag tc E E' → (passF F T L A n r E ch).2 = (passF F T L A n r E' ch).2 ∧ ag tc (passF F T L A n r E ch).1 (passF F T L A n r E' ch).1
  | 0, _, _, _, _, _, h => ⟨rfl, h⟩
  | n + 1, r, E, E', ch, hm, h => by
    have hf := hF r (by omega)
    unfold passF
    rw [← h (F r) hf.1, ← h (T r) hf.2]
    split
    · exact passF_ag L A hF n (r + 1) _ _ true (by omega) (h.up _ _)
    · exact passF_ag L A hF n (r + 1) _ _ ch (by omega) h
theorem rndF_ag {tc rc : Nat} {F T : Nat → Nat} (L : Nat → Int32) (A : Nat → Bool) (hF : okR tc rc F T) : ∀ n k E E', ag tc E E' → (rndF F T L A rc n k E).2 = (rndF F T L A rc n k E').2 ∧ ag tc (rndF F T L A rc n k E).1 (rndF F T L A rc n k E').1
  | 0, _, _, _, h => ⟨rfl, h⟩
  | n + 1, k, E, E', h => by
    obtain ⟨h1, h2⟩ := passF_ag L A hF rc 0 E E' false (by omega) h
    unfold rndF
    rw [← h1]
    split
    · exact rndF_ag L A hF n (k + 1) _ _ h2
    · exact ⟨rfl, h2⟩
theorem findE_any {tc rc : Nat} {F T : Nat → Nat} (L : Nat → Int32) (A : Nat → Bool) (hF : okR tc rc F T) (E E' : Nat → Int32) : (findE F T L A tc rc E).2 = (findE F T L A tc rc E').2 ∧ ag tc (findE F T L A tc rc E).1 (findE F T L A tc rc E').1 :=
  rndF_ag L A hF (tc + 1) 0 _ _ (fillF_ag 0 E E')
theorem lastF_ag {tc : Nat} {E E' : Nat → Int32} (h : ag tc E E') : ∀ n i mx, i + n = tc → lastF E n i mx = lastF E' n i mx
  | 0, _, _, _ => rfl
  | n + 1, i, mx, hm => by
    show lastF E n (i + 1) _ = lastF E' n (i + 1) _
    rw [h i (by omega)]
    exact lastF_ag h n (i + 1) _ (by omega)
/-! indices and lengths as they are given -/
def ix (x : Int32) : Nat := x.toNatClampNeg
theorem ix_nI {k : Nat} (h : k < 2147483648) : ix (nI k) = k := nI_clamp h
def inB (x : Int32) (n : Nat) : Bool := !(decide (x < 0)) && decide (x < nI n)
def lenB (w : Int32) : Bool := !(decide (w < -99)) && !(decide (99 < w))
def endB (w : Int32) : Bool := !(decide (w < 0)) && !(decide (9999 < w))
theorem inB_of {x : Int32} {n : Nat} (h : inB x n = true) (hn : n < 2147483648) : ∃ k, k < n ∧ x = nI k := by
  simp only [inB, Bool.and_eq_true, Bool.not_eq_true', decide_eq_false_iff_not, decide_eq_true_eq] at h
  obtain ⟨j, hj, rfl⟩ := nI_of h.1
  exact ⟨j, (nI_ltI hj hn).mp h.2, rfl⟩
theorem inB_nI {k n : Nat} (hk : k < 2147483648) (hn : n < 2147483648) : inB (nI k) n = decide (k < n) := by
  have h1 : ¬ nI k < 0 := nI_pos hk
  have h2 : (nI k < nI n) = (k < n) := propext (nI_ltI hk hn)
  simp [inB, h1, h2]
def kTurn (tc : Nat) : Nat := if tc < 12 then 0 else 3
def kTie (tc rc : Nat) (p0 p1 p2 : Int32) : Nat := if inB p0 tc = true then (if inB p1 tc = true then (if p0 = p1 then 2 else if lenB p2 = true then (if rc < 30 then 0 else 3) else 2) else 1) else 1
def kCut (rc : Nat) (p0 p1 : Int32) : Nat := if inB p0 rc = true then (if lenB p1 = true then 0 else 2) else 1
def kIn (n : Nat) (p0 : Int32) : Nat := if inB p0 n = true then 0 else 1
def kIn2 (n n2 : Nat) (p0 p1 : Int32) : Nat := if inB p0 n = true then (if inB p1 n2 = true then 0 else 1) else 1
def kLate (tc : Nat) (ro : Int32) (E : Nat → Int32) (p0 p1 : Int32) : Nat := if inB p0 tc = true then (if endB p1 = true then (if ro = -1 then 3 else if p1 < lastF E tc 0 0 then 3 else 0) else 2) else 1
def kMost (tc : Nat) (ro : Int32) (p0 p1 : Int32) : Nat := if inB p0 tc = true then (if inB p1 tc = true then (if ro = -1 then 3 else 0) else 1) else 1
def kRoom (rc : Nat) (Z : Nat → Bool) (ro : Int32) (p0 : Int32) : Nat := if inB p0 rc = true then (if Z (ix p0) = true then (if ro = -1 then 3 else 0) else 3) else 1
def kWould (tc : Nat) (p0 p1 p2 : Int32) : Nat := if inB p0 tc = true then (if inB p1 tc = true then (if p0 = p1 then 2 else if lenB p2 = true then 0 else 2) else 1) else 1
def kAt (tc : Nat) (ro : Int32) (p0 : Int32) : Nat := if inB p0 tc = true then (if ro = -1 then 3 else 0) else 1
/-! what the calls answer -/
def toldF (ro : Int32) (E : Nat → Int32) (F T : Nat → Nat) (L : Nat → Int32) (Z : Nat → Bool) (r w : Nat) : Int32 := if w = 0 then nI (F r) else if w = 1 then nI (T r) else if w = 2 then L r else if w = 3 then bI (Z r) else bI (tightB ro E F T L Z r)
def endsF (G : Nat → Nat) (Z : Nat → Bool) (rc v : Nat) : Nat := countF (fun r => Z r && decide (G r = v)) rc 0 0
def aboutF (ro : Int32) (E : Nat → Int32) (F T : Nat → Nat) (Z : Nat → Bool) (rc v w : Nat) : Int32 := if w = 0 then nI (endsF F Z rc v) else if w = 1 then nI (endsF T Z rc v) else if ro = -1 then -1 else E v
def ringC (F T : Nat → Nat) (L : Nat → Int32) (Z : Nat → Bool) (tc rc : Nat) : Nat := (ringA F T L Z tc rc tc 0 0 (fun _ => 0, fun _ => 0)).1
def cntR (ro : Int32) (E : Nat → Int32) (F T : Nat → Nat) (L : Nat → Int32) (Z : Nat → Bool) (tc rc w : Nat) : Int32 :=
  if w = 0 then nI tc else if w = 1 then nI rc else if w = 2 then nI (countF Z rc 0 0) else if w = 3 then ro else if w = 4 then (if ro = -1 then -1 else lastF E tc 0 0) else if w = 5 then nI (countF (tightB ro E F T L Z) rc 0 0) else if ro = -1 then nI (ringC F T L Z tc rc) else 0
def lateF (B : Nat → Int32) (w : Nat) (en : Int32) : Nat → Nat → Int32 → Int32
  | 0, _, la => la
  | n + 1, i, la => lateF B w en n (i + 1) (if B (i * 12 + w) = 99999 then la else mnI la (en + B (i * 12 + w)))
def atF (E : Nat → Int32) (tc pl : Nat) : Nat → Nat → Int32
  | 0, _ => -1
  | n + 1, v => if aheadF E v tc 0 0 = pl then nI v else atF E tc pl n (v + 1)
/-- best, least, trial -/
def advL (F T : Nat → Nat) (L : Nat → Int32) (Z : Nat → Bool) (tc rc : Nat) : Nat → Nat → Int32 → Int32 → (Nat → Int32) → Int32
  | 0, _, best, _, _ => best
  | n + 1, r, best, least, X =>
    if Z r = true then
      (if (findE F T L (actC Z (nI r)) tc rc X).2 = -1 then advL F T L Z tc rc n (r + 1) best least (findE F T L (actC Z (nI r)) tc rc X).1
       else if lastF (findE F T L (actC Z (nI r)) tc rc X).1 tc 0 0 < least then advL F T L Z tc rc n (r + 1) (nI r) (lastF (findE F T L (actC Z (nI r)) tc rc X).1 tc 0 0) (findE F T L (actC Z (nI r)) tc rc X).1
       else advL F T L Z tc rc n (r + 1) best least (findE F T L (actC Z (nI r)) tc rc X).1)
    else advL F T L Z tc rc n (r + 1) best least X
theorem advL_any {tc rc : Nat} {F T : Nat → Nat} (L : Nat → Int32) (Z : Nat → Bool) (hF : okR tc rc F T) : ∀ n r best least X X', advL F T L Z tc rc n r best least X = advL F T L Z tc rc n r best least X'
  | 0, _, _, _, _, _ => rfl
  | n + 1, r, best, least, X, X' => by
    obtain ⟨h1, h2⟩ := findE_any L (actC Z (nI r)) hF X X'
    have h3 := lastF_ag h2 tc 0 0 (by omega)
    unfold advL
    rw [← h1, ← h3]
    split
    · split
      · exact advL_any L Z hF n (r + 1) _ _ _ _
      · split
        · exact advL_any L Z hF n (r + 1) _ _ _ _
        · exact advL_any L Z hF n (r + 1) _ _ _ _
    · exact advL_any L Z hF n (r + 1) _ _ _ _
def advC (ro : Int32) (E : Nat → Int32) (F T : Nat → Nat) (L : Nat → Int32) (Z : Nat → Bool) (tc rc : Nat) : Int32 := advL F T L Z tc rc rc 0 (-1) (if ro = -1 then 99999 else lastF E tc 0 0) (fun _ => 0)
/-! the checksum -/
def dgS (f : Nat → Int32) : Nat → Nat → Int64 → Int64
  | 0, _, d => d
  | n + 1, w, d => dgS f n (w + 1) (d * 31 + (f w).toInt64)
def dgD (f : Nat → Nat → Int32) (m : Nat) : Nat → Nat → Int64 → Int64
  | 0, _, d => d
  | n + 1, v, d => dgD f m n (v + 1) (dgS (f v) m 0 d)
def dgB (B : Nat → Int32) (tc : Nat) (d : Int64) : Int64 := dgD (fun a b => B (a * 12 + b)) tc tc 0 d
def dgA (ro : Int32) (E : Nat → Int32) (F T : Nat → Nat) (L : Nat → Int32) (Z : Nat → Bool) (tc rc : Nat) : Int64 :=
  dgD (toldF ro E F T L Z) 5 rc 0 (dgD (aboutF ro E F T Z rc) 3 tc 0 (dgS (cntR ro E F T L Z tc rc) 7 0 1553))
def dgF (ro : Int32) (E B : Nat → Int32) (F T : Nat → Nat) (L : Nat → Int32) (Z : Nat → Bool) (tc rc : Nat) : Int64 := if ro = -1 then dgA ro E F T L Z tc rc else dgB B tc (dgA ro E F T L Z tc rc)
