/-! what stands between two calls, of both mills -/
def xInv (tc rc : Nat) (F T : Nat → Nat) (L : Nat → Int32) (Z : Nat → Bool) (ro : Int32) (E B : Nat → Int32) : Prop :=
  tc ≤ 12 ∧ rc ≤ 30 ∧ okR tc rc F T ∧ (∀ r, r < rc → -99 ≤ (L r).toInt ∧ (L r).toInt ≤ 99) ∧ ro = earM F T L Z tc rc 12 ∧ ag tc E (earM F T L Z tc rc) ∧ (¬ ro = -1 → ∀ a b, a < tc → b < tc → B (a * 12 + b) = wayM F T L Z tc rc a b)
theorem lenB_of {x : Int32} (h : lenB x = true) : -99 ≤ x.toInt ∧ x.toInt ≤ 99 := by
  simp only [lenB, Bool.and_eq_true, Bool.not_eq_true', decide_eq_false_iff_not, Int32.lt_iff_toInt_lt] at h
  have e1 : (-99 : Int32).toInt = -99 := by decide
  have e2 : (99 : Int32).toInt = 99 := by decide
  rw [e1, e2] at h
  omega
theorem upd_len {rc : Nat} {L : Nat → Int32} (hL : ∀ r, r < rc → -99 ≤ (L r).toInt ∧ (L r).toInt ≤ 99) {x : Int32} (hx : -99 ≤ x.toInt ∧ x.toInt ≤ 99) (k : Nat) : ∀ r, r < rc → -99 ≤ (upd L k x r).toInt ∧ (upd L k x r).toInt ≤ 99 := fun r hr => by
  unfold upd
  split
  · exact hx
  · exact hL r hr
theorem upd_len1 {rc : Nat} {L : Nat → Int32} (hL : ∀ r, r < rc → -99 ≤ (L r).toInt ∧ (L r).toInt ≤ 99) {x : Int32} (hx : -99 ≤ x.toInt ∧ x.toInt ≤ 99) : ∀ r, r < rc + 1 → -99 ≤ (upd L rc x r).toInt ∧ (upd L rc x r).toInt ≤ 99 := fun r hr => by
  unfold upd
  split
  · exact hx
  · exact hL r (by omega)
theorem kTurn_0 {tc : Nat} (h : kTurn tc = 0) : tc < 12 := by
  unfold kTurn at h
  split at h <;> omega
theorem kTie_0 {tc rc : Nat} {p0 p1 p2 : Int32} (h : kTie tc rc p0 p1 p2 = 0) : inB p0 tc = true ∧ inB p1 tc = true ∧ lenB p2 = true ∧ rc < 30 := by
  unfold kTie at h
  split at h
  · rename_i h0
    split at h
    · rename_i h1
      split at h
      · omega
      · split at h
        · rename_i h2
          split at h
          · rename_i h3
            exact ⟨h0, h1, h2, h3⟩
          · omega
        · omega
    · omega
  · omega
theorem kCut_0 {rc : Nat} {p0 p1 : Int32} (h : kCut rc p0 p1 = 0) : inB p0 rc = true ∧ lenB p1 = true := by
  unfold kCut at h
  split at h
  · rename_i h0
    split at h
    · rename_i h1
      exact ⟨h0, h1⟩
    · omega
  · omega
theorem kIn_0 {n : Nat} {p0 : Int32} (h : kIn n p0 = 0) : inB p0 n = true := by
  unfold kIn at h
  split at h
  · assumption
  · omega
theorem kIn2_0 {n n2 : Nat} {p0 p1 : Int32} (h : kIn2 n n2 p0 p1 = 0) : inB p0 n = true ∧ inB p1 n2 = true := by
  unfold kIn2 at h
  split at h
  · rename_i h0
    split at h
    · rename_i h1
      exact ⟨h0, h1⟩
    · omega
  · omega
theorem kLate_0 {tc : Nat} {ro : Int32} {E : Nat → Int32} {p0 p1 : Int32} (h : kLate tc ro E p0 p1 = 0) : inB p0 tc = true ∧ endB p1 = true ∧ ¬ ro = -1 := by
  unfold kLate at h
  split at h
  · rename_i h0
    split at h
    · rename_i h1
      split at h
      · omega
      · rename_i h2
        exact ⟨h0, h1, h2⟩
    · omega
  · omega
theorem kMost_0 {tc : Nat} {ro p0 p1 : Int32} (h : kMost tc ro p0 p1 = 0) : inB p0 tc = true ∧ inB p1 tc = true ∧ ¬ ro = -1 := by
  unfold kMost at h
  split at h
  · rename_i h0
    split at h
    · rename_i h1
      split at h
      · omega
      · rename_i h2
        exact ⟨h0, h1, h2⟩
    · omega
  · omega
theorem kRoom_0 {rc : Nat} {Z : Nat → Bool} {ro p0 : Int32} (h : kRoom rc Z ro p0 = 0) : inB p0 rc = true ∧ ¬ ro = -1 := by
  unfold kRoom at h
  split at h
  · rename_i h0
    split at h
    · split at h
      · omega
      · rename_i h2
        exact ⟨h0, h2⟩
    · omega
  · omega
theorem kWould_0 {tc : Nat} {p0 p1 p2 : Int32} (h : kWould tc p0 p1 p2 = 0) : inB p0 tc = true ∧ inB p1 tc = true ∧ lenB p2 = true := by
  unfold kWould at h
  split at h
  · rename_i h0
    split at h
    · rename_i h1
      split at h
      · omega
      · split at h
        · rename_i h2
          exact ⟨h0, h1, h2⟩
        · omega
    · omega
  · omega
theorem ix_lt {p : Int32} {n : Nat} (h : inB p n = true) (hn : n < 2147483648) : ix p < n := by
  obtain ⟨k, hk, e⟩ := inB_of h hn
  rw [e, ix_nI (by omega)]
  exact hk
theorem c1_ne {k : Nat} (h : ¬ k = 0) : ¬ c1 k = 0 := by unfold c1; split <;> omega
theorem c2_ne {k : Nat} (h : ¬ k = 0) : ¬ c2 k = 0 := by unfold c2; split <;> omega
theorem k_ne {k : Nat} (h : ¬ k = 0) (h2 : k ≤ 3) : ¬ nI k = 0 := fun z => h ((nI_eq (a := k) (b := 0) (by omega) (by omega)).mp z)
theorem c1_le {k : Nat} (h : k ≤ 3) : c1 k ≤ 3 := by unfold c1; split <;> omega
theorem c2_le {k : Nat} (h : k ≤ 3) : c2 k ≤ 3 := by unfold c2; split <;> omega
section XLC
variable {p : Program} {l : Launch} {e : Env} {R : Room} {s : State} {m : MethodId} {args : Array Value} {below : List Frame} {meth : Method} {c : Code} {H : Heap} {locs : List Loc} {cells slots : Nat} {Q : State → Prop}
variable {cc : ByteArray} {pc : Nat} {ls : Array Slot} {rest : List Value}
theorem x_lcmp (hexec : p.tables.exec = Jvm.exec) (hb : c.code = cc) {x y : Int64} {v : Int32} (hv : (if x > y then 1 else if x == y then 0 else -1 : Int32) = v) (hdg : decode cc pc = .ok (.lcmp, 1))
    (k : W p l e R s m args below meth c H locs cells slots Q (F0 m (pc + 1) ls (.int v :: rest))) : W p l e R s m args below meth c H locs cells slots Q (F0 m pc ls (.long y :: .long x :: rest)) := by
  subst hv
  intro T hT X
  obtain ⟨t, a, b⟩ := k T hT X
  refine ⟨t, ?_, b⟩
  jvm_step X.here [X.here.top, hexec, hb, hdg, Op.lcmp.sem]
  by_cases h : y < x
  · rw [if_pos h]
    rw [if_pos (show x > y from h)] at a
    exact a
  · rw [if_neg h]
    rw [if_neg (show ¬ x > y from h)] at a
    by_cases h2 : x = y
    · rw [if_pos h2]
      rw [if_pos (beq_iff_eq.mpr h2)] at a
      exact a
    · rw [if_neg h2]
      rw [if_neg (fun z => h2 (beq_iff_eq.mp z))] at a
      exact a
theorem lcmp_self (x : Int64) : (if x > x then 1 else if x == x then 0 else -1 : Int32) = 0 := by
  rw [if_neg (Int64.lt_irrefl), if_pos (beq_self_eq_true x)]
end XLC
