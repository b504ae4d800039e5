/-! the table is closed: going on over any turn is in it -/
def stp (M : Nat → Nat → Int32) (v i j : Nat) : Int32 := if ¬ M i v = 99999 ∧ ¬ M v j = 99999 then mnI (M i j) (M i v + M v j) else M i j
theorem stp_col {M : Nat → Nat → Int32} {v : Nat} (h0 : M v v = 0) (i : Nat) : stp M v i v = M i v := by
  unfold stp
  split
  · rw [h0]
    exact mn_self _
  · rfl
theorem stp_row {M : Nat → Nat → Int32} {v : Nat} (h0 : M v v = 0) (j : Nat) : stp M v v j = M v j := by
  unfold stp
  split
  · rw [h0, Int32.zero_add]
    have := mn_self (M v j)
    rw [Int32.add_zero] at this
    exact this
  · rfl
theorem gB_eq {v a : Nat} : ∀ (n b : Nat) (M : Nat → Nat → Int32) (i j : Nat), M v v = 0 → gB v a n b M i j = if i = a ∧ b ≤ j ∧ j < b + n then stp M v a j else M i j
  | 0, b, M, i, j, _ => by rw [if_neg (by omega)]; rfl
  | n + 1, b, M, i, j, h0 => by
    have e1 : ∀ i j, (if ¬ M a v = 99999 ∧ ¬ M v b = 99999 then updG M a b (mnI (M a b) (M a v + M v b)) else M) i j = if i = a ∧ j = b then stp M v a b else M i j := fun i j => by
      unfold stp
      by_cases hc : ¬ M a v = 99999 ∧ ¬ M v b = 99999
      · rw [if_pos hc, if_pos hc, updG_eq]
      · rw [if_neg hc, if_neg hc]
        split
        · rename_i he
          rw [he.1, he.2]
        · rfl
    unfold gB
    generalize hM : (if ¬ M a v = 99999 ∧ ¬ M v b = 99999 then updG M a b (mnI (M a b) (M a v + M v b)) else M) = M1 at e1 ⊢
    have c1 : M1 a v = M a v := by
      rw [e1]
      split
      · rename_i he
        rw [← he.2]
        exact stp_col h0 a
      · rfl
    have c2 : ∀ j, M1 v j = M v j := fun j => by
      rw [e1]
      split
      · rename_i he
        rw [← he.1, he.2]
        exact stp_row h0 b
      · rfl
    rw [gB_eq n (b + 1) M1 i j (by rw [c2]; exact h0)]
    by_cases h : i = a ∧ b + 1 ≤ j ∧ j < b + 1 + n
    · rw [if_pos h, if_pos (show i = a ∧ b ≤ j ∧ j < b + (n + 1) by omega)]
      unfold stp
      rw [c1, c2, e1, if_neg (show ¬ (a = a ∧ j = b) by omega)]
    · rw [if_neg h, e1]
      by_cases h2 : i = a ∧ j = b
      · rw [if_pos h2, if_pos (show i = a ∧ b ≤ j ∧ j < b + (n + 1) by omega), h2.2]
      · rw [if_neg h2, if_neg (show ¬ (i = a ∧ b ≤ j ∧ j < b + (n + 1)) by omega)]
theorem gA_eq {v tc : Nat} (hv : v < tc) : ∀ (n a : Nat) (M : Nat → Nat → Int32) (i j : Nat), M v v = 0 → gA v tc n a M i j = if a ≤ i ∧ i < a + n ∧ j < tc then stp M v i j else M i j
  | 0, a, M, i, j, _ => by rw [if_neg (by omega)]; rfl
  | n + 1, a, M, i, j, h0 => by
    unfold gA
    have e1 : ∀ i j, gB v a tc 0 M i j = if i = a ∧ j < tc then stp M v a j else M i j := fun i j => by
      rw [gB_eq tc 0 M i j h0]
      by_cases h : i = a ∧ j < tc
      · rw [if_pos h, if_pos (by omega)]
      · rw [if_neg h, if_neg (by omega)]
    generalize gB v a tc 0 M = M1 at e1 ⊢
    have c2 : ∀ j, M1 v j = M v j := fun j => by
      rw [e1]
      split
      · rename_i he
        rw [← he.1]
        exact stp_row h0 j
      · rfl
    rw [gA_eq hv n (a + 1) M1 i j (by rw [c2]; exact h0)]
    by_cases h : a + 1 ≤ i ∧ i < a + 1 + n ∧ j < tc
    · rw [if_pos h, if_pos (show a ≤ i ∧ i < a + (n + 1) ∧ j < tc by omega)]
      unfold stp
      rw [c2, e1 i v, if_neg (show ¬ (i = a ∧ v < tc) by omega), e1 i j, if_neg (show ¬ (i = a ∧ j < tc) by omega)]
    · rw [if_neg h, e1]
      by_cases h2 : i = a ∧ j < tc
      · rw [if_pos h2, if_pos (show a ≤ i ∧ i < a + (n + 1) ∧ j < tc by omega), h2.1]
      · rw [if_neg h2, if_neg (show ¬ (a ≤ i ∧ i < a + (n + 1) ∧ j < tc) by omega)]
/-- what is left above the timetable, at most 60000 -/
def cb (t : Nat → Int) (M : Nat → Nat → Int32) (a b : Nat) : Int := if (M a b).toInt + t a - t b < 60000 then (M a b).toInt + t a - t b else 60000
theorem cb_pos {tc : Nat} {t : Nat → Int} {M : Nat → Nat → Int32} (hp : pot tc t M) {a b : Nat} (ha : a < tc) (hb : b < tc) : 0 ≤ cb t M a b ∧ cb t M a b ≤ 60000 := by
  have := hp a b ha hb
  unfold cb
  split <;> omega
theorem cb_stp {tc : Nat} {t : Nat → Int} {M M' : Nat → Nat → Int32} (hs : sml tc t) (hp : pot tc t M) {v a b : Nat} (ha : a < tc) (hv : v < tc) (hb : b < tc) (he : M' a b = stp M v a b) : cb t M' a b ≤ cb t M a b ∧ cb t M' a b ≤ cb t M a v + cb t M v b ∧ (cb t M' a b = cb t M a b ∨ cb t M' a b = cb t M a v + cb t M v b) := by
  have h1 := hp a v ha hv
  have h2 := hp v b hv hb
  have h3 := hp a b ha hb
  have h4 := pot_sum hs hp ha hv hb
  have s1 := hs a ha
  have s2 := hs v hv
  have s3 := hs b hb
  have hM : (M' a b).toInt = if ¬ (M a v).toInt = 99999 ∧ ¬ (M v b).toInt = 99999 then (if (M a v).toInt + (M v b).toInt < (M a b).toInt then (M a v).toInt + (M v b).toInt else (M a b).toInt) else (M a b).toInt := by
    rw [he]
    unfold stp
    have q1 : (M a v = 99999) ↔ ((M a v).toInt = 99999) := by rw [i_eq, i_inf]
    have q2 : (M v b = 99999) ↔ ((M v b).toInt = 99999) := by rw [i_eq, i_inf]
    by_cases hc : ¬ M a v = 99999 ∧ ¬ M v b = 99999
    · rw [if_pos hc, if_pos ⟨fun z => hc.1 (q1.mpr z), fun z => hc.2 (q2.mpr z)⟩, i_mn, h4]
    · rw [if_neg hc, if_neg (fun z => hc ⟨fun y => z.1 (q1.mp y), fun y => z.2 (q2.mp y)⟩)]
  have hM2 : ((M' a b).toInt = (M a b).toInt ∧ ((M a v).toInt = 99999 ∨ (M v b).toInt = 99999 ∨ (M a b).toInt ≤ (M a v).toInt + (M v b).toInt)) ∨ ((M' a b).toInt = (M a v).toInt + (M v b).toInt ∧ (M a v).toInt + (M v b).toInt < (M a b).toInt) := by
    by_cases c1 : (M a v).toInt = 99999
    · rw [if_neg (fun h => h.1 c1)] at hM
      exact Or.inl ⟨hM, Or.inl c1⟩
    · by_cases c3 : (M v b).toInt = 99999
      · rw [if_neg (fun h => h.2 c3)] at hM
        exact Or.inl ⟨hM, Or.inr (Or.inl c3)⟩
      · rw [if_pos ⟨c1, c3⟩] at hM
        by_cases c4 : (M a v).toInt + (M v b).toInt < (M a b).toInt
        · rw [if_pos c4] at hM
          exact Or.inr ⟨hM, c4⟩
        · rw [if_neg c4] at hM
          exact Or.inl ⟨hM, Or.inr (Or.inr (by omega))⟩
  have k1 : cb t M a v = (M a v).toInt + t a - t v ∧ (M a v).toInt + t a - t v < 60000 ∨ cb t M a v = 60000 ∧ 60000 ≤ (M a v).toInt + t a - t v := by
    unfold cb
    split <;> omega
  have k2 : cb t M v b = (M v b).toInt + t v - t b ∧ (M v b).toInt + t v - t b < 60000 ∨ cb t M v b = 60000 ∧ 60000 ≤ (M v b).toInt + t v - t b := by
    unfold cb
    split <;> omega
  have k3 : cb t M a b = (M a b).toInt + t a - t b ∧ (M a b).toInt + t a - t b < 60000 ∨ cb t M a b = 60000 ∧ 60000 ≤ (M a b).toInt + t a - t b := by
    unfold cb
    split <;> omega
  have k4 : cb t M' a b = (M' a b).toInt + t a - t b ∧ (M' a b).toInt + t a - t b < 60000 ∨ cb t M' a b = 60000 ∧ 60000 ≤ (M' a b).toInt + t a - t b := by
    unfold cb
    split <;> omega
  clear hM h4 he
  omega
def tri (tc k : Nat) (t : Nat → Int) (M : Nat → Nat → Int32) : Prop := ∀ u a b, u < k → a < tc → b < tc → cb t M a b ≤ cb t M a u + cb t M u b
theorem tri_step {tc v : Nat} {t : Nat → Int} {M : Nat → Nat → Int32} (hs : sml tc t) (hv : v < tc) (hp : pot tc t M) (hd : dia tc M) (h : tri tc v t M) : tri tc (v + 1) t (gA v tc tc 0 M) := by
  have e : ∀ i j, i < tc → j < tc → gA v tc tc 0 M i j = stp M v i j := fun i j hi hj => by
    rw [gA_eq hv tc 0 M i j (hd v hv), if_pos (by omega)]
  intro u a b hu ha hb
  have hut : u < tc := by omega
  have a1 := cb_stp hs hp ha hv hb (e a b ha hb)
  have a2 := cb_stp hs hp ha hv hut (e a u ha hut)
  have a3 := cb_stp hs hp hut hv hb (e u b hut hb)
  have v0 : cb t M v v = 0 := by
    unfold cb
    rw [hd v hv, i_0, if_pos (by omega)]
    omega
  have p1 := cb_pos hp ha hv
  have p2 := cb_pos hp hv hb
  have p3 := cb_pos hp hv hut
  have p4 := cb_pos hp hut hv
  by_cases hq : u = v
  · subst hq
    rw [v0] at a2 a3
    omega
  · have t1 := h u a b (by omega) ha hb
    have t2 := h u a v (by omega) ha hv
    have t3 := h u v b (by omega) hv hb
    have t4 := h u v v (by omega) hv hv
    rw [v0] at t4
    omega
theorem gV_tri {tc : Nat} {t : Nat → Int} (hs : sml tc t) : ∀ (n v : Nat) (M : Nat → Nat → Int32), v + n = tc → pot tc t M → dia tc M → tri tc v t M → tri tc tc t (gV tc n v M)
  | 0, v, M, hm, _, _, h => by
    have : v = tc := by omega
    subst this
    exact h
  | n + 1, v, M, hm, hp, hd, h => by
    have hv : v < tc := by omega
    unfold gV
    obtain ⟨q1, q2, -⟩ := gA_keep hs hv tc 0 M (by omega) hp hd
    exact gV_tri hs n (v + 1) _ (by omega) q1 q2 (tri_step hs hv hp hd h)
/-- another timetable, in which the rope r0 is as short as it may be -/
theorem tt_new {tc rc r0 : Nat} {F T : Nat → Nat} {L : Nat → Int32} {Z : Nat → Bool} {t : Nat → Int} (htc : tc ≤ 12) (hF : okR tc rc F T) (hL : lenR rc L) (ht : ttb tc rc F T L Z 38610 t) (h0 : r0 < rc) : ttb tc rc F T (upd L r0 (leastG (wayM F T L Z tc rc) (F r0) (T r0))) Z 98610 (fun x => t x + cb t (wayM F T L Z tc rc) (T r0) x) := by
  obtain ⟨w1, w2, w3⟩ := way_pot htc hF hL ht
  have hf0 := hF r0 h0
  have w4 : tri tc tc t (wayM F T L Z tc rc) := by
    obtain ⟨h1, h2⟩ := ini_pot htc ht.1
    obtain ⟨q1, q2, -, -⟩ := gRop_pot hF hL ht rc 0 _ (by omega) h1 h2
    exact gV_tri ht.1 tc 0 _ (by omega) q1 q2 (fun u a b hu => absurd hu (Nat.not_lt_zero u))
  generalize wayM F T L Z tc rc = W at w1 w2 w3 w4 ⊢
  refine ⟨fun x hx => ?_, fun r hr hz => ?_⟩
  · have := cb_pos w1 hf0.2 hx
    have := ht.1 x hx
    dsimp only
    omega
  · have hf := hF r hr
    dsimp only
    unfold upd
    by_cases hq : r = r0
    · subst hq
      rw [if_pos rfl]
      have v0 : cb t W (T r) (T r) = 0 := by
        unfold cb
        rw [w2 _ hf.2, i_0, if_pos (by omega)]
        omega
      have b1 := ht.1 _ hf.1
      have b2 := ht.1 _ hf.2
      have b3 := w1 _ _ hf.2 hf.1
      rw [v0]
      have e9 : (leastG W (F r) (T r)).toInt = if (W (T r) (F r)).toInt = 99999 then -99 else (if -99 < -(W (T r) (F r)).toInt then -(W (T r) (F r)).toInt else -99) := by
        unfold leastG
        by_cases hc : W (T r) (F r) = 99999
        · rw [if_pos hc, hc, i_inf, if_pos rfl, i_m99]
        · rw [if_neg hc, if_neg (fun z => hc (by rw [i_eq, i_inf]; exact z)), i_mx, i_m99, i_neg (by omega) (by omega)]
      rw [e9]
      unfold cb
      split <;> split <;> (try split) <;> omega
    · rw [if_neg hq]
      have t1 := w4 (F r) (T r0) (T r) hf.1 hf0.2 hf.2
      have t2 := w3 r hr hz
      have t3 : cb t W (F r) (T r) ≤ (W (F r) (T r)).toInt + t (F r) - t (T r) := by
        unfold cb
        split <;> omega
      omega
/-- the least length is no longer than the rope -/
theorem least_le {tc rc r0 : Nat} {F T : Nat → Nat} {L : Nat → Int32} {Z : Nat → Bool} {t : Nat → Int} (htc : tc ≤ 12) (hF : okR tc rc F T) (hL : lenR rc L) (ht : ttb tc rc F T L Z 38610 t) (h0 : r0 < rc) (hz : Z r0 = true) : -99 ≤ (leastG (wayM F T L Z tc rc) (F r0) (T r0)).toInt ∧ (leastG (wayM F T L Z tc rc) (F r0) (T r0)).toInt ≤ (L r0).toInt := by
  obtain ⟨w1, -, -⟩ := way_pot htc hF hL ht
  have hf := hF r0 h0
  have b3 := w1 _ _ hf.2 hf.1
  have b4 := ht.2 r0 h0 hz
  have hl := hL r0 h0
  have b1 := ht.1 _ hf.1
  have b2 := ht.1 _ hf.2
  unfold leastG
  split
  · rw [i_m99]
    omega
  · rw [i_mx, i_m99, i_neg (by omega) (by omega)]
    split <;> omega
