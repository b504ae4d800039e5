/-! the law's body: what it asks in each round -/
section LY
variable {tc rc : Nat} {F T : Nat → Nat} {L : Nat → Int32} {Z : Nat → Bool} {ro : Int32} {E B : Nat → Int32}
theorem last_nn (E : Nat → Int32) (n : Nat) : ¬ lastF E n 0 0 < 0 := fun z => by
  have h := (lastF_ge E n 0 0).1
  rw [i_lt] at z
  omega
def gFill (W : Nat → Nat → Int32) (tc i j : Nat) (G : Nat → Nat → Int32) : Prop := ∀ a b, b < tc → (a < i ∨ (a = i ∧ b < j)) → G a b = W a b
theorem gFill_0 {W : Nat → Nat → Int32} {G : Nat → Nat → Int32} : gFill W tc 0 0 G := fun a b _ h => by
  rcases h with h | h
  · omega
  · omega
theorem ug_at (M : Nat → Nat → Int32) (a b : Nat) (x : Int32) : updG M a b x a b = x := by
  simp [updG, upd]
theorem gFill_step {W : Nat → Nat → Int32} {G : Nat → Nat → Int32} {i j : Nat} {x : Int32} (h : gFill W tc i j G) (hj : j < tc) (e : x = W i j) : gFill W tc i (j + 1) (updG G i j x) := fun a b hb hab => by
  by_cases ha : a = i
  · by_cases hbj : b = j
    · rw [ha, hbj, ug_at]; exact e
    · have := h a b hb (by omega)
      rw [← this]
      simp [updG, upd, ha, hbj]
  · have := h a b hb (by omega)
    rw [← this]
    simp [updG, ha]
theorem gFill_row {W : Nat → Nat → Int32} {G : Nat → Nat → Int32} {i j : Nat} (h : gFill W tc i j G) (hj : tc ≤ j) : gFill W tc (i + 1) 0 G := fun a b hb hab => h a b hb (by omega)
theorem gFill_all {G : Nat → Nat → Int32} {i : Nat} (h : gFill (wayM F T L Z tc rc) tc i 0 G) (hi : tc ≤ i) : gridOK F T L Z tc rc G := fun a b ha hb => h a b hb (by omega)
theorem fill_step {Q E : Nat → Int32} {v : Nat} (h : ∀ j, j < v → Q j = E j) : ∀ j, j < v + 1 → upd Q v (E v) j = E j := fun j hj => by
  rcases upd_cases Q v (E v) j with ⟨e, ej⟩ | ⟨e, ej⟩
  · rw [e, ej]
  · rw [e]; exact h j (by omega)
theorem zk_back {k : Nat} (h : Z k = true) : updB (updB Z k false) k (!(updB Z k false k)) = Z := by
  funext j
  by_cases hj : j = k
  · simp [updB, hj, h]
  · simp [updB, hj]
theorem zk_at (Z : Nat → Bool) (k : Nat) : updB Z k false k = false := by simp [updB]
theorem upd_at (L : Nat → Int32) (r : Nat) (x : Int32) : upd L r x r = x := by simp [upd]
theorem upd_b2 (L : Nat → Int32) (r : Nat) (x : Int32) : upd (upd L r x) r (L r) = L := by
  funext j
  by_cases hj : j = r
  · simp [upd, hj]
  · simp [upd, hj]
theorem upd_b3 (L : Nat → Int32) (r : Nat) (x y : Int32) : upd (upd (upd L r x) r y) r (L r) = L := by
  funext j
  by_cases hj : j = r
  · simp [upd, hj]
  · simp [upd, hj]
theorem q_ro (htc : tc ≤ 12) (hrc : rc ≤ 30) (hF : okR tc rc F T) (hL : lenR rc L) (E : Nat → Int32) : sRo F T L Z tc rc E = earM F T L Z tc rc 12 := (q_settle htc hrc hF hL E E).2.2.2.2.1
theorem q_E (htc : tc ≤ 12) (hrc : rc ≤ 30) (hF : okR tc rc F T) (hL : lenR rc L) (E : Nat → Int32) : ag tc (sE F T L Z tc rc E) (earM F T L Z tc rc) := (q_settle htc hrc hF hL E E).2.2.2.2.2.1
theorem back9 (hI : xInv tc rc F T L Z ro E B) (h9 : ¬ ro = -1) (E' : Nat → Int32) : ¬ sRo F T L Z tc rc E' = -1 := by
  rw [q_ro hI.1 hI.2.1 hI.2.2.1 hI.2.2.2.1]
  exact inv_ear hI h9
theorem back8 (hI : xInv tc rc F T L Z ro E B) (h9 : ro = -1) (E' : Nat → Int32) : sRo F T L Z tc rc E' = -1 := by
  rw [q_ro hI.1 hI.2.1 hI.2.2.1 hI.2.2.2.1, ← hI.2.2.2.2.1]
  exact h9
theorem last9 (hI : xInv tc rc F T L Z ro E B) (E' : Nat → Int32) : lastF E tc 0 0 = lastF (sE F T L Z tc rc E') tc 0 0 :=
  lastF_ag (fun j hj => (hI.2.2.2.2.2.1 j hj).trans (q_E hI.1 hI.2.1 hI.2.2.1 hI.2.2.2.1 E' j hj).symm) tc 0 0 (by omega)
theorem adv_less (hI : xInv tc rc F T L Z ro E B) {k : Nat} (h : lastF (earM F T L (updB Z k false) tc rc) tc 0 0 < lastF E tc 0 0) (E' : Nat → Int32) : lastF (sE F T L (updB Z k false) tc rc E') tc 0 0 < lastF E tc 0 0 := by
  rw [lastF_ag (q_E hI.1 hI.2.1 hI.2.2.1 hI.2.2.2.1 E') tc 0 0 (by omega)]
  exact h
theorem cut1 (hI : xInv tc rc F T L Z ro E B) (h9 : ¬ ro = -1) {r : Nat} (hr : r < rc) (hz : Z r = true) {g : Int32} (e : g = leastG (wayM F T L Z tc rc) (F r) (T r)) : lenR rc (upd L r g) ∧ ∀ E', ¬ sRo F T (upd L r g) Z tc rc E' = -1 := by
  subst e
  obtain ⟨h1, h2⟩ := cut_room hI.1 hI.2.1 hI.2.2.1 hI.2.2.2.1 (inv_ear hI h9) hr hz
  refine ⟨h1, fun E' => ?_⟩
  rw [q_ro hI.1 hI.2.1 hI.2.2.1 h1]
  exact h2
theorem cut2 (hI : xInv tc rc F T L Z ro E B) (h9 : ¬ ro = -1) {r : Nat} (hr : r < rc) (hz : Z r = true) {g x : Int32} (e : g = leastG (wayM F T L Z tc rc) (F r) (T r)) (hg : lenB (g - 1) = true) (h1 : (g - 1).toInt = g.toInt - 1) (h2 : -99 < g.toInt) (E' : Nat → Int32) : sRo F T (upd (upd L r x) r (g - 1)) Z tc rc E' = -1 := by
  have hL2 : lenR rc (upd (upd L r x) r (g - 1)) := fun j hj => by
    rcases upd_cases (upd L r x) r (g - 1) j with ⟨e, -⟩ | ⟨e, ej⟩
    · rw [e]; exact lenB_of hg
    · rw [e]
      rcases upd_cases L r x j with ⟨-, ej2⟩ | ⟨e2, -⟩
      · exact absurd ej2 ej
      · rw [e2]; exact hI.2.2.2.1 j hj
  rw [q_ro hI.1 hI.2.1 hI.2.2.1 hL2]
  refine cut_less hI.1 hI.2.1 hI.2.2.1 hI.2.2.2.1 (inv_ear hI h9) hr hz (by rw [← e]; exact h2) (fun j _ hn => ?_) ?_
  · simp [upd, hn]
  · rw [upd_at, h1, e]
theorem row4_cg {L1 L2 : Nat → Int32} {p : Nat → Nat} {cI : ClassId} (h : ∀ j, j < rc → L1 j = L2 j) : xGr cI p rc 4 (row4 F T L1 Z) = xGr cI p rc 4 (row4 F T L2 Z) := xGr_congr (fun _ _ => rfl) (fun i hi => by
  funext j
  simp [row4, h i hi])
end LY
