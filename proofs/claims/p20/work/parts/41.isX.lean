/-! the law's own mill tells the same as the class -/
section IX
variable {tc rc : Nat} {F T : Nat → Nat} {L : Nat → Int32} {Z : Nat → Bool} {ro : Int32} {E B Q : Nat → Int32}
theorem tb_z {r : Nat} (h : Z r = false) : tightB ro E F T L Z r = false := by simp [tightB, h]
theorem tb_n {r : Nat} (h : ro = -1) : tightB ro E F T L Z r = false := by simp [tightB, h]
theorem tb_eq (hI : xInv tc rc F T L Z ro E B) (hro : ¬ ro = -1) (hQ : ∀ v, v < tc → Q v = E v) {r : Nat} (hr : r < rc) : Q (T r) - Q (F r) = L r ↔ E (T r) = E (F r) + L r := by
  obtain ⟨htc, hrc, hF, hL, -, eE, -⟩ := id hI
  have hsm := ear_small htc hrc hF hL (inv_ear hI hro)
  have hf := hF r hr
  have hl := hL r hr
  have h1 := hsm _ hf.1
  have h2 := hsm _ hf.2
  rw [hQ _ hf.1, hQ _ hf.2, eE _ hf.1, eE _ hf.2, i_eq, i_eq, i_sub (by omega) (by omega), i_add (by omega) (by omega)]
  omega
theorem tb_yes (hI : xInv tc rc F T L Z ro E B) (hro : ¬ ro = -1) (hQ : ∀ v, v < tc → Q v = E v) {r : Nat} (hr : r < rc) (hz : Z r = true) (h : Q (T r) - Q (F r) = L r) : tightB ro E F T L Z r = true := by
  have := (tb_eq hI hro hQ hr).mp h
  simp [tightB, hro, hz, this]
theorem tb_no (hI : xInv tc rc F T L Z ro E B) (hro : ¬ ro = -1) (hQ : ∀ v, v < tc → Q v = E v) {r : Nat} (hr : r < rc) (h : ¬ Q (T r) - Q (F r) = L r) : tightB ro E F T L Z r = false := by
  have : ¬ E (T r) = E (F r) + L r := fun z => h ((tb_eq hI hro hQ hr).mpr z)
  simp [tightB, this]
theorem nI_bt {b : Bool} (k : Nat) (h : b = true) : nI k + bI b = nI (k + 1) := by
  rw [h]; exact nI_1 k
theorem nI_bf {b : Bool} (k : Nat) (h : b = false) : nI k + bI b = nI k := by
  rw [h]; exact Int32.add_zero _
theorem seven {f : Nat → Int32} {c0 c1 c2 c3 c4 c5 c6 : Int32} (h0 : f 0 = c0) (h1 : f 1 = c1) (h2 : f 2 = c2) (h3 : f 3 = c3) (h4 : f 4 = c4) (h5 : f 5 = c5) (h6 : f 6 = c6) : ∀ w, w < 7 → f w = upd (upd (upd (upd (upd (upd (upd (fun _ => 0) 0 c0) 1 c1) 2 c2) 3 c3) 4 c4) 5 c5) 6 c6 w := fun w hw => by
  rcases (by omega : w = 0 ∨ w = 1 ∨ w = 2 ∨ w = 3 ∨ w = 4 ∨ w = 5 ∨ w = 6) with rfl | rfl | rfl | rfl | rfl | rfl | rfl
  · exact h0
  · exact h1
  · exact h2
  · exact h3
  · exact h4
  · exact h5
  · exact h6
theorem counts_Y (hI : xInv tc rc F T L Z ro E B) (hro : ¬ ro = -1) (hQ : ∀ v, v < tc → Q v = E v) : ∀ w, w < 7 → cntR ro E F T L Z tc rc w = upd (upd (upd (upd (upd (upd (upd (fun _ => 0) 0 (nI tc)) 1 (nI rc)) 2 (nI (countF Z rc 0 0))) 3 (rdS F T L Z rc (tc + 1) 0 (fun _ => 0))) 4 (lastF Q tc 0 0)) 5 (nI (countF (tightB ro E F T L Z) rc 0 0))) 6 0 w := by
  obtain ⟨htc, hrc, hF, hL, eR, eE, -⟩ := id hI
  refine seven rfl rfl rfl ?_ ?_ rfl ?_
  · exact eR.trans (rdS_eq htc hrc hF hL).symm
  · exact (if_neg hro).trans (lastF_ag (fun j hj => (hQ j hj).symm) tc 0 0 (by omega))
  · exact if_neg hro
theorem counts_N (hI : xInv tc rc F T L Z ro E B) (hro : ro = -1) : ∀ w, w < 7 → cntR ro E F T L Z tc rc w = upd (upd (upd (upd (upd (upd (upd (fun _ => 0) 0 (nI tc)) 1 (nI rc)) 2 (nI (countF Z rc 0 0))) 3 (rdS F T L Z rc (tc + 1) 0 (fun _ => 0))) 4 (-1)) 5 (nI (countF (tightB ro E F T L Z) rc 0 0))) 6 (nI (rgT F T L Z tc rc tc 1 (gIn tc tc 0 (fun _ _ => 0)))) w := by
  obtain ⟨htc, hrc, hF, hL, eR, eE, -⟩ := id hI
  refine seven rfl rfl rfl ?_ ?_ rfl ?_
  · exact eR.trans (rdS_eq htc hrc hF hL).symm
  · exact if_pos hro
  · exact (if_pos hro).trans (by rw [ring_eq L Z hF])
theorem cmp0 {r1 : UInt64} (hal : alike64 r1 (meanF ro E tc) = true) (h : tc = 0 ∨ ro = -1) : Op.cmpValue (FP.dcmp r1 FP.dconst0) .l = 0 := by
  have e : meanF ro E tc = FP.dconst0 := if_pos h
  have hn : isNaN64 FP.dconst0 = false := by decide +kernel
  rw [e] at hal
  rw [alike_eq hal hn]
  exact cmp_self hn
theorem cmpY {r1 r9 : UInt64} (hal : alike64 r1 (meanF ro E tc) = true) (hal9 : alike64 r9 (FP.ddiv (FP.i2d (sumF Q tc 0 0)) (FP.i2d (nI tc))) = true) (hro : ¬ ro = -1) (h0 : ¬ tc = 0) (htc : tc ≤ 12) (hQ : ∀ v, v < tc → Q v = E v) : Op.cmpValue (FP.dcmp r1 r9) .l = 0 := by
  have e : meanF ro E tc = FP.ddiv (FP.i2d (sumF E tc 0 0)) (FP.i2d (nI tc)) := if_neg (fun z => z.elim h0 hro)
  have e2 : sumF Q tc 0 0 = sumF E tc 0 0 := sumF_ag (fun j hj => hQ j hj) tc 0 0 (by omega)
  have hn := mean_num (sumF E tc 0 0) (show 0 < tc by omega) htc
  rw [e] at hal
  rw [e2] at hal9
  rw [alike_eq hal hn, alike_eq hal9 hn]
  exact cmp_self hn
end IX
