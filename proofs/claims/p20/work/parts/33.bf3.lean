/-! where there is a timetable, the law's search ends, with the class's table -/
section BF
variable {tc rc : Nat} {F T : Nat → Nat} {L : Nat → Int32} {Z : Nat → Bool}
abbrev eT (F T : Nat → Nat) (L : Nat → Int32) (Z : Nat → Bool) (tc rc : Nat) : Nat → Int := fun v => (earM F T L Z tc rc v).toInt
/-- least ways, none beyond 60000 (as seen by the earliest times) -/
def cC (F T : Nat → Nat) (L : Nat → Int32) (Z : Nat → Bool) (tc rc a x : Nat) : Int := cb (eT F T L Z tc rc) (wayM F T L Z tc rc) a x
def cG (F T : Nat → Nat) (L : Nat → Int32) (Z : Nat → Bool) (tc rc a x : Nat) : Int := cC F T L Z tc rc a x - eT F T L Z tc rc a + eT F T L Z tc rc x
theorem cC_facts (htc : tc ≤ 12) (hrc : rc ≤ 30) (hF : okR tc rc F T) (hL : lenR rc L) (h : ¬ earM F T L Z tc rc 12 = -1) {a : Nat} (ha : a < tc) :
    cG F T L Z tc rc a a = 0 ∧ cC F T L Z tc rc a a = 0 ∧ (∀ x, x < tc → 0 ≤ cC F T L Z tc rc a x ∧ cC F T L Z tc rc a x ≤ 60000 ∧ (cC F T L Z tc rc a x < 60000 → ¬ wayM F T L Z tc rc a x = 99999 ∧ cG F T L Z tc rc a x = (wayM F T L Z tc rc a x).toInt)) ∧ clo rc F T L Z (fun _ => True) (cG F T L Z tc rc a) := by
  have ht := ear_ttb htc hrc hF hL h
  have hsm := ear_small htc hrc hF hL h
  obtain ⟨hp, hd, hr⟩ := way_pot htc hF hL ht
  obtain ⟨i1, i2⟩ := ini_pot htc ht.1
  obtain ⟨g1, g2, -, -⟩ := gRop_pot hF hL ht rc 0 _ (by omega) i1 i2
  have htri : tri tc tc (eT F T L Z tc rc) (wayM F T L Z tc rc) := gV_tri ht.1 tc 0 _ (by omega) g1 g2 (fun u a b hu => absurd hu (Nat.not_lt_zero u))
  have h0 : cC F T L Z tc rc a a = 0 := by
    unfold cC cb
    rw [hd a ha, i_0, if_pos (by omega)]
    omega
  refine ⟨?_, h0, fun x hx => ?_, fun r hr9 hz _ => ⟨trivial, ?_⟩⟩
  · unfold cG
    rw [h0]
    omega
  · have hc := cb_pos hp ha hx
    refine ⟨hc.1, hc.2, fun hlt => ?_⟩
    have ea := hsm a ha
    have ex := hsm x hx
    unfold cC cb at hlt
    by_cases hw : (wayM F T L Z tc rc a x).toInt + eT F T L Z tc rc a - eT F T L Z tc rc x < 60000
    · refine ⟨?_, ?_⟩
      · rw [ne_inf]
        dsimp only [eT] at hw
        omega
      · unfold cG cC cb
        rw [if_pos hw]
        omega
    · rw [if_neg hw] at hlt
      omega
  · have hf := hF r hr9
    have h1 := htri (F r) a (T r) hf.1 ha hf.2
    have h2 := hr r hr9 hz
    have h3 : cb (eT F T L Z tc rc) (wayM F T L Z tc rc) (F r) (T r) ≤ (wayM F T L Z tc rc (F r) (T r)).toInt + eT F T L Z tc rc (F r) - eT F T L Z tc rc (T r) := by
      unfold cb
      split <;> omega
    unfold cG cC
    omega
theorem cap_pull (htc : tc ≤ 12) (hrc : rc ≤ 30) (hF : okR tc rc F T) (hL : lenR rc L) (h : ¬ earM F T L Z tc rc 12 = -1) {a : Nat} (ha : a < tc) {U : Nat → Prop} (hU : ∀ x, x < tc → U x → cC F T L Z tc rc a x < 60000) (haU : ¬ U a) {w : Nat} (hw : w < tc) (hwU : U w) :
    ∃ r, r < rc ∧ Z r = true ∧ ¬ U (F r) ∧ cC F T L Z tc rc a (F r) < 60000 ∧ U (T r) ∧ cG F T L Z tc rc a (T r) = cG F T L Z tc rc a (F r) + (L r).toInt := by
  classical
  apply Classical.byContradiction
  intro hno
  have ht := ear_ttb htc hrc hF hL h
  obtain ⟨f1, f2, f3, f4⟩ := cC_facts htc hrc hF hL h ha
  have hclo : clo rc F T L Z (fun _ => True) (fun x => cG F T L Z tc rc a x + (if U x then 1 else 0)) := fun r hr hz _ => by
    refine ⟨trivial, ?_⟩
    have h1 := (f4 r hr hz trivial).2
    have hf := hF r hr
    dsimp only
    by_cases hT : U (T r)
    · rw [if_pos hT]
      by_cases hFU : U (F r)
      · rw [if_pos hFU]
        omega
      · rw [if_neg hFU]
        by_cases hc : cC F T L Z tc rc a (F r) < 60000
        · have : ¬ cG F T L Z tc rc a (T r) = cG F T L Z tc rc a (F r) + (L r).toInt := fun z => hno ⟨r, hr, hz, hFU, hc, hT, z⟩
          omega
        · have h2 := hU _ hf.2 hT
          have h3 := (ht.2 r hr hz)
          have h4 := (f3 _ hf.1).2.1
          unfold cG at h1 ⊢
          dsimp only at h3
          dsimp only [eT]
          omega
    · rw [if_neg hT]
      split <;> omega
  obtain ⟨g1, g2⟩ := (f3 w hw).2.2 (hU w hw hwU)
  have h5 := (way_rsp htc hF hL ht _ _ hclo a ha trivial w hw g1).2
  rw [if_pos hwU, if_neg haU] at h5
  omega
/-- those that are not least yet -/
def ud (F T : Nat → Nat) (L : Nat → Int32) (Z : Nat → Bool) (tc rc a : Nat) (D : Nat → Int32) : Nat → Bool := fun x => decide (cC F T L Z tc rc a x < 60000 ∧ ¬ (¬ D x = 99999 ∧ (D x).toInt = cG F T L Z tc rc a x))
theorem ud_step (htc : tc ≤ 12) (hrc : rc ≤ 30) (hF : okR tc rc F T) (hL : lenR rc L) (h : ¬ earM F T L Z tc rc 12 = -1) {a : Nat} (ha : a < tc) {D : Nat → Int32} {K : Int} (h0 : 0 ≤ K) (hb : rbn tc K D) (hK : K + 2970 ≤ 38610) (hd : ¬ D a = 99999 ∧ (D a).toInt ≤ 0) (hr : ∀ P G, clo rc F T L Z P G → P a → rsp tc P G (G a) D) :
    cnU (ud F T L Z tc rc a (bfR F T L Z rc 0 D false).1) tc ≤ cnU (ud F T L Z tc rc a D) tc ∧ (¬ cnU (ud F T L Z tc rc a D) tc = 0 → cnU (ud F T L Z tc rc a (bfR F T L Z rc 0 D false).1) tc < cnU (ud F T L Z tc rc a D) tc) ∧ (cnU (ud F T L Z tc rc a D) tc = 0 → (bfR F T L Z rc 0 D false).2 = false) := by
  obtain ⟨f1, f2, f3, f4⟩ := cC_facts htc hrc hF hL h ha
  have ht := ear_ttb htc hrc hF hL h
  have hsm := ear_small htc hrc hF hL h
  obtain ⟨g1, g2, g3, g4⟩ := bfR_all (Z := Z) hF hL rc 0 D false K (by omega) h0 hb (by omega)
  have hrD := hr _ _ f4 trivial
  rw [f1] at hrD
  have hrD' := g2 _ _ _ f4 hrD
  have hdone : ∀ x, x < tc → ¬ D x = 99999 → (D x).toInt = cG F T L Z tc rc a x → ¬ (bfR F T L Z rc 0 D false).1 x = 99999 ∧ ((bfR F T L Z rc 0 D false).1 x).toInt = cG F T L Z tc rc a x := fun x hx hn e => by
    obtain ⟨a1, a2⟩ := g3 x hx hn
    have a3 := (hrD' x hx a1).2
    exact ⟨a1, by omega⟩
  have hmono : ∀ v, v < tc → ud F T L Z tc rc a (bfR F T L Z rc 0 D false).1 v = true → ud F T L Z tc rc a D v = true := fun v hv hu => by
    unfold ud at hu ⊢
    rw [decide_eq_true_eq] at hu ⊢
    refine ⟨hu.1, fun z => hu.2 (hdone v hv z.1 z.2)⟩
  refine ⟨cnU_mono tc hmono, fun hne => ?_, fun hz0 => ?_⟩
  · have hex : ∃ w, w < tc ∧ ud F T L Z tc rc a D w = true := by
      apply Classical.byContradiction
      intro hno
      have : ∀ n, n ≤ tc → cnU (ud F T L Z tc rc a D) n = 0 := by
        intro n
        induction n with
        | zero => intro _; rfl
        | succ n ih =>
          intro hn
          unfold cnU
          rw [ih (by omega), if_neg (fun z => hno ⟨n, by omega, z⟩)]
      exact hne (this tc (Nat.le_refl _))
    obtain ⟨w, hw, hwu⟩ := hex
    have haU : ¬ ud F T L Z tc rc a D a = true := by
      unfold ud
      rw [decide_eq_true_eq]
      intro z
      have := (hrD a ha hd.1).2
      exact z.2 ⟨hd.1, by omega⟩
    obtain ⟨r, r1, r2, r3, r4, r5, r6⟩ := cap_pull htc hrc hF hL h ha (U := fun x => ud F T L Z tc rc a D x = true) (fun x _ hx => by
      unfold ud at hx
      rw [decide_eq_true_eq] at hx
      exact hx.1) haU hw hwu
    have hf := hF r r1
    have hFd : ¬ D (F r) = 99999 ∧ (D (F r)).toInt = cG F T L Z tc rc a (F r) := by
      apply Classical.byContradiction
      intro hno
      apply r3
      unfold ud
      rw [decide_eq_true_eq]
      exact ⟨r4, hno⟩
    obtain ⟨b1, b2⟩ := g4 r (by omega) r1 r2 hFd.1
    have b3 := (hrD' (T r) hf.2 b1).2
    refine cnU_lt tc hmono hf.2 r5 ?_
    unfold ud
    rw [decide_eq_true_eq]
    intro z
    exact z.2 ⟨b1, by omega⟩
  · have hall := cnU_0 tc hz0
    have hfin : ∀ x, x < tc → ¬ D x = 99999 → cC F T L Z tc rc a x < 60000 ∧ (D x).toInt = cG F T L Z tc rc a x := fun x hx hn => by
      have h1 := (hrD x hx hn).2
      have h2 := (hb x hx hn).2
      have h3 := hsm x hx
      have h4 := hsm a ha
      have hlt : cC F T L Z tc rc a x < 60000 := by
        have h5 := (f3 x hx).2.1
        unfold cG at h1
        dsimp only [eT] at h1
        omega
      refine ⟨hlt, ?_⟩
      have h6 := hall x hx
      unfold ud at h6
      rw [decide_eq_true_eq] at h6
      have h7 : ¬ D x = 99999 ∧ (D x).toInt = cG F T L Z tc rc a x := Classical.byContradiction fun z => h6 ⟨hlt, z⟩
      exact h7.2
    refine bfR_calm F T L Z rc 0 D (fun j _ hj hz hn => ?_)
    have hf := hF j (by omega)
    have hl := hL j (by omega)
    obtain ⟨a1, a2⟩ := hfin _ hf.1 hn
    have hbF := hb _ hf.1 hn
    have h1 := (f4 j (by omega) hz trivial).2
    have hs : (D (F j) + L j).toInt = (D (F j)).toInt + (L j).toInt := i_add (by omega) (by omega)
    rw [i_lt, hs]
    by_cases hT : D (T j) = 99999
    · have h3 := hsm _ hf.2
      have h4 := hsm a ha
      have hlt : cC F T L Z tc rc a (T j) < 60000 := by
        have h5 := (f3 _ hf.2).2.1
        unfold cG at h1 a2
        dsimp only [eT] at h1 a2
        omega
      have h6 := hall _ hf.2
      unfold ud at h6
      rw [decide_eq_true_eq] at h6
      exact absurd ⟨hlt, fun z => z.1 hT⟩ h6
    · have := (hfin _ hf.2 hT).2
      omega
theorem bfT_some (htc : tc ≤ 12) (hrc : rc ≤ 30) (hF : okR tc rc F T) (hL : lenR rc L) (h : ¬ earM F T L Z tc rc 12 = -1) : ∀ (f k : Nat) (M : Nat → Nat → Int32), k + f ≤ 13 → 1 ≤ f → (∀ a, a < tc → rbn tc (2970 * (k : Int)) (M a)) → (∀ a, a < tc → ¬ M a a = 99999 ∧ (M a a).toInt ≤ 0) →
    (∀ P G, clo rc F T L Z P G → ∀ a, a < tc → P a → rsp tc P G (G a) (M a)) → (∀ a, a < tc → cnU (ud F T L Z tc rc a (M a)) tc < f) → ∃ W, bfT F T L Z tc rc f M = some W
  | 0, _, _, _, h1, _, _, _, _ => by omega
  | f + 1, k, M, hk, _, h1, h2, h3, h4 => by
    obtain ⟨g1, g2⟩ := bfG_row F T L Z rc tc 0 M false
    have hst : ∀ a, a < tc → _ := fun a ha => ud_step htc hrc hF hL h ha (K := 2970 * (k : Int)) (by omega) (h1 a ha) (by omega) (h2 a ha) (fun P G hG hp => h3 P G hG a ha hp)
    unfold bfT
    by_cases hc : (bfG F T L Z rc tc 0 M false).2 = true
    · rw [if_pos hc]
      have hex : ∃ a, a < tc ∧ ¬ cnU (ud F T L Z tc rc a (M a)) tc = 0 := by
        apply Classical.byContradiction
        intro hno
        have : (bfG F T L Z rc tc 0 M false).2 = false := g2.mpr ⟨rfl, fun i _ hi => (hst i (by omega)).2.2 (Classical.byContradiction fun z => hno ⟨i, by omega, z⟩)⟩
        rw [this] at hc
        cases hc
      obtain ⟨a0, ha0, hne⟩ := hex
      have hf1 := h4 a0 ha0
      refine bfT_some htc hrc hF hL h f (k + 1) _ (by omega) (by omega) (fun a ha => ?_) (fun a ha => ?_) (fun P G hG a ha hp => ?_) (fun a ha => ?_)
      · rw [g1 a, if_pos (by omega)]
        intro v hv hn
        have := (bfR_all (Z := Z) hF hL rc 0 (M a) false (2970 * (k : Int)) (by omega) (by omega) (h1 a ha) (by omega)).1 v hv hn
        omega
      · rw [g1 a, if_pos (by omega)]
        obtain ⟨d1, d2⟩ := h2 a ha
        obtain ⟨d3, d4⟩ := (bfR_all (Z := Z) hF hL rc 0 (M a) false (2970 * (k : Int)) (by omega) (by omega) (h1 a ha) (by omega)).2.2.1 a ha d1
        exact ⟨d3, by omega⟩
      · rw [g1 a, if_pos (by omega)]
        exact (bfR_all (Z := Z) hF hL rc 0 (M a) false (2970 * (k : Int)) (by omega) (by omega) (h1 a ha) (by omega)).2.1 P G _ hG (h3 P G hG a ha hp)
      · rw [g1 a, if_pos (by omega)]
        have hs := hst a ha
        have h9 := h4 a ha
        by_cases hz : cnU (ud F T L Z tc rc a (M a)) tc = 0
        · have := hs.1
          omega
        · have := hs.2.1 hz
          omega
    · rw [if_neg hc]
      exact ⟨_, rfl⟩
/-- the search ends, and its grid is the class's table -/
theorem way_bf (htc : tc ≤ 12) (hrc : rc ≤ 30) (hF : okR tc rc F T) (hL : lenR rc L) (h : ¬ earM F T L Z tc rc 12 = -1) : ∃ W, bfW F T L Z tc rc = some W ∧ bfOK tc rc F T L Z W ∧ ∀ a b, a < tc → b < tc → wayM F T L Z tc rc a b = W a b := by
  have e : ∀ a v, a < tc → v < tc → gIn tc tc 0 (fun _ _ => 0) a v = if a = v then 0 else 99999 := fun a v ha hv => by
    rw [gIn_eq tc tc 0 _ a v hv, if_pos (by omega)]
  have hex : ∃ W, bfW F T L Z tc rc = some W := by
    refine bfT_some htc hrc hF hL h (tc + 1) 0 _ (by omega) (by omega) (fun a ha v hv hn => ?_) (fun a ha => ?_) (fun P G hG a ha hp v hv hn => ?_) (fun a ha => Nat.lt_of_le_of_lt (cnU_le _ _) (by omega))
    · rw [e a v ha hv] at hn ⊢
      split at hn
      · rename_i h9
        rw [if_pos h9]
        exact ⟨by decide, by decide⟩
      · exact absurd rfl hn
    · rw [e a a ha ha, if_pos rfl]
      exact ⟨by decide, by decide⟩
    · rw [e a v ha hv] at hn ⊢
      split at hn
      · rename_i h9
        subst h9
        rw [if_pos rfl, i_0]
        exact ⟨hp, by omega⟩
      · exact absurd rfl hn
  obtain ⟨W, hW⟩ := hex
  have hok := bfW_ok htc hrc hF hL hW
  refine ⟨W, hW, hok, fun a b ha hb => ?_⟩
  obtain ⟨o1, o2, o3, o4⟩ := hok
  obtain ⟨f1, f2, f3, f4⟩ := cC_facts htc hrc hF hL h ha
  have ht := ear_ttb htc hrc hF hL h
  have hsm := ear_small htc hrc hF hL h
  have d1 := o3 a ha
  by_cases h1 : wayM F T L Z tc rc a b = 99999
  · rw [h1]
    apply Classical.byContradiction
    intro hn
    have hn2 : ¬ W a b = 99999 := fun z => hn z.symm
    have h2 := (o4 _ _ f4 a ha trivial b hb hn2).2
    have h3 := (o1 a ha b hb hn2).2
    have h5 := (f3 b hb).2
    have h6 := hsm a ha
    have h7 := hsm b hb
    rw [f1] at h2
    have hlt : cC F T L Z tc rc a b < 60000 := by
      unfold cG at h2
      dsimp only [eT] at h2
      omega
    exact (h5.2 hlt).1 h1
  · have hw := way_rsp htc hF hL ht _ _ (o2 a ha) a ha d1.1 b hb h1
    have hn2 : ¬ W a b = 99999 := hw.1
    have hle := hw.2
    dsimp only at hle
    have h2 := (o4 _ _ f4 a ha trivial b hb hn2).2
    have h3 := (o1 a ha b hb hn2).2
    have h5 := (f3 b hb).2
    have h6 := hsm a ha
    have h7 := hsm b hb
    rw [f1] at h2
    have hlt : cC F T L Z tc rc a b < 60000 := by
      unfold cG at h2
      dsimp only [eT] at h2
      omega
    have h8 := (h5.2 hlt).2
    rw [i_eq]
    have := d1.2
    omega
theorem bf_none (htc : tc ≤ 12) (hrc : rc ≤ 30) (hF : okR tc rc F T) (hL : lenR rc L) (h : earM F T L Z tc rc 12 = -1) : bfW F T L Z tc rc = none := by
  cases hx : bfW F T L Z tc rc with
  | none => rfl
  | some W => exact absurd h (ear_comp htc hrc hF hL (ok_fea hF (bfW_ok htc hrc hF hL hx)))
end BF
