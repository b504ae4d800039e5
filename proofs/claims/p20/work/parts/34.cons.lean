/-! what follows for the law's mill: its times, its rounds, its room -/
section CO
variable {tc rc : Nat} {F T : Nat → Nat} {L : Nat → Int32} {Z : Nat → Bool}
theorem ear_clo (htc : tc ≤ 12) (hrc : rc ≤ 30) (hF : okR tc rc F T) (hL : lenR rc L) (h : ¬ earM F T L Z tc rc 12 = -1) : clo rc F T L Z (fun _ => True) (eT F T L Z tc rc) := fun r hr hz _ => by
  have := (ear_ttb htc hrc hF hL h).2 r hr hz
  refine ⟨trivial, ?_⟩
  dsimp only [eT] at this ⊢
  omega
/-- least ways in one: the table is 0 at its diagonal, closed, respects what is closed, bounded -/
theorem way_all (htc : tc ≤ 12) (hrc : rc ≤ 30) (hF : okR tc rc F T) (hL : lenR rc L) (h : ¬ earM F T L Z tc rc 12 = -1) :
    (∀ a, a < tc → wayM F T L Z tc rc a a = 0) ∧ (∀ a, a < tc → rbn tc 38610 (wayM F T L Z tc rc a)) ∧ (∀ a, a < tc → clo rc F T L Z (fun x => x < tc ∧ ¬ wayM F T L Z tc rc a x = 99999) (fun x => (wayM F T L Z tc rc a x).toInt)) ∧ rspG tc rc F T L Z (wayM F T L Z tc rc) := by
  have ht := ear_ttb htc hrc hF hL h
  obtain ⟨hp, hd, hr⟩ := way_pot htc hF hL ht
  obtain ⟨W, -, ⟨o1, o2, o3, o4⟩, he⟩ := way_bf htc hrc hF hL h
  refine ⟨hd, fun a ha v hv hn => ?_, fun a ha r hr9 hz hp9 => ?_, way_rsp htc hF hL ht⟩
  · rw [he a v ha hv] at hn ⊢
    exact o1 a ha v hv hn
  · have hf := hF r hr9
    have hn := hp9.2
    rw [he a _ ha hf.1] at hn
    obtain ⟨c1, c2⟩ := o2 a ha r hr9 hz hn
    refine ⟨⟨hf.2, ?_⟩, ?_⟩
    · rw [he a _ ha hf.2]
      exact c1
    · dsimp only
      rw [he a _ ha hf.2, he a _ ha hf.1]
      exact c2
theorem way_tri (htc : tc ≤ 12) (hrc : rc ≤ 30) (hF : okR tc rc F T) (hL : lenR rc L) (h : ¬ earM F T L Z tc rc 12 = -1) {a b c : Nat} (ha : a < tc) (hb : b < tc) (hc : c < tc) (h1 : ¬ wayM F T L Z tc rc a b = 99999) (h2 : ¬ wayM F T L Z tc rc b c = 99999) : ¬ wayM F T L Z tc rc a c = 99999 ∧ (wayM F T L Z tc rc a c).toInt ≤ (wayM F T L Z tc rc a b).toInt + (wayM F T L Z tc rc b c).toInt := by
  obtain ⟨w1, w2, w3, w4⟩ := way_all htc hrc hF hL h
  obtain ⟨p1, p2⟩ := w4 _ _ (w3 a ha) b hb ⟨hb, h1⟩ c hc h2
  exact ⟨p1.2, p2⟩
theorem way_ear (htc : tc ≤ 12) (hrc : rc ≤ 30) (hF : okR tc rc F T) (hL : lenR rc L) (h : ¬ earM F T L Z tc rc 12 = -1) {a b : Nat} (ha : a < tc) (hb : b < tc) (h1 : ¬ wayM F T L Z tc rc a b = 99999) : (earM F T L Z tc rc b).toInt ≤ (earM F T L Z tc rc a).toInt + (wayM F T L Z tc rc a b).toInt := by
  obtain ⟨w1, w2, w3, w4⟩ := way_all htc hrc hF hL h
  exact (w4 _ _ (ear_clo htc hrc hF hL h) a ha trivial b hb h1).2
/-! greatest of a row -/
theorem lastF_ge (E : Nat → Int32) : ∀ n i mx, mx.toInt ≤ (lastF E n i mx).toInt ∧ ∀ j, i ≤ j → j < i + n → (E j).toInt ≤ (lastF E n i mx).toInt
  | 0, _, _ => ⟨Int.le_refl _, fun j h1 h2 => by omega⟩
  | n + 1, i, mx => by
    obtain ⟨h1, h2⟩ := lastF_ge E n (i + 1) (mxI mx (E i))
    have hm := i_mx mx (E i)
    refine ⟨?_, fun j j1 j2 => ?_⟩
    · show _ ≤ (lastF E n (i + 1) (mxI mx (E i))).toInt
      split at hm <;> omega
    · show _ ≤ (lastF E n (i + 1) (mxI mx (E i))).toInt
      by_cases hj : j = i
      · subst hj
        split at hm <;> omega
      · exact h2 j (by omega) (by omega)
theorem lastF_at (E : Nat → Int32) : ∀ n i mx, lastF E n i mx = mx ∨ ∃ j, i ≤ j ∧ j < i + n ∧ lastF E n i mx = E j
  | 0, _, _ => Or.inl rfl
  | n + 1, i, mx => by
    have h := lastF_at E n (i + 1) (mxI mx (E i))
    show lastF E n (i + 1) (mxI mx (E i)) = mx ∨ ∃ j, i ≤ j ∧ j < i + (n + 1) ∧ lastF E n (i + 1) (mxI mx (E i)) = E j
    rcases h with h | ⟨j, h1, h2, h3⟩
    · rw [h]
      unfold mxI
      split
      · exact Or.inr ⟨i, by omega, by omega, rfl⟩
      · exact Or.inl rfl
    · exact Or.inr ⟨j, by omega, by omega, h3⟩
theorem tmI_eq (W : Nat → Nat → Int32) (a : Nat) : ∀ n b E, tmI W a n b E a = lastF (fun b => -(W a b)) n b (E a) ∧ ∀ v, ¬ v = a → tmI W a n b E v = E v
  | 0, _, _ => ⟨rfl, fun _ _ => rfl⟩
  | n + 1, b, E => by
    obtain ⟨h1, h2⟩ := tmI_eq W a n (b + 1) (upd E a (mxI (E a) (-(W a b))))
    refine ⟨?_, fun v hv => ?_⟩
    · show tmI W a n (b + 1) _ a = _
      rw [h1, pk_us]
      rfl
    · show tmI W a n (b + 1) _ v = _
      rw [h2 v hv, pk_un hv]
theorem tmA_eq (W : Nat → Nat → Int32) (nn : Nat) : ∀ n a E v, tmA W nn n a E v = if a ≤ v ∧ v < a + n then lastF (fun b => -(W v b)) nn 0 (E v) else E v
  | 0, a, E, v => by rw [if_neg (by omega)]; rfl
  | n + 1, a, E, v => by
    obtain ⟨h1, h2⟩ := tmI_eq W a nn 0 E
    show tmA W nn n (a + 1) _ v = _
    rw [tmA_eq W nn n (a + 1) _ v]
    by_cases hv : v = a
    · subst hv
      rw [if_neg (by omega), if_pos (by omega), h1]
    · rw [h2 v hv]
      by_cases hc : a + 1 ≤ v ∧ v < a + 1 + n
      · rw [if_pos hc, if_pos (by omega)]
      · rw [if_neg hc, if_neg (by omega)]
/-- the law's times are the earliest -/
theorem timS_eq (htc : tc ≤ 12) (hrc : rc ≤ 30) (hF : okR tc rc F T) (hL : lenR rc L) (h : ¬ earM F T L Z tc rc 12 = -1) {W : Nat → Nat → Int32} (hW : bfW F T L Z tc rc = some W) : ∀ v, v < tc → timS W tc v = earM F T L Z tc rc v := by
  obtain ⟨o1, o2, o3, o4⟩ := bfW_ok htc hrc hF hL hW
  have hsm := ear_small htc hrc hF hL h
  have e : ∀ v, v < tc → timS W tc v = lastF (fun b => -(W v b)) tc 0 0 := fun v hv => by
    unfold timS
    rw [tmA_eq, if_pos (by omega)]
  have hneg : ∀ a b, a < tc → b < tc → (-(W a b)).toInt = -(W a b).toInt := fun a b ha hb => by
    by_cases hn : W a b = 99999
    · rw [hn]; decide
    · have := o1 a ha b hb hn
      exact i_neg (by omega) (by omega)
  have hup : ∀ v, v < tc → (lastF (fun b => -(W v b)) tc 0 0).toInt ≤ (earM F T L Z tc rc v).toInt := fun v hv => by
    have h0 := hsm v hv
    rcases lastF_at (fun b => -(W v b)) tc 0 0 with h1 | ⟨b, -, hb, h1⟩
    · rw [h1, i_0]
      omega
    · rw [h1]
      show (-(W v b)).toInt ≤ _
      rw [hneg v b hv (by omega)]
      by_cases hn : W v b = 99999
      · rw [hn, i_inf]
        omega
      · have h2 := (o4 _ _ (ear_clo htc hrc hF hL h) v hv trivial b (by omega) hn).2
        have h3 := hsm b (by omega)
        dsimp only [eT] at h2
        omega
  have hfea : fea tc rc F T L Z (fun v => (lastF (fun b => -(W v b)) tc 0 0).toInt) := by
    refine ⟨fun v hv => ?_, fun r hr hz => ?_⟩
    · have := (lastF_ge (fun b => -(W v b)) tc 0 0).1
      rw [i_0] at this
      exact this
    · have hf := hF r hr
      have hge := (lastF_ge (fun b => -(W (F r) b)) tc 0 0).2
      have d1 := o3 _ hf.1
      obtain ⟨c1, c2⟩ := o2 _ hf.1 r hr hz d1.1
      dsimp only at c2 ⊢
      rcases lastF_at (fun b => -(W (T r) b)) tc 0 0 with h1 | ⟨b, -, hb, h1⟩
      · rw [h1, i_0]
        have h2 := hge (T r) (by omega) (by omega)
        rw [hneg _ _ hf.1 hf.2] at h2
        omega
      · rw [h1]
        by_cases hn : W (T r) b = 99999
        · have h2 := hge (T r) (by omega) (by omega)
          have h3 : (-(W (T r) b)).toInt ≤ 0 := by
            rw [hn]; decide
          rw [hneg _ _ hf.1 hf.2] at h2
          omega
        · obtain ⟨p1, p2⟩ := o4 _ _ (o2 _ hf.1) (T r) hf.2 c1 b (by omega) hn
          have h2 := hge b (by omega) (by omega)
          rw [hneg _ _ hf.1 (by omega)] at h2
          show (-(W (T r) b)).toInt - _ ≤ _
          rw [hneg _ _ hf.2 (by omega)]
          dsimp only at p2
          omega
  intro v hv
  rw [e v hv, i_eq]
  have h1 := hup v hv
  have h2 := ear_le htc hrc hF hL hfea v hv
  omega
/-- its rounds are the class's -/
theorem psS_eq (hF : okR tc rc F T) (hL : lenR rc L) : ∀ (n r : Nat) (E : Nat → Int32) (ch : Bool) (K : Int), r + n = rc → bnd tc K E → K + 99 * (n : Int) ≤ 1000000 → psS F T L Z n r E ch = passF F T L Z n r E ch
  | 0, _, _, _, _, _, _, _ => rfl
  | n + 1, r, E, ch, K, hm, h, hK => by
    have hf := hF r (by omega)
    have h1 := h _ hf.1
    have h2 := h _ hf.2
    have hl := hL r (by omega)
    have hs : (E (T r) - L r).toInt = (E (T r)).toInt - (L r).toInt := i_sub (by omega) (by omega)
    have hs2 : (E (F r) + L r).toInt = (E (F r)).toInt + (L r).toInt := i_add (by omega) (by omega)
    have hm2 : bnd tc (K + 99) E := fun v hv => by
      have := h v hv
      omega
    unfold psS passF
    by_cases hc : Z r = true ∧ E (F r) < E (T r) - L r
    · have hc2 := i_lt.mp hc.2
      rw [if_pos hc, if_pos ⟨hc.1, by rw [i_lt]; omega⟩]
      exact psS_eq hF hL n (r + 1) _ true (K + 99) (by omega) (bnd_upd hm2 (by omega) (by omega) _) (by omega)
    · rw [if_neg hc, if_neg (fun z => hc ⟨z.1, by
        have := i_lt.mp z.2
        rw [i_lt]; omega⟩)]
      exact psS_eq hF hL n (r + 1) _ ch (K + 99) (by omega) hm2 (by omega)
theorem rdS_rnd (hF : okR tc rc F T) (hL : lenR rc L) (hrc : rc ≤ 30) : ∀ (n k : Nat) (E : Nat → Int32) (K : Int), bnd tc K E → K + 2970 * (n : Int) ≤ 1000000 → rdS F T L Z rc n k E = (rndF F T L Z rc n k E).2
  | 0, _, _, _, _, _ => rfl
  | n + 1, k, E, K, hb, hK => by
    have h1 := passF_bnd Z hF hL rc 0 E false K (by omega) hb (by omega)
    have h2 : bnd tc (K + 2970) (passF F T L Z rc 0 E false).1 := fun v hv => by
      have := h1 v hv
      omega
    unfold rdS rndF
    rw [psS_eq hF hL rc 0 E false K (by omega) hb (by omega)]
    split
    · exact rdS_rnd hF hL hrc n (k + 1) _ (K + 2970) h2 (by omega)
    · rfl
theorem rdS_eq (htc : tc ≤ 12) (hrc : rc ≤ 30) (hF : okR tc rc F T) (hL : lenR rc L) : rdS F T L Z rc (tc + 1) 0 (fun _ => 0) = earM F T L Z tc rc 12 := by
  have h0 : bnd tc 0 (fun _ => 0) := fun v _ => ⟨Int.le_refl _, Int.le_refl _⟩
  rw [rdS_rnd hF hL hrc (tc + 1) 0 _ 0 h0 (by omega)]
  obtain ⟨-, h4⟩ := rnd_rel F T L Z htc hF (tc + 1) 0 (upd (fun _ => 0) 12 (-1)) (by omega)
  have hag : ag tc (fun _ => 0) (upd (fun _ => 0) 12 (-1)) := fun j hj => by
    rw [pk_un (show ¬ j = 12 by omega)]
  rw [(rndF_ag L Z hF (tc + 1) 0 _ _ hag).1]
  unfold earM
  rw [h4]
  split
  · rename_i h9
    rw [h9]
    exact pk_us.symm
  · rfl
/-- without a rope there is a timetable all the more, and the rope's room is told by it -/
theorem rm_eq (htc : tc ≤ 12) (hrc : rc ≤ 30) (hF : okR tc rc F T) (hL : lenR rc L) (h : ¬ earM F T L Z tc rc 12 = -1) {r : Nat} (hr : r < rc) (hz : Z r = true) : ∃ W, bfW F T L (updB Z r false) tc rc = some W ∧ rmV W (F r) (T r) = leastG (wayM F T L Z tc rc) (F r) (T r) := by
  have hf := hF r hr
  have ht := ear_ttb htc hrc hF hL h
  have hZ : ∀ j, updB Z r false j = true → Z j = true ∧ ¬ j = r := fun j hj => by
    unfold updB at hj
    by_cases hjr : j = r
    · rw [if_pos hjr] at hj
      cases hj
    · rw [if_neg hjr] at hj
      exact ⟨hj, hjr⟩
  have h' : ¬ earM F T L (updB Z r false) tc rc 12 = -1 := ear_comp htc hrc hF hL (t := eT F T L Z tc rc) ⟨fun v hv => (ht.1 v hv).1, fun j hj hjz => ht.2 j hj (hZ j hjz).1⟩
  obtain ⟨W, hW, ⟨o1, o2, o3, o4⟩, -⟩ := way_bf htc hrc hF hL h'
  refine ⟨W, hW, ?_⟩
  obtain ⟨w1, w2, w3, w4⟩ := way_all htc hrc hF hL h
  have hsub : ∀ P G, clo rc F T L Z P G → clo rc F T L (updB Z r false) P G := fun P G hG j hj hjz hp => hG j hj (hZ j hjz).1 hp
  have hd := o3 _ hf.2
  have hle : ¬ W (T r) (F r) = 99999 → ¬ wayM F T L Z tc rc (T r) (F r) = 99999 ∧ (wayM F T L Z tc rc (T r) (F r)).toInt ≤ (W (T r) (F r)).toInt := fun hn => by
    obtain ⟨p1, p2⟩ := o4 _ _ (hsub _ _ (w3 _ hf.2)) (T r) hf.2 ⟨hf.2, by rw [w1 _ hf.2]; decide⟩ (F r) hf.1 hn
    dsimp only at p2
    rw [w1 _ hf.2, i_0] at p2
    exact ⟨p1.2, by omega⟩
  have hclo : clo rc F T L Z (fun x => ¬ W (T r) x = 99999) (fun x => (W (T r) x).toInt) := fun j hj hjz hp => by
    by_cases hjr : j = r
    · subst hjr
      obtain ⟨q1, q2⟩ := hle hp
      have q3 := way_ear htc hrc hF hL h hf.2 hf.1 q1
      have q4 := ht.2 j hj hjz
      refine ⟨hd.1, ?_⟩
      dsimp only at q4 ⊢
      omega
    · exact o2 _ hf.2 j hj (by unfold updB; rw [if_neg hjr]; exact hjz) hp
  have hge : ¬ wayM F T L Z tc rc (T r) (F r) = 99999 → ¬ W (T r) (F r) = 99999 ∧ (W (T r) (F r)).toInt ≤ (wayM F T L Z tc rc (T r) (F r)).toInt := fun hn => by
    obtain ⟨p1, p2⟩ := w4 _ _ hclo (T r) hf.2 hd.1 (F r) hf.1 hn
    dsimp only at p2
    exact ⟨p1, by omega⟩
  have heq : W (T r) (F r) = wayM F T L Z tc rc (T r) (F r) := by
    by_cases hn : W (T r) (F r) = 99999
    · by_cases hn2 : wayM F T L Z tc rc (T r) (F r) = 99999
      · rw [hn, hn2]
      · exact absurd hn (hge hn2).1
    · have a1 := hle hn
      have a2 := hge a1.1
      rw [i_eq]
      omega
  unfold rmV leastG
  rw [heq]
  by_cases hn : wayM F T L Z tc rc (T r) (F r) = 99999
  · rw [if_pos hn, if_pos hn]
  · rw [if_neg hn, if_neg hn]
    have hb := w2 _ hf.2 _ hf.1 hn
    have hng := i_neg (x := wayM F T L Z tc rc (T r) (F r)) (by omega) (by omega)
    have e99 : (99 : Int32).toInt = 99 := by decide
    rw [i_eq, i_mx, i_m99, hng]
    by_cases hc : 99 < wayM F T L Z tc rc (T r) (F r)
    · rw [if_pos hc, i_m99]
      rw [i_lt, e99] at hc
      rw [if_neg (by omega)]
    · rw [if_neg hc, hng]
      rw [i_lt, e99] at hc
      split <;> omega
end CO
