/-! tightening: what is left, and by how much -/
section TI
variable {tc rc : Nat} {F T : Nat → Nat} {Z : Nat → Bool}
theorem lenR_upd {L : Nat → Int32} (hL : lenR rc L) {x : Int32} (hx : -99 ≤ x.toInt ∧ x.toInt ≤ 99) (k : Nat) : lenR rc (upd L k x) := fun r hr => by
  rcases upd_cases L k x r with ⟨e, -⟩ | ⟨e, -⟩
  · rw [e]; exact hx
  · rw [e]; exact hL r hr
theorem upd_id (L : Nat → Int32) (k : Nat) : upd L k (L k) = L := by
  funext j
  rcases upd_cases L k (L k) j with ⟨e, ej⟩ | ⟨e, -⟩
  · rw [e, ej]
  · rw [e]
/-- shorter ropes, less or the same ways -/
theorem way_mono {L L2 : Nat → Int32} (htc : tc ≤ 12) (hrc : rc ≤ 30) (hF : okR tc rc F T) (hL : lenR rc L) (hL2 : lenR rc L2) (h : ¬ earM F T L Z tc rc 12 = -1) (h2 : ¬ earM F T L2 Z tc rc 12 = -1) (hle : ∀ r, r < rc → (L2 r).toInt ≤ (L r).toInt) {a b : Nat} (ha : a < tc) (hb : b < tc) (hn : ¬ wayM F T L Z tc rc a b = 99999) : ¬ wayM F T L2 Z tc rc a b = 99999 ∧ (wayM F T L2 Z tc rc a b).toInt ≤ (wayM F T L Z tc rc a b).toInt := by
  obtain ⟨w1, w2, w3, w4⟩ := way_all htc hrc hF hL h
  obtain ⟨v1, v2, v3, v4⟩ := way_all htc hrc hF hL2 h2
  have hclo : clo rc F T L Z (fun x => x < tc ∧ ¬ wayM F T L2 Z tc rc a x = 99999) (fun x => (wayM F T L2 Z tc rc a x).toInt) := fun r hr hz hp => by
    obtain ⟨p1, p2⟩ := v3 a ha r hr hz hp
    have := hle r hr
    exact ⟨p1, by omega⟩
  obtain ⟨q1, q2⟩ := w4 _ _ hclo a ha ⟨ha, by rw [v1 a ha]; decide⟩ b hb hn
  dsimp only at q2
  rw [v1 a ha, i_0] at q2
  exact ⟨q1.2, by omega⟩
theorem least_val {L : Nat → Int32} (htc : tc ≤ 12) (hrc : rc ≤ 30) (hF : okR tc rc F T) (hL : lenR rc L) (h : ¬ earM F T L Z tc rc 12 = -1) {a b : Nat} (ha : a < tc) (hb : b < tc) : -99 ≤ (leastG (wayM F T L Z tc rc) a b).toInt ∧ (leastG (wayM F T L Z tc rc) a b).toInt ≤ 38610 ∧ (¬ wayM F T L Z tc rc b a = 99999 → -(wayM F T L Z tc rc b a).toInt ≤ (leastG (wayM F T L Z tc rc) a b).toInt) ∧ (-99 < (leastG (wayM F T L Z tc rc) a b).toInt → ¬ wayM F T L Z tc rc b a = 99999 ∧ (leastG (wayM F T L Z tc rc) a b).toInt = -(wayM F T L Z tc rc b a).toInt) := by
  obtain ⟨w1, w2, -, -⟩ := way_all htc hrc hF hL h
  unfold leastG
  by_cases hn : wayM F T L Z tc rc b a = 99999
  · rw [if_pos hn, i_m99]
    exact ⟨by omega, by omega, fun z => absurd hn z, fun z => by omega⟩
  · rw [if_neg hn]
    have hb2 := w2 b hb a ha hn
    have hng := i_neg (x := wayM F T L Z tc rc b a) (by omega) (by omega)
    rw [i_mx, i_m99, hng]
    split
    · exact ⟨by omega, by omega, fun _ => by omega, fun _ => ⟨hn, rfl⟩⟩
    · exact ⟨by omega, by omega, fun _ => by omega, fun z => by omega⟩
theorem least_mono {L L2 : Nat → Int32} (htc : tc ≤ 12) (hrc : rc ≤ 30) (hF : okR tc rc F T) (hL : lenR rc L) (hL2 : lenR rc L2) (h : ¬ earM F T L Z tc rc 12 = -1) (h2 : ¬ earM F T L2 Z tc rc 12 = -1) (hle : ∀ r, r < rc → (L2 r).toInt ≤ (L r).toInt) {a b : Nat} (ha : a < tc) (hb : b < tc) : (leastG (wayM F T L Z tc rc) a b).toInt ≤ (leastG (wayM F T L2 Z tc rc) a b).toInt := by
  obtain ⟨a1, a2, a3, a4⟩ := least_val htc hrc hF hL h ha hb
  obtain ⟨b1, b2, b3, b4⟩ := least_val htc hrc hF hL2 h2 ha hb
  by_cases hc : -99 < (leastG (wayM F T L Z tc rc) a b).toInt
  · obtain ⟨c1, c2⟩ := a4 hc
    obtain ⟨d1, d2⟩ := way_mono htc hrc hF hL hL2 h h2 hle hb ha c1
    have := b3 d1
    omega
  · omega
theorem least_in {L : Nat → Int32} (htc : tc ≤ 12) (hrc : rc ≤ 30) (hF : okR tc rc F T) (hL : lenR rc L) (h : ¬ earM F T L Z tc rc 12 = -1) {r : Nat} (hr : r < rc) (hz : Z r = true) : -99 ≤ (leastG (wayM F T L Z tc rc) (F r) (T r)).toInt ∧ (leastG (wayM F T L Z tc rc) (F r) (T r)).toInt ≤ (L r).toInt := least_le htc hF hL (ear_ttb htc hrc hF hL h) hr hz
/-- a rope as short as its room leaves a timetable -/
theorem cut_room {L : Nat → Int32} (htc : tc ≤ 12) (hrc : rc ≤ 30) (hF : okR tc rc F T) (hL : lenR rc L) (h : ¬ earM F T L Z tc rc 12 = -1) {r : Nat} (hr : r < rc) (hz : Z r = true) : lenR rc (upd L r (leastG (wayM F T L Z tc rc) (F r) (T r))) ∧ ¬ earM F T (upd L r (leastG (wayM F T L Z tc rc) (F r) (T r))) Z tc rc 12 = -1 := by
  have hx := least_in htc hrc hF hL h hr hz
  have hl := hL r hr
  have hn := tt_new htc hF hL (ear_ttb htc hrc hF hL h) hr
  have hL2 : lenR rc (upd L r (leastG (wayM F T L Z tc rc) (F r) (T r))) := lenR_upd hL ⟨hx.1, by omega⟩ r
  exact ⟨hL2, ear_comp htc hrc hF hL2 ⟨fun v hv => (hn.1 v hv).1, hn.2⟩⟩
/-- one less, and there is none -/
theorem cut_less {L : Nat → Int32} (htc : tc ≤ 12) (hrc : rc ≤ 30) (hF : okR tc rc F T) (hL : lenR rc L) (h : ¬ earM F T L Z tc rc 12 = -1) {r : Nat} (hr : r < rc) (hz : Z r = true) (hg : -99 < (leastG (wayM F T L Z tc rc) (F r) (T r)).toInt) {L2 : Nat → Int32} (h1 : ∀ j, j < rc → ¬ j = r → L2 j = L j) (h2 : (L2 r).toInt = (leastG (wayM F T L Z tc rc) (F r) (T r)).toInt - 1) : earM F T L2 Z tc rc 12 = -1 := by
  apply Classical.byContradiction
  intro hno
  have hf := hF r hr
  have hx := least_in htc hrc hF hL h hr hz
  have hl := hL r hr
  obtain ⟨-, -, -, b4⟩ := least_val htc hrc hF hL h hf.1 hf.2
  obtain ⟨c1, c2⟩ := b4 hg
  have hL2 : lenR rc L2 := fun j hj => by
    by_cases hj2 : j = r
    · subst hj2; omega
    · rw [h1 j hj hj2]; exact hL j hj
  have ht := ear_ttb htc hrc hF hL2 hno
  obtain ⟨w1, w2, w3, w4⟩ := way_all htc hrc hF hL h
  have hclo : clo rc F T L Z (fun _ => True) (fun v => (earM F T L2 Z tc rc v).toInt) := fun j hj hjz _ => by
    have h3 := ht.2 j hj hjz
    refine ⟨trivial, ?_⟩
    dsimp only at h3 ⊢
    by_cases hj2 : j = r
    · subst hj2; omega
    · rw [h1 j hj hj2] at h3; omega
  have h5 := (w4 _ _ hclo (T r) hf.2 trivial (F r) hf.1 c1).2
  have h6 := ht.2 r hr hz
  dsimp only at h5 h6
  omega
/-- the sum of all lengths that are tied -/
def smZ (Z : Nat → Bool) (L : Nat → Int32) : Nat → Nat → Int32 → Int32
  | 0, _, k => k
  | n + 1, r, k => smZ Z L n (r + 1) (k + (if Z r = true then L r else 0))
theorem smZ_acc (Z : Nat → Bool) (L : Nat → Int32) : ∀ n r k, smZ Z L n r k = k + smZ Z L n r 0
  | 0, _, k => by
    show k = k + 0
    rw [Int32.add_zero]
  | n + 1, r, k => by
    show smZ Z L n (r + 1) _ = k + smZ Z L n (r + 1) _
    rw [smZ_acc Z L n (r + 1) (k + _), smZ_acc Z L n (r + 1) (0 + _), Int32.zero_add, Int32.add_assoc]
theorem smZ_congr (Z : Nat → Bool) {L L2 : Nat → Int32} : ∀ n r k, (∀ j, r ≤ j → j < r + n → L j = L2 j) → smZ Z L n r k = smZ Z L2 n r k
  | 0, _, _, _ => rfl
  | n + 1, r, k, h => by
    show smZ Z L n (r + 1) _ = smZ Z L2 n (r + 1) _
    rw [h r (by omega) (by omega)]
    exact smZ_congr Z n (r + 1) _ (fun j h1 h2 => h j (by omega) (by omega))
theorem tg_all (htc : tc ≤ 12) (hrc : rc ≤ 30) (hF : okR tc rc F T) : ∀ (n r : Nat) (sm : Int32) (L : Nat → Int32), r + n = rc → lenR rc L → ¬ earM F T L Z tc rc 12 = -1 → (∀ j, j < r → Z j = true → leastG (wayM F T L Z tc rc) (F j) (T j) = L j) →
    lenR rc (tgM F T Z tc rc n r sm L).2 ∧ ¬ earM F T (tgM F T Z tc rc n r sm L).2 Z tc rc 12 = -1 ∧ (∀ j, j < rc → ((tgM F T Z tc rc n r sm L).2 j).toInt ≤ (L j).toInt) ∧ (∀ j, j < r → (tgM F T Z tc rc n r sm L).2 j = L j) ∧
    (∀ j, j < rc → Z j = true → leastG (wayM F T (tgM F T Z tc rc n r sm L).2 Z tc rc) (F j) (T j) = (tgM F T Z tc rc n r sm L).2 j) ∧ (tgM F T Z tc rc n r sm L).1 = sm + (smZ Z L n r 0 - smZ Z (tgM F T Z tc rc n r sm L).2 n r 0)
  | 0, r, sm, L, hm, hL, h, hj => ⟨hL, h, fun _ _ => Int.le_refl _, fun _ _ => rfl, fun j h1 h2 => hj j (by omega) h2, by
    show sm = sm + (0 - 0)
    rw [Int32.sub_self, Int32.add_zero]⟩
  | n + 1, r, sm, L, hm, hL, h, hj => by
    have hr : r < rc := by omega
    have hf := hF r hr
    unfold tgM
    by_cases hz : Z r = true
    · rw [if_pos hz]
      have hx := least_in htc hrc hF hL h hr hz
      obtain ⟨hL2, h2⟩ := cut_room htc hrc hF hL h hr hz
      generalize hxx : leastG (wayM F T L Z tc rc) (F r) (T r) = x at *
      have hle : ∀ j, j < rc → (upd L r x j).toInt ≤ (L j).toInt := fun j hj2 => by
        rcases upd_cases L r x j with ⟨e, ej⟩ | ⟨e, -⟩
        · rw [e, ej]; exact hx.2
        · rw [e]; exact Int.le_refl _
      have hj2 : ∀ j, j < r + 1 → Z j = true → leastG (wayM F T (upd L r x) Z tc rc) (F j) (T j) = upd L r x j := fun j hjl hjz => by
        have hfj := hF j (by omega)
        have m1 := least_mono htc hrc hF hL hL2 h h2 hle hfj.1 hfj.2
        have m2 := least_in htc hrc hF hL2 h2 (show j < rc by omega) hjz
        rw [i_eq]
        rcases upd_cases L r x j with ⟨e, ej⟩ | ⟨e, ej⟩
        · subst ej
          rw [e] at m2 ⊢
          rw [hxx] at m1
          omega
        · have := hj j (by omega) hjz
          rw [this] at m1
          rw [e] at m2 ⊢
          omega
      obtain ⟨i1, i2, i3, i4, i5, i6⟩ := tg_all htc hrc hF n (r + 1) (sm + (L r - x)) (upd L r x) (by omega) hL2 h2 hj2
      refine ⟨i1, i2, fun j hj3 => Int.le_trans (i3 j hj3) (hle j hj3), fun j hj3 => (i4 j (by omega)).trans (pk_un (by omega)), i5, ?_⟩
      rw [i6]
      have e1 : smZ Z (upd L r x) n (r + 1) 0 = smZ Z L n (r + 1) 0 := smZ_congr Z n (r + 1) 0 (fun j j1 j2 => pk_un (by omega))
      have e2 := i4 r (by omega)
      have e3 : upd L r x r = x := pk_us
      generalize (tgM F T Z tc rc n (r + 1) (sm + (L r - x)) (upd L r x)).2 = L9 at *
      show _ = sm + (smZ Z L n (r + 1) (0 + (if Z r = true then L r else 0)) - smZ Z L9 n (r + 1) (0 + (if Z r = true then L9 r else 0)))
      rw [smZ_acc Z L n (r + 1) (0 + _), smZ_acc Z L9 n (r + 1) (0 + _), if_pos hz, if_pos hz, e1, e2, e3]
      generalize smZ Z L n (r + 1) 0 = A
      generalize smZ Z L9 n (r + 1) 0 = B
      generalize L r = y
      grind
    · rw [if_neg hz]
      obtain ⟨i1, i2, i3, i4, i5, i6⟩ := tg_all htc hrc hF n (r + 1) sm L (by omega) hL h (fun j hjl hjz => by
        by_cases hj2 : j = r
        · subst hj2; exact absurd hjz hz
        · exact hj j (by omega) hjz)
      refine ⟨i1, i2, i3, fun j hj3 => i4 j (by omega), i5, ?_⟩
      rw [i6]
      generalize (tgM F T Z tc rc n (r + 1) sm L).2 = L9
      show _ = sm + (smZ Z L n (r + 1) (0 + (if Z r = true then L r else 0)) - smZ Z L9 n (r + 1) (0 + (if Z r = true then L9 r else 0)))
      rw [if_neg hz, if_neg hz, Int32.zero_add]
theorem tg_idle : ∀ (n r : Nat) (sm : Int32) (L : Nat → Int32), r + n = rc → (∀ j, j < rc → Z j = true → leastG (wayM F T L Z tc rc) (F j) (T j) = L j) → tgM F T Z tc rc n r sm L = (sm, L)
  | 0, _, _, _, _, _ => rfl
  | n + 1, r, sm, L, hm, h => by
    unfold tgM
    by_cases hz : Z r = true
    · rw [if_pos hz, h r (by omega) hz, Int32.sub_self, Int32.add_zero, upd_id]
      exact tg_idle n (r + 1) sm L (by omega) h
    · rw [if_neg hz]
      exact tg_idle n (r + 1) sm L (by omega) h
/-- all tightened, in one -/
theorem tight_all {L : Nat → Int32} {ro : Int32} {E B : Nat → Int32} (hI : xInv tc rc F T L Z ro E B) (hro : ¬ ro = -1) {L' : Nat → Int32} {ro' : Int32} {E' B' : Nat → Int32} {s : Int32} (he : tightA F T Z tc rc (L, ro, E, B) = (s, L', ro', E', B')) :
    xInv tc rc F T L' Z ro' E' B' ∧ ¬ ro' = -1 ∧ (∀ r, r < rc → Z r = true → leastF B' (F r) (T r) = L' r) ∧ s = smZ Z L rc 0 0 - smZ Z L' rc 0 0 ∧ (∀ v, v < tc → ¬ E' v < E v) ∧ (tightA F T Z tc rc (L', ro', E', B')).1 = 0 ∧ (tightA F T Z tc rc (L', ro', E', B')).2.1 = L' := by
  obtain ⟨q1, q2, q3⟩ := q_tight hI
  rw [he] at q1 q2 q3
  obtain ⟨htc, hrc, hF, hL, e1, e2, e3⟩ := id hI
  have h : ¬ earM F T L Z tc rc 12 = -1 := by rw [← e1]; exact hro
  obtain ⟨i1, i2, i3, -, i5, i6⟩ := tg_all (Z := Z) htc hrc hF rc 0 0 L (by omega) hL h (fun j hj => absurd hj (Nat.not_lt_zero j))
  have hg : tgA F T Z tc rc L = tgM F T Z tc rc rc 0 0 L := by
    unfold tgA
    rw [if_neg h]
  rw [hg] at q1 q2
  dsimp only at q1 q2 q3
  rw [← q2] at i1 i2 i3 i5 i6
  have hro' : ¬ ro' = -1 := by rw [q3.2.2.2.2.1]; exact i2
  have hg2 : tgA F T Z tc rc L' = (0, L') := by
    unfold tgA
    rw [if_neg i2]
    exact tg_idle rc 0 0 L' (by omega) i5
  obtain ⟨p1, p2, -⟩ := q_tight q3
  refine ⟨q3, hro', fun r hr hz => ?_, ?_, fun v hv => ?_, ?_, ?_⟩
  · have hf := hF r hr
    rw [← q_room q3 hro' hf.1 hf.2]
    exact i5 r hr hz
  · rw [q1, i6, Int32.zero_add]
  · rw [i_lt, e2 v hv, q3.2.2.2.2.2.1 v hv]
    have ht := ear_ttb htc hrc hF i1 i2
    have := ear_le htc hrc hF hL (A := Z) (t0 := fun v => (earM F T L' Z tc rc v).toInt) ⟨fun v hv => (ht.1 v hv).1, fun r hr hz => Int.le_trans (ht.2 r hr hz) (i3 r hr)⟩ v hv
    omega
  · rw [p1, hg2]
  · rw [p2, hg2]
end TI
