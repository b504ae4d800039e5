/-! the reference's rows of numbers, its grid, its loops as functions -/
def mkM (F T : Nat → Nat) (L : Nat → Int32) (Z : Nat → Bool) : Nat → Int32 := fun j => if j % 4 = 0 then nI (F (j / 4)) else if j % 4 = 1 then nI (T (j / 4)) else if j % 4 = 2 then L (j / 4) else bI (Z (j / 4))
theorem mkM_0 (F T : Nat → Nat) (L : Nat → Int32) (Z : Nat → Bool) (r : Nat) : mkM F T L Z (4 * r + 0) = nI (F r) := by
  unfold mkM
  rw [if_pos (by omega), show (4 * r + 0) / 4 = r by omega]
theorem mkM_1 (F T : Nat → Nat) (L : Nat → Int32) (Z : Nat → Bool) (r : Nat) : mkM F T L Z (4 * r + 1) = nI (T r) := by
  unfold mkM
  rw [if_neg (by omega), if_pos (by omega), show (4 * r + 1) / 4 = r by omega]
theorem mkM_2 (F T : Nat → Nat) (L : Nat → Int32) (Z : Nat → Bool) (r : Nat) : mkM F T L Z (4 * r + 2) = L r := by
  unfold mkM
  rw [if_neg (by omega), if_neg (by omega), if_pos (by omega), show (4 * r + 2) / 4 = r by omega]
theorem mkM_3 (F T : Nat → Nat) (L : Nat → Int32) (Z : Nat → Bool) (r : Nat) : mkM F T L Z (4 * r + 3) = bI (Z r) := by
  unfold mkM
  rw [if_neg (by omega), if_neg (by omega), if_neg (by omega), show (4 * r + 3) / 4 = r by omega]
theorem mkM_L (F T : Nat → Nat) (L : Nat → Int32) (Z : Nat → Bool) (r : Nat) (x : Int32) : upd (mkM F T L Z) (4 * r + 2) x = mkM F T (upd L r x) Z := by
  funext j
  unfold upd
  by_cases h : j = 4 * r + 2
  · rw [if_pos h, h]
    unfold mkM
    rw [if_neg (by omega), if_neg (by omega), if_pos (by omega)]
    show x = if _ then x else _
    rw [if_pos (by omega)]
  · rw [if_neg h]
    unfold mkM
    by_cases h2 : j % 4 = 2
    · rw [if_neg (by omega), if_neg (by omega), if_pos h2, if_neg (by omega), if_neg (by omega), if_pos h2]
      show _ = if _ then x else _
      rw [if_neg (by omega)]
    · simp [h2]
theorem mkM_Z (F T : Nat → Nat) (L : Nat → Int32) (Z : Nat → Bool) (r : Nat) (x : Bool) : upd (mkM F T L Z) (4 * r + 3) (bI x) = mkM F T L (updB Z r x) := by
  funext j
  unfold upd
  by_cases h : j = 4 * r + 3
  · rw [if_pos h, h]
    unfold mkM updB
    rw [if_neg (by omega), if_neg (by omega), if_neg (by omega), if_pos (by omega)]
  · rw [if_neg h]
    unfold mkM updB
    by_cases h2 : j % 4 = 3
    · rw [if_neg (by omega), if_neg (by omega), if_neg (by omega), if_neg (by omega), if_neg (by omega), if_neg (by omega), if_neg (by omega)]
    · by_cases h0 : j % 4 = 0
      · simp [h0]
      · by_cases h1 : j % 4 = 1
        · simp [h1]
        · have h2 : j % 4 = 2 := by omega
          simp [h2]
theorem mkM_new : (fun _ => 0 : Nat → Int32) = mkM (fun _ => 0) (fun _ => 0) (fun _ => 0) (fun _ => false) := by
  funext j
  unfold mkM
  split
  · rfl
  · split
    · rfl
    · split <;> rfl
theorem mkM_tie (F T : Nat → Nat) (L : Nat → Int32) (Z : Nat → Bool) (rc a b : Nat) (w : Int32) (f : Nat → Int32) (h0 : f 0 = nI a) (h1 : f 1 = nI b) (h2 : f 2 = w) (h3 : f 3 = 1) : va_cpy f (mkM F T L Z) 0 (4 * rc) 4 = mkM (updN F rc a) (updN T rc b) (upd L rc w) (updB Z rc true) := by
  funext j
  by_cases h : 4 * rc ≤ j ∧ j < 4 * rc + 4
  · rw [pk_cpy_in h.1 h.2]
    rcases (by omega : j = 4 * rc + 0 ∨ j = 4 * rc + 1 ∨ j = 4 * rc + 2 ∨ j = 4 * rc + 3) with e | e | e | e
    · rw [e, mkM_0, show 0 + (4 * rc + 0 - 4 * rc) = 0 by omega, h0]; simp [updN]
    · rw [e, mkM_1, show 0 + (4 * rc + 1 - 4 * rc) = 1 by omega, h1]; simp [updN]
    · rw [e, mkM_2, show 0 + (4 * rc + 2 - 4 * rc) = 2 by omega, h2]; simp [upd]
    · rw [e, mkM_3, show 0 + (4 * rc + 3 - 4 * rc) = 3 by omega, h3]; simp [updB, bI]
  · rw [pk_cpy_out (by omega)]
    unfold mkM updN upd updB
    have hj : ¬ j / 4 = rc := by omega
    simp [hj]
theorem bI_not (b : Bool) : 1 - bI b = bI (!b) := by cases b <;> rfl
theorem updB_same {Z : Nat → Bool} {r : Nat} (x : Bool) (h : Z r = true) : updB (updB Z r x) r true = Z := by
  funext j
  unfold updB
  by_cases hj : j = r
  · rw [if_pos hj, hj, h]
  · rw [if_neg hj, if_neg hj]
theorem isIn_inB (x : Int32) (n : Nat) (hn : n < 2147483648) : (!(decide (x < 0)) && !(decide (nI n - 1 < x))) = inB x n := by
  unfold inB
  by_cases h : x < 0
  · simp [h]
  · obtain ⟨j, hj, rfl⟩ := nI_of h
    have h0 : ¬ nI j < 0 := h
    have e2 : (nI j < nI n) = (j < n) := propext (nI_ltI hj hn)
    cases n with
    | zero =>
      have e1 : nI 0 - 1 < nI j := by
        rw [Int32.lt_iff_toInt_lt]
        have : (nI 0 - 1 : Int32).toInt = -1 := by decide
        rw [this, nI_toInt hj]
        omega
      simp [h0, e1, e2]
    | succ n =>
      rw [nI_pred]
      have e1 : (nI n < nI j) = (n < j) := propext (nI_ltI (by omega) hj)
      by_cases hjn : j < n + 1
      · have h3 : ¬ n < j := by omega
        simp only [e1, e2, decide_eq_false h0, decide_eq_true hjn, decide_eq_false h3]; rfl
      · have h3 : n < j := by omega
        simp only [e1, e2, decide_eq_false h0, decide_eq_false hjn, decide_eq_true h3]; rfl
/-! the grid -/
abbrev xGo (cG : ClassId) (q : Nat) (r : Nat → Nat) : Nat × va_E := (q, .inl (cG, 12, .inr (.inr (.inr (.inr (fun i => if i < 12 then some (r i) else none))))))
def xGr (cI : ClassId) (r : Nat → Nat) (M : Nat → Nat → Int32) : va_W := (List.range 12).map (fun i => (r i, .inl (cI, 12, .inl (M i))))
def updG (M : Nat → Nat → Int32) (a b : Nat) (x : Int32) : Nat → Nat → Int32 := fun i => if i = a then upd (M i) b x else M i
theorem xGr_get {X : va_W} {cI : ClassId} {r : Nat → Nat} {M : Nat → Nat → Int32} {i : Nat} (h : i < 12) : (X ++ xGr cI r M)[X.length + i]? = some (r i, .inl (cI, 12, .inl (M i))) := by
  rw [List.getElem?_append_right (by omega), Nat.add_sub_cancel_left]
  unfold xGr
  rw [List.getElem?_map, List.getElem?_range h]
  rfl
theorem xGr_set {X : va_W} {cI : ClassId} {r : Nat → Nat} {M : Nat → Nat → Int32} {i j : Nat} {x : Int32} (h : i < 12) : (X ++ xGr cI r M).set (X.length + i) (r i, .inl (cI, 12, .inl (upd (M i) j x))) = X ++ xGr cI r (updG M i j x) := by
  rw [List.set_append_right _ _ (by omega), Nat.add_sub_cancel_left]
  congr 1
  apply List.ext_getElem?
  intro k
  unfold xGr
  rw [List.getElem?_set, List.getElem?_map, List.getElem?_map, List.length_map, List.length_range]
  by_cases hk : i = k
  · subst hk
    rw [if_pos rfl, if_pos h, List.getElem?_range h]
    simp [updG]
  · rw [if_neg hk]
    by_cases h2 : k < 12
    · rw [List.getElem?_range h2]
      have hk2 : ¬ k = i := fun z => hk z.symm
      simp [updG, hk2]
    · rw [List.getElem?_eq_none (by rw [List.length_range]; omega)]
      rfl
def gRow (a : Nat) : Nat → Nat → (Nat → Nat → Int32) → Nat → Nat → Int32
  | 0, _, M => M
  | n + 1, b, M => gRow a n (b + 1) (updG M a b (if a = b then 0 else 99999))
def gIni : Nat → Nat → (Nat → Nat → Int32) → Nat → Nat → Int32
  | 0, _, M => M
  | n + 1, a, M => gIni n (a + 1) (gRow a 12 0 M)
def gRop (F T : Nat → Nat) (L : Nat → Int32) (Z : Nat → Bool) : Nat → Nat → (Nat → Nat → Int32) → Nat → Nat → Int32
  | 0, _, M => M
  | n + 1, r, M => gRop F T L Z n (r + 1) (if Z r = true then updG M (F r) (T r) (mnI (M (F r) (T r)) (L r)) else M)
def gB (v a : Nat) : Nat → Nat → (Nat → Nat → Int32) → Nat → Nat → Int32
  | 0, _, M => M
  | n + 1, b, M => gB v a n (b + 1) (if ¬ M a v = 99999 ∧ ¬ M v b = 99999 then updG M a b (mnI (M a b) (M a v + M v b)) else M)
def gA (v tc : Nat) : Nat → Nat → (Nat → Nat → Int32) → Nat → Nat → Int32
  | 0, _, M => M
  | n + 1, a, M => gA v tc n (a + 1) (gB v a tc 0 M)
def gV (tc : Nat) : Nat → Nat → (Nat → Nat → Int32) → Nat → Nat → Int32
  | 0, _, M => M
  | n + 1, v, M => gV tc n (v + 1) (gA v tc tc 0 M)
def wayM (F T : Nat → Nat) (L : Nat → Int32) (Z : Nat → Bool) (tc rc : Nat) : Nat → Nat → Int32 := gV tc tc 0 (gRop F T L Z rc 0 (gIni 12 0 (fun _ _ => 0)))
def leastG (M : Nat → Nat → Int32) (a b : Nat) : Int32 := if M b a = 99999 then -99 else mxI (-99) (-(M b a))
def rndM (F T : Nat → Nat) (L : Nat → Int32) (A : Nat → Bool) (rc : Nat) : Nat → Nat → (Nat → Int32) → Nat → Int32
  | 0, _, E => E
  | n + 1, k, E => if (passF F T L A rc 0 E false).2 = true then rndM F T L A rc n (k + 1) (passF F T L A rc 0 E false).1 else upd (passF F T L A rc 0 E false).1 12 (nI (k + 1))
def earM (F T : Nat → Nat) (L : Nat → Int32) (A : Nat → Bool) (tc rc : Nat) : Nat → Int32 := rndM F T L A rc (tc + 1) 0 (upd (fun _ => 0) 12 (-1))
def rgS (st : Nat) : Nat → Nat → (Nat → Int32) → Nat → Int32
  | 0, _, S => S
  | n + 1, i, S => rgS st n (i + 1) (upd S i (if i = st then 0 else 99999))
def rgN (F T : Nat → Nat) (L : Nat → Int32) (Z : Nat → Bool) (rc : Nat) (S : Nat → Int32) : Nat → Int32 := goW F T L Z S rc 0 (fillF 99999 12 0 (fun _ => 0))
def rgM (F T : Nat → Nat) (L : Nat → Int32) (Z : Nat → Bool) (rc st : Nat) : Nat → Nat → Nat → (Nat → Int32) → Nat
  | 0, _, best, _ => best
  | n + 1, k, best, S => if best = 0 ∨ k < best then rgM F T L Z rc st n (k + 1) (if rgN F T L Z rc S st < 0 then k else best) (rgN F T L Z rc S) else best
def rgA (F T : Nat → Nat) (L : Nat → Int32) (Z : Nat → Bool) (tc rc : Nat) : Nat → Nat → Nat → Nat
  | 0, _, best => best
  | n + 1, st, best => rgA F T L Z tc rc n (st + 1) (rgM F T L Z rc st tc 1 best (rgS st 12 0 (fun _ => 0)))
def ringM (F T : Nat → Nat) (L : Nat → Int32) (Z : Nat → Bool) (tc rc : Nat) : Nat := rgA F T L Z tc rc tc 0 0
theorem rgM_le (F T : Nat → Nat) (L : Nat → Int32) (Z : Nat → Bool) (rc st : Nat) : ∀ n k best S, best ≤ 13 → k + n ≤ 13 → rgM F T L Z rc st n k best S ≤ 13
  | 0, _, _, _, h, _ => h
  | n + 1, k, best, S, h, h2 => by
    unfold rgM
    split
    · refine rgM_le F T L Z rc st n (k + 1) _ _ ?_ (by omega)
      split <;> omega
    · exact h
def sumB (Z : Nat → Bool) : Nat → Nat → Int32 → Int32
  | 0, _, k => k
  | n + 1, i, k => sumB Z n (i + 1) (k + bI (Z i))
def cntM (E : Nat → Int32) (F T : Nat → Nat) (L : Nat → Int32) (Z : Nat → Bool) (tc rc w : Nat) : Int32 :=
  if w = 0 then nI tc else if w = 1 then nI rc else if w = 2 then sumB Z rc 0 0 else if w = 3 then E 12 else if w = 4 then (if E 12 = -1 then -1 else lastF E tc 0 0) else if w = 5 then nI (countF (tightB (E 12) E F T L Z) rc 0 0) else nI (ringM F T L Z tc rc)
def lateG (M : Nat → Nat → Int32) (w : Nat) : Nat → Nat → Int32 → Int32
  | 0, _, la => la
  | n + 1, i, la => lateG M w n (i + 1) (mnI la (M i w))
def tgM (F T : Nat → Nat) (Z : Nat → Bool) (tc rc : Nat) : Nat → Nat → Int32 → (Nat → Int32) → Int32 × (Nat → Int32)
  | 0, _, sm, L => (sm, L)
  | n + 1, r, sm, L => if Z r = true then tgM F T Z tc rc n (r + 1) (sm + (L r - leastG (wayM F T L Z tc rc) (F r) (T r))) (upd L r (leastG (wayM F T L Z tc rc) (F r) (T r))) else tgM F T Z tc rc n (r + 1) sm L
def tgA (F T : Nat → Nat) (Z : Nat → Bool) (tc rc : Nat) (L : Nat → Int32) : Int32 × (Nat → Int32) := if earM F T L Z tc rc 12 = -1 then (0, L) else tgM F T Z tc rc rc 0 0 L
def adM (F T : Nat → Nat) (L : Nat → Int32) (Z : Nat → Bool) (tc rc : Nat) : Nat → Nat → Int32 → Int32 → Int32
  | 0, _, best, _ => best
  | n + 1, r, best, least =>
    if Z r = true then
      (if earM F T L (updB Z r false) tc rc 12 = -1 then adM F T L Z tc rc n (r + 1) best least
       else if lastF (earM F T L (updB Z r false) tc rc) tc 0 0 < least then adM F T L Z tc rc n (r + 1) (nI r) (lastF (earM F T L (updB Z r false) tc rc) tc 0 0)
       else adM F T L Z tc rc n (r + 1) best least)
    else adM F T L Z tc rc n (r + 1) best least
def advM (F T : Nat → Nat) (L : Nat → Int32) (Z : Nat → Bool) (tc rc : Nat) : Int32 := adM F T L Z tc rc rc 0 (-1) (if earM F T L Z tc rc 12 = -1 then 2147483647 else lastF (earM F T L Z tc rc) tc 0 0)
def dgM (F T : Nat → Nat) (L : Nat → Int32) (Z : Nat → Bool) (tc rc : Nat) : Int64 :=
  dgD (toldF (earM F T L Z tc rc 12) (earM F T L Z tc rc) F T L Z) 5 rc 0 (dgD (aboutF (earM F T L Z tc rc 12) (earM F T L Z tc rc) F T Z rc) 3 tc 0 (dgS (cntM (earM F T L Z tc rc) F T L Z tc rc) 7 0 1553))
def dgMF (F T : Nat → Nat) (L : Nat → Int32) (Z : Nat → Bool) (tc rc : Nat) : Int64 := if earM F T L Z tc rc 12 = -1 then dgM F T L Z tc rc else dgD (fun a b => wayM F T L Z tc rc a b) tc tc 0 (dgM F T L Z tc rc)
theorem aoT : xTrav (va_AOA .int) := fun u U hv _ h => va_AOA.moved (by rw [hv]; exact Vm.Alike.refl _) h
section XG
variable {p : Program} {l : Launch} {e : Env} {R : Room} {s : State} {m : MethodId} {args : Array Value} {below : List Frame} {meth : Method} {c : Code} {H : Heap} {locs : List Loc} {cells slots : Nat} {Q : State → Prop}
variable {cc : ByteArray} {pc : Nat} {ls : Array Slot} {rest st0 : List Value} {D : va_G} {cl : List vw_C} {A0 A : Nat → Prop} {a : Nat} {tys : List (ClassId × FieldType)} {ws : va_W} {H0 : Heap} {X : va_W} {cI : ClassId} {r : Nat → Nat} {M : Nat → Nat → Int32}
theorem x_gld (hexec : p.tables.exec = Jvm.exec) (hb : c.code = cc) (hK : va_K D cl tys s) (hP : va_P D cl (X ++ xGr cI r M) H) (t0 : Nat) (ht : tys[t0]? = some (cI, .int)) {i j : Nat} (hi : i < 12) (hj : j < 12) (hdg : decode cc pc = .ok (.iaload, 1))
    (kk : W p l e R s m args below meth c H locs cells slots Q (F0 m (pc + 1) ls (.int (M i j) :: rest))) : W p l e R s m args below meth c H locs cells slots Q (F0 m pc ls (.int (nI j) :: .ref (r i) :: rest)) :=
  x_iald hexec hb hK hP (X.length + i) t0 (xGr_get hi) ht hj (Nat.le_of_ble_eq_true rfl) hdg kk
theorem x_gst (hexec : p.tables.exec = Jvm.exec) (hb : c.code = cc) (hK : va_K D cl tys s) (hP : va_P D cl (X ++ xGr cI r M) H) (hD : va_D A (X ++ xGr cI r M)) (hS : va_S A H0 H locs) (t0 : Nat) (ht : tys[t0]? = some (cI, .int)) {i j : Nat} {x : Int32} (hi : i < 12) (hj : j < 12) (hdg : decode cc pc = .ok (.iastore, 1))
    (kk : ∀ (H1 : Heap) (locs1 : List Loc), va_P D cl (X ++ xGr cI r (updG M i j x)) H1 → va_D A (X ++ xGr cI r (updG M i j x)) → va_S A H0 H1 locs1 → W p l e R s m args below meth c H1 locs1 cells slots Q (F0 m (pc + 1) ls rest)) : W p l e R s m args below meth c H locs cells slots Q (F0 m pc ls (.int x :: .int (nI j) :: .ref (r i) :: rest)) :=
  x_iast hexec hb hK hP hD hS (X.length + i) t0 _ (xGr_get hi) ht (xGr_set hi) hj (Nat.le_of_ble_eq_true rfl) hdg kk
end XG
