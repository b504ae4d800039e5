/-! the law's own mill: an object, an array of rows, rows of four numbers; grids -/
def rfs (m : Nat) (p : Nat → Nat) : Nat → Option Nat := fun i => if i < m then some (p i) else none
abbrev xSim (g n q : Nat) : Nat × va_E := (g, .inr (1, [.int (nI n), .ref q]))
abbrev xRf (cG : ClassId) (q m : Nat) (f : Nat → Option Nat) : Nat × va_E := (q, .inl (cG, m, .inr (.inr (.inr (.inr f)))))
def xGr (cI : ClassId) (p : Nat → Nat) (k n : Nat) (M : Nat → Nat → Int32) : va_W := (List.range k).map (fun i => (p i, .inl (cI, n, .inl (M i))))
def updG (M : Nat → Nat → Int32) (a b : Nat) (x : Int32) : Nat → Nat → Int32 := fun i => if i = a then upd (M i) b x else M i
def row4 (F T : Nat → Nat) (L : Nat → Int32) (Z : Nat → Bool) : Nat → Nat → Int32 := fun r j => if j = 0 then nI (F r) else if j = 1 then nI (T r) else if j = 2 then L r else if j = 3 then bI (Z r) else 0
theorem row4_L (F T : Nat → Nat) (L : Nat → Int32) (Z : Nat → Bool) (r : Nat) (x : Int32) : updG (row4 F T L Z) r 2 x = row4 F T (upd L r x) Z := by
  funext i j
  unfold updG upd row4
  by_cases h : i = r
  · subst h
    by_cases h2 : j = 2
    · subst h2; simp
    · simp [h2]
  · simp [h]
theorem row4_Z (F T : Nat → Nat) (L : Nat → Int32) (Z : Nat → Bool) (r : Nat) (x : Bool) : updG (row4 F T L Z) r 3 (bI x) = row4 F T L (updB Z r x) := by
  funext i j
  unfold updG upd row4 updB
  by_cases h : i = r
  · subst h
    by_cases h2 : j = 3
    · subst h2; simp
    · simp [h2]
  · simp [h]
theorem row4_new (F T : Nat → Nat) (L : Nat → Int32) (Z : Nat → Bool) (m a b : Nat) (w : Int32) (z : Bool) {f : Nat → Int32} (h0 : f 0 = nI a) (h1 : f 1 = nI b) (h2 : f 2 = w) (h3 : f 3 = bI z) (h4 : ∀ j, 4 ≤ j → f j = 0) : (fun i => if i = m then f else row4 F T L Z i) = row4 (updN F m a) (updN T m b) (upd L m w) (updB Z m z) := by
  funext i j
  by_cases h : i = m
  · subst h
    rw [if_pos rfl]
    unfold row4 updN upd updB
    rcases (by omega : j = 0 ∨ j = 1 ∨ j = 2 ∨ j = 3 ∨ 4 ≤ j) with rfl | rfl | rfl | rfl | hj
    · simp [h0]
    · simp [h1]
    · simp [h2]
    · simp [h3]
    · rw [h4 j hj, if_neg (by omega), if_neg (by omega), if_neg (by omega), if_neg (by omega)]
  · rw [if_neg h]
    unfold row4 updN upd updB
    simp [h]
theorem bI_not (b : Bool) : 1 - bI b = bI (!b) := by cases b <;> rfl
theorem rfs_at {m i : Nat} {p : Nat → Nat} (h : i < m) : rfs m p i = some (p i) := if_pos h
/-- one more reference -/
theorem rfs_up (k : Nat) (p : Nat → Nat) (v : Nat) : va_up (rfs k p) k (some v) = rfs (k + 1) (updN p k v) := by
  funext j
  unfold va_up rfs updN
  by_cases h : j = k
  · subst h; simp
  · rw [if_neg h]
    by_cases h2 : j < k
    · rw [if_pos h2, if_pos (by omega), if_neg h]
    · rw [if_neg h2, if_neg (by omega)]
theorem rfs_up' (k : Nat) (p : Nat → Nat) : va_up (rfs k p) k (some (p k)) = rfs (k + 1) p := by
  rw [rfs_up]
  congr 1
  funext j
  unfold updN
  split
  · rename_i h; rw [h]
  · rfl
theorem rfs_0 (p : Nat → Nat) : (fun _ => none : Nat → Option Nat) = rfs 0 p := by
  funext j
  unfold rfs
  rw [if_neg (Nat.not_lt_zero j)]
theorem xGr_0 (cI : ClassId) (p : Nat → Nat) (n : Nat) (M : Nat → Nat → Int32) : xGr cI p 0 n M = [] := rfl
theorem xGr_congr {cI : ClassId} {p p' : Nat → Nat} {k n : Nat} {M M' : Nat → Nat → Int32} (hp : ∀ i, i < k → p i = p' i) (hM : ∀ i, i < k → M i = M' i) : xGr cI p k n M = xGr cI p' k n M' := by
  unfold xGr
  apply List.map_congr_left
  intro i hi
  have := List.mem_range.mp hi
  rw [hp i this, hM i this]
theorem xGr_up (cI : ClassId) (p : Nat → Nat) (k n v : Nat) (M : Nat → Nat → Int32) (f : Nat → Int32) : xGr cI p k n M ++ [(v, .inl (cI, n, .inl f))] = xGr cI (updN p k v) (k + 1) n (fun i => if i = k then f else M i) := by
  unfold xGr
  rw [List.range_succ, List.map_append]
  congr 1
  · apply List.map_congr_left
    intro i hi
    have := List.mem_range.mp hi
    have hne : ¬ i = k := by omega
    simp [updN, hne]
  · simp [updN]
theorem xGr_up' (cI : ClassId) (p : Nat → Nat) (k n v : Nat) (M : Nat → Nat → Int32) : xGr cI p k n M ++ [(v, .inl (cI, n, .inl (M k)))] = xGr cI (updN p k v) (k + 1) n M := by
  rw [xGr_up]
  refine xGr_congr (fun _ _ => rfl) (fun i _ => ?_)
  split
  · rename_i h; rw [h]
  · rfl
theorem xGr_get {cI : ClassId} {p : Nat → Nat} {k n : Nat} {M : Nat → Nat → Int32} {i : Nat} (h : i < k) : (xGr cI p k n M)[i]? = some (p i, .inl (cI, n, .inl (M i))) := by
  unfold xGr
  rw [List.getElem?_map, List.getElem?_range h]
  rfl
theorem xGr_set {cI : ClassId} {p : Nat → Nat} {k n : Nat} {M : Nat → Nat → Int32} {i j : Nat} {x : Int32} (h : i < k) : (xGr cI p k n M).set i (p i, .inl (cI, n, .inl (upd (M i) j x))) = xGr cI p k n (updG M i j x) := by
  apply List.ext_getElem?
  intro a
  unfold xGr
  rw [List.getElem?_set, List.getElem?_map, List.getElem?_map, List.length_map, List.length_range]
  by_cases ha : i = a
  · subst ha
    rw [if_pos rfl, if_pos h, List.getElem?_range h]
    simp [updG]
  · rw [if_neg ha]
    by_cases h2 : a < k
    · rw [List.getElem?_range h2]
      have h3 : ¬ a = i := fun z => ha z.symm
      simp [updG, h3]
    · rw [List.getElem?_eq_none (by rw [List.length_range]; omega)]
      rfl
theorem sg_fl : ∀ (segs : List va_W) (j : Nat) {g : va_W} {i : Nat} {q : Nat × va_E}, segs[j]? = some g → g[i]? = some q → ∃ q0, segs.flatten[q0]? = some q ∧ ∀ q', segs.flatten.set q0 q' = (segs.set j (g.set i q')).flatten
  | [], j, g, i, q, h, _ => by simp at h
  | g0 :: t, 0, g, i, q, h, h2 => by
    have e : g0 = g := by simpa using h
    subst e
    have hi : i < g0.length := (List.getElem?_eq_some_iff.mp h2).1
    refine ⟨i, ?_, fun q' => ?_⟩
    · rw [List.flatten_cons, List.getElem?_append_left hi]
      exact h2
    · rw [List.flatten_cons, List.set_append_left _ _ hi]
      rfl
  | g0 :: t, j + 1, g, i, q, h, h2 => by
    obtain ⟨q0, a1, a2⟩ := sg_fl t j (g := g) (i := i) (q := q) (by simpa using h) h2
    refine ⟨g0.length + q0, ?_, fun q' => ?_⟩
    · rw [List.flatten_cons, List.getElem?_append_right (by omega), Nat.add_sub_cancel_left]
      exact a1
    · rw [List.flatten_cons, List.set_append_right _ _ (by omega), Nat.add_sub_cancel_left, a2 q']
      rfl
theorem sg_get {segs : List va_W} (j : Nat) {g : va_W} {i : Nat} {q : Nat × va_E} (h : segs[j]? = some g) (h2 : g[i]? = some q) : ∃ q0, (wj segs)[q0]? = some q ∧ ∀ q', (wj segs).set q0 q' = wj (segs.set j (g.set i q')) := by
  obtain ⟨q0, a1, a2⟩ := sg_fl segs j h h2
  refine ⟨q0, by rw [wj_fl]; exact a1, fun q' => by rw [wj_fl, wj_fl]; exact a2 q'⟩
theorem sg_ex {segs : List va_W} (j : Nat) {g : va_W} {i : Nat} {q : Nat × va_E} (h : segs[j]? = some g) (h2 : g[i]? = some q) : ∃ q0 : Nat, (wj segs)[q0]? = some q := by
  obtain ⟨q0, a1, -⟩ := sg_get j h h2
  exact ⟨q0, a1⟩
theorem xw_app3P {D : va_G} {cl : List vw_C} {H : Heap} {a b c : List va_W} (h : va_P D cl ((wj a ++ wj b) ++ wj c) H) : va_P D cl (wj (a ++ (b ++ c))) H := by
  rw [wj_app, wj_app, ← List.append_assoc]; exact h
theorem xw_app3D {A : Nat → Prop} {a b c : List va_W} (h : va_D A ((wj a ++ wj b) ++ wj c)) : va_D A (wj (a ++ (b ++ c))) := by
  rw [wj_app, wj_app, ← List.append_assoc]; exact h
theorem xw_nilP {D : va_G} {cl : List vw_C} {H : Heap} {a : List va_W} (h : va_P D cl (wj a) H) : va_P D cl (wj (a ++ [[]])) H := by
  rw [wj_app]; show va_P D cl (wj a ++ []) H; rw [List.append_nil]; exact h
theorem xw_nilD {A : Nat → Prop} {a : List va_W} (h : va_D A (wj a)) : va_D A (wj (a ++ [[]])) := by
  rw [wj_app]; show va_D A (wj a ++ []); rw [List.append_nil]; exact h
/-- what the law's mill needs to know beside its world -/
def xAo (U : State) : Prop := va_AOA .int U ∧ va_Nw (.castable "[I" "java/lang/Cloneable") U
theorem xAo.moved {u U : State} (h : xAo u) (hW : u.WarmedH U.vm) : xAo U := ⟨va_AOA.moved hW.alike h.1, va_Nw.warmC hW h.2⟩
theorem xAo.trav : xTrav xAo := fun u U hv _ h => ⟨va_AOA.moved (by rw [hv]; exact Vm.Alike.refl _) h.1, va_Nw.same rfl hv.symm h.2⟩
theorem va_cl_ {own a b : String} {i : Nat} {args : Array Value} {s : State} (e : a = b) (h : (Cond.classLink own i b).before args s = true) : (Cond.classLink own i a).before args s = true := by rw [e]; exact h
section XG
variable {p : Program} {l : Launch} {e : Env} {R : Room} {s : State} {m : MethodId} {args : Array Value} {below : List Frame} {meth : Method} {c : Code} {H : Heap} {locs : List Loc} {cells slots : Nat} {Q : State → Prop}
variable {cc : ByteArray} {pc : Nat} {ls : Array Slot} {rest st0 : List Value} {D : va_G} {cl : List vw_C} {A0 A : Nat → Prop} {a : Nat} {tys : List (ClassId × FieldType)} {ws : va_W} {H0 : Heap} {cI : ClassId} {r : Nat → Nat} {k n : Nat} {M : Nat → Nat → Int32} {t : Nat → ClassId}
theorem x_gld {segs : List va_W} (j0 : Nat) (hs : segs[j0]? = some (xGr cI r k n M)) (hexec : p.tables.exec = Jvm.exec) (hb : c.code = cc) (hK : va_K D cl tys s) (hP : va_P D cl (wj segs) H) (t0 : Nat) (ht : tys[t0]? = some (cI, .int)) {i j : Nat} (hi : i < k) (hj : j < n) (hn : n < 2147483648) (hdg : decode cc pc = .ok (.iaload, 1))
    (kk : W p l e R s m args below meth c H locs cells slots Q (F0 m (pc + 1) ls (.int (M i j) :: rest))) : W p l e R s m args below meth c H locs cells slots Q (F0 m pc ls (.int (nI j) :: .ref (r i) :: rest)) := by
  obtain ⟨q0, h1, -⟩ := sg_get j0 hs (xGr_get hi)
  exact x_iald hexec hb hK hP q0 t0 h1 ht hj hn hdg kk
theorem x_gst {segs : List va_W} (segs' : List va_W) (j0 : Nat) (hs : segs[j0]? = some (xGr cI r k n M)) (hexec : p.tables.exec = Jvm.exec) (hb : c.code = cc) (hK : va_K D cl tys s) (hP : va_P D cl (wj segs) H) (hD : va_D A (wj segs)) (hS : va_S A H0 H locs) (t0 : Nat) (ht : tys[t0]? = some (cI, .int)) {i j : Nat} {x : Int32} (hw : segs.set j0 (xGr cI r k n (updG M i j x)) = segs') (hi : i < k) (hj : j < n) (hn : n < 2147483648) (hdg : decode cc pc = .ok (.iastore, 1))
    (kk : ∀ (H1 : Heap) (locs1 : List Loc), va_P D cl (wj segs') H1 → va_D A (wj segs') → va_S A H0 H1 locs1 → W p l e R s m args below meth c H1 locs1 cells slots Q (F0 m (pc + 1) ls rest)) : W p l e R s m args below meth c H locs cells slots Q (F0 m pc ls (.int x :: .int (nI j) :: .ref (r i) :: rest)) := by
  subst hw
  obtain ⟨q0, h1, h2⟩ := sg_get j0 hs (xGr_get hi)
  have h3 := h2 (r i, .inl (cI, n, .inl (upd (M i) j x)))
  rw [xGr_set hi] at h3
  exact x_iast hexec hb hK hP hD hS q0 t0 _ h1 ht h3 hj hn hdg kk
/-- fields of the law's mill -/
theorem x1_get {own : String} (hexec : p.tables.exec = Jvm.exec) (hb : c.code = cc) {Ts : List Cond} (hts : ∀ w ∈ Ts, w.before args s = true) (hin : ∀ w ∈ wsX10, w ∈ Ts) (hown : s.vm.findClass own = some m.cls) (hK : va_K D vwCl tys s) (hP : va_P D vwCl ws H) (q0 : Nat) {fs : List Value} (he : ws[q0]? = some (a, .inr (1, fs))) (k : Nat) (hk : k < 2) {index : Nat} (hlink : (Cond.fieldLink own index "RopeTimesLaw$Sim" (TX1 k).2.1 (TX1 k).2.2.1).before args s = true) {v : Value} (hv : fs[k]? = some v) (hdg : decode cc pc = .ok (.getfield index, 3))
    (hdc : (TX1 k).1 = "RopeTimesLaw$Sim") (kk : W p l e R s m args below meth c H locs cells slots Q (F0 m (pc + 3) ls (v :: rest))) : W p l e R s m args below meth c H locs cells slots Q (F0 m pc ls (.ref a :: rest)) :=
  va_get (D := D) (ci := 1) (C := RX1) (T := TX1) (N := 2) hexec hb hts hin hown hK hP q0 he rfl k hk hlink (fun _ h9 => by rw [hdc] at h9; exact h9) hv hdg kk
theorem x1_put {own : String} (hexec : p.tables.exec = Jvm.exec) (hb : c.code = cc) {Ts : List Cond} (hts : ∀ w ∈ Ts, w.before args s = true) (hin : ∀ w ∈ wsX10, w ∈ Ts) (hown : s.vm.findClass own = some m.cls) (hK : va_K D vwCl tys s) (hP : va_P D vwCl ws H) (hD : va_D A ws) (hS : va_S A H0 H locs) (q0 : Nat) (ws' : va_W) {fs : List Value} (he : ws[q0]? = some (a, .inr (1, fs))) (k : Nat) (hk : k < 2) {index : Nat} (hlink : (Cond.fieldLink own index "RopeTimesLaw$Sim" (TX1 k).2.1 (TX1 k).2.2.1).before args s = true) (hfin : (TX1 k).2.2.2 = false) {ty : FieldType} {v : Value} (hd : parseFieldDescriptor (TX1 k).2.2.1 = some ty) (hn : narrow ty v = v) (hfit : fits ty v = true) (hl : k < fs.length) (hw : ws.set q0 (a, .inr (1, fs.set k v)) = ws') (hdg : decode cc pc = .ok (.putfield index, 3))
    (hdc : (TX1 k).1 = "RopeTimesLaw$Sim") (kk : ∀ (H1 : Heap) (locs1 : List Loc), va_P D vwCl ws' H1 → va_D A ws' → va_S A H0 H1 locs1 → W p l e R s m args below meth c H1 locs1 cells slots Q (F0 m (pc + 3) ls rest)) : W p l e R s m args below meth c H locs cells slots Q (F0 m pc ls (v :: .ref a :: rest)) := by
  subst hw
  exact va_put (D := D) (ci := 1) (C := RX1) (T := TX1) (N := 2) hexec hb hts hin tyX1 tyX1_ok nmX1 hown hK hP hD hS q0 he rfl k hk hlink (fun _ h9 => by rw [hdc] at h9; exact h9) hfin hd hn hfit hl hdg kk
/-- a reference to a row is stored -/
theorem x_aast (hexec : p.tables.exec = Jvm.exec) (hb : c.code = cc) (hAO : va_AOA .int s) (hK : va_K D cl (xTy t) s) (hP : va_P D cl ws H) (hD : va_D A ws) (hS : va_S A H0 H locs) (q0 : Nat) (ws' : va_W) {n v : Nat} {x : vp_A} {f : Nat → Option Nat} (ha : ws[q0]? = some (xRf (t 3) a n f)) (hv : ∃ qk : Nat, ws[qk]? = some (v, .inl (t 0, x))) {k : Nat} {f' : Nat → Option Nat} (hf : va_up f k (some v) = f') (hw : ws.set q0 (xRf (t 3) a n f') = ws') (hk : k < n) (hn : n < 2147483648) (hdg : decode cc pc = .ok (.aastore, 1))
    (kk : ∀ (H1 : Heap) (locs1 : List Loc), va_P D cl ws' H1 → va_D A ws' → va_S A H0 H1 locs1 → W p l e R s m args below meth c H1 locs1 cells slots Q (F0 m (pc + 1) ls rest)) : W p l e R s m args below meth c H locs cells slots Q (F0 m pc ls (.ref v :: .int (nI k) :: .ref a :: rest)) := by
  subst hw
  subst hf
  obtain ⟨qk, hv⟩ := hv
  have hcl : (nI k).toNatClampNeg = k := nI_clamp (Nat.lt_trans hk hn)
  have h3 := (hK.2 2 (t 3, .array .int) rfl).2
  have h0 := hK.2 0 (t 0, .int) rfl
  obtain ⟨comp, cA, kA, hcomp, -, hkA, hkindA, hnameA⟩ := arrayOverA_spec (va_AOA.use (A := #[]) hAO)
  have e3 : cA = t 3 := Option.some.inj (hnameA.symm.trans h3)
  subst e3
  have e0 : comp = t 0 := Option.some.inj (hcomp.symm.trans h0.2)
  subst e0
  obtain ⟨-, kI, i2, comp0, i3⟩ := h0.1 0 (fun _ => .null)
  have hvm0 : (vp_cell (t 0) x).vm = .none := by
    obtain ⟨n, f | f | f | f | f⟩ := x <;> rfl
  have hcl0 : (vp_cell (t 0) x).cls = t 0 := by
    obtain ⟨n, f | f | f | f | f⟩ := x <;> rfl
  refine W.aast hexec hb (hP q0 _ ha) (fun q h => by cases h) (fun h => by cases h) hkA hkindA rfl i2 ⟨nI_pos (Nat.lt_trans hk hn), by show _ < (arrV _ _ _).slots.size; rw [arrV_size, hcl]; exact hk⟩ (hP qk _ hv) (fun q h => by
    have h9 : (vp_cell (t 0) x).vm = _ := h
    rw [hvm0] at h9; cases h9) (by show s.vm.classes[(vp_cell (t 0) x).cls]? = some kI; rw [hcl0]; exact i2) (by show s.vm.assignable (vp_cell (t 0) x).cls _ = true; rw [hcl0]; exact va_asg _ _) rfl rfl hdg fun H1 e z oq => ?_
  refine kk H1 _ (hP.set hD ha ?_ oq) (hD.set ha) (hS.put z oq (hD.2 q0 _ ha))
  show H1[a]? = some (vp_cell _ _)
  rw [e, hcl]
  rw [vp_cell_q, vp_cell_q, arrV_store]
  congr 2
  funext q
  by_cases hq : q = k
  · subst hq
    simp [updV, va_up, va_rf]
  · simp [updV, va_up, hq]
/-- new int[n][] -/
theorem x_anew (hexec : p.tables.exec = Jvm.exec) (hb : c.code = cc) {own : String} {index : Nat} (hown : s.vm.findClass own = some m.cls) (hclink : (Cond.classLink own index "[I").before args s = true) (hAO : va_AOA .int s) (hK : va_K D cl (xTy t) s) (hP : va_P D cl ws H) (hD : va_D A ws) (hS : va_S A H0 H locs) (hA : ∀ q, H0.size ≤ q → A q)
    {n : Int32} {N' : Nat} (hn : ¬ n < 0) (hN : n.toNatClampNeg = N') (hbytes : N' * 4 ≤ 536870912) (hcells : cells + 1 ≤ R.cells) (hslots : slots + N' ≤ R.slots) (hdg : decode cc pc = .ok (.anewarray index, 3))
    (kk : ∀ (q : Nat) (H1 : Heap), va_P D cl (ws ++ [xRf (t 3) q N' (fun _ => none)]) H1 → va_D A (ws ++ [xRf (t 3) q N' (fun _ => none)]) → va_S A H0 H1 locs →
      W p l e R s m args below meth c H1 locs (cells + 1) (slots + N') Q (F0 m (pc + 3) ls (.ref q :: rest))) : W p l e R s m args below meth c H locs cells slots Q (F0 m pc ls (.int n :: rest)) := by
  subst hN
  refine W.anewA (t := .int) hexec hb hown (va_cl_ rfl hclink) (va_AOA.use hAO) rfl hdg rfl hn hbytes hcells hslots fun cA kA comp f1 f2 f3 f4 => ?_
  have e3 : cA = t 3 := Option.some.inj (f1.symm.trans (hK.2 2 (t 3, .array .int) rfl).2)
  subst e3
  generalize hH1 : H.push ({ cls := t 3, slots := Array.replicate n.toNatClampNeg .null, vm := .none } : Cell) = H1
  have z1 : H1.size = H.size + 1 := by rw [← hH1, Array.size_push]
  have e1 : H1[H.size]? = some (arrV (t 3) n.toNatClampNeg (fun _ => .null)) := by rw [← hH1, Array.getElem?_push_size, ← arrV_new]
  have o1 : ∀ q : Nat, q < H.size → H1[q]? = H[q]? := fun q hq => by rw [← hH1, Array.getElem?_push, if_neg (Nat.ne_of_lt hq)]
  have hk : ∀ (k : Nat) (x : Nat × va_E), ws[k]? = some x → H1[x.1]? = H[x.1]? := fun k x hx => o1 x.1 ((hP k x hx).lt)
  refine kk H.size H1 ((hP.kept hk).app (fun k x hx => ?_)) (hD.push hP rfl (hA _ hS.1)) ⟨Nat.le_trans hS.1 (by omega), fun x h1 h2 => (o1 x (Nat.lt_of_lt_of_le h1 hS.1)).trans (hS.2.1 x h1 h2), hS.2.2⟩
  have hz : k < 1 := (List.getElem?_eq_some_iff.mp hx).1
  rw [show k = 0 by omega] at hx
  cases hx
  show H1[H.size]? = some (vp_cell _ _)
  rw [vp_cell_q]
  exact e1
/-- new int[n][n] -/
theorem x_mna {X : va_W} (hexec : p.tables.exec = Jvm.exec) (hb : c.code = cc) {own : String} {index : Nat} (hown : s.vm.findClass own = some m.cls) (hclink : (Cond.classLink own index "[[I").before args s = true) (hAO : va_AOA .int s) (harr : (Cond.arrayClass .int).before args s = true)
    (hK : va_K D cl (xTy t) s) (hP : va_P D cl X H) (hD : va_D A X) (hS : va_S A H0 H locs) (hA : ∀ q, H0.size ≤ q → A q) {n : Nat} (hn : n ≤ 1000) (hcells : cells + (1 + n) ≤ R.cells) (hslots : slots + (n + n * n) ≤ R.slots) (hdg : decode cc pc = .ok (.multianewarray index 2, 4))
    (kk : ∀ (q : Nat) (r : Nat → Nat) (H1 : Heap), va_P D cl ((X ++ [xRf (t 3) q n (rfs n r)]) ++ xGr (t 0) r n n (fun _ _ => 0)) H1 → va_D A ((X ++ [xRf (t 3) q n (rfs n r)]) ++ xGr (t 0) r n n (fun _ _ => 0)) → va_S A H0 H1 locs →
      W p l e R s m args below meth c H1 locs (cells + 1 + n) (slots + n + n * n) Q (F0 m (pc + 4) ls (.ref q :: rest))) : W p l e R s m args below meth c H locs cells slots Q (F0 m pc ls (.int (nI n) :: .int (nI n) :: rest)) := by
  have hcy : s.vm.findClass (FieldType.array .int).toString = some (t 0) := (hK.2 0 (t 0, .int) rfl).2
  have hP0 : va_P D cl (X ++ va_pl [] (fun _ => .inr (0, []))) H := by
    show va_P D cl (X ++ []) H
    rw [List.append_nil]; exact hP
  have hD0 : va_D A (X ++ va_pl [] (fun _ => .inr (0, []))) := by
    show va_D A (X ++ [])
    rw [List.append_nil]; exact hD
  have hcn : (nI n).toNatClampNeg = n := nI_clamp (by omega)
  have hb2 : n * componentBytes .int ≤ 536870912 := by
    show n * 4 ≤ _
    omega
  refine va_mna (cy := t 0) (ty := .int) (z := (n, .inl (fun _ => 0))) (N' := n) (K' := n) hexec hb hown (va_cl_ rfl hclink) hAO harr hcy hK hP0 hD0 hS hA (nI_pos (by omega)) (nI_pos (by omega)) hcn hcn (by omega) hb2 (by omega) rfl rfl hcells hslots (fun cA => (arrV_new _ _ _)) hdg (fun q r cA H1 hinj hnl hK2 hP2 hD2 hS2 => ?_)
  have h1 := (hK2.2 3 (cA, .array .int) rfl).2
  have h2 := (hK.2 2 (t 3, .array .int) rfl).2
  have he : cA = t 3 := va_RA_uniq (by intro C h; cases h) h1 h2
  subst he
  have hg : va_pl ([] ++ (List.range n).map r) (vr_up (fun _ => .inr (0, [])) ((List.range n).map r) (.inl (t 0, (n, .inl (fun _ => 0))))) = xGr (t 0) r n n (fun _ _ => 0) := by
    unfold va_pl xGr
    rw [List.nil_append, List.map_map]
    apply List.map_congr_left
    intro i hi
    show (r i, _) = _
    rw [vr_up_in (List.mem_map.mpr ⟨i, hi, rfl⟩)]
  rw [hg] at hP2 hD2
  exact kk q r H1 hP2 hD2 hS2
/-- a row is cloned -/
theorem x_clone (hexec : p.tables.exec = Jvm.exec) (hb : c.code = cc) (hml : c.maxLocals = ls.size) {own : String} {index : Nat} (hown : s.vm.findClass own = some m.cls)
    (hlink : (Cond.methodLink own index ⟨"[I", "clone", "()Ljava/lang/Object;"⟩).before args s = true) (hsame : (Cond.sameMethod "[I" "java/lang/Object" "clone" "()Ljava/lang/Object;").before args s = true)
    (hnat : (Cond.native ⟨"java/lang/Object", "clone", "()Ljava/lang/Object;"⟩).before args s = true) (hinst : (Cond.instanceMethod ⟨"java/lang/Object", "clone", "()Ljava/lang/Object;"⟩).before args s = true)
    (hsel : (Cond.selects "[I" ⟨"[I", "clone", "()Ljava/lang/Object;"⟩ ⟨"java/lang/Object", "clone", "()Ljava/lang/Object;"⟩).before args s = true) (hXX : xAo s)
    (hK : va_K D cl (xTy t) s) (hP : va_P D cl ws H) (hD : va_D A ws) (hS : va_S A H0 H locs) (hA : ∀ q, H0.size ≤ q → A q) {n : Nat} {f : Nat → Int32} (ha : ∃ q0 : Nat, ws[q0]? = some (a, .inl (t 0, n, .inl f)))
    (hframes : 1 ≤ R.frames) (hlocals : (rest.map fun v => v.category).sum + 14 ≤ R.locals) (hcells : cells + 1 ≤ R.cells) (hslots : slots + n ≤ R.slots) (hdg : decode cc pc = .ok (.invokevirtual index, 3))
    (kk : ∀ (q : Nat) (H1 : Heap), va_P D cl (ws ++ [(q, .inl (t 0, n, .inl f))]) H1 → va_D A (ws ++ [(q, .inl (t 0, n, .inl f))]) → va_S A H0 H1 locs →
      W p l e R s m args below meth c H1 locs (cells + 1) (slots + n) Q (F0 m (pc + 3) ls (.ref q :: rest))) : W p l e R s m args below meth c H locs cells slots Q (F0 m pc ls (.ref a :: rest)) := by
  obtain ⟨q0, ha⟩ := ha
  have hnm : s.vm.findClass "[I" = some (t 0) := va_nm_int (hK.2 0 (t 0, .int) rfl).2
  exact va_clone hexec hb hml hown hlink hsame hnat hinst hsel hXX.2 hK hP hD hS hA q0 0 ha rfl hnm (fun i v hv => va_fit (F := fun j => .int (f j)) (fun _ _ => rfl) i v (by rw [← vp_cell_i]; exact hv)) hframes hlocals hcells hslots hdg (fun q H1 _ h1 h2 h3 => kk q H1 h1 h2 h3)
end XG
