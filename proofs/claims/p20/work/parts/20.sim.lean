/-! worlds in pieces: lists of cells, laid behind one another -/
def wj : List va_W → va_W
  | [] => []
  | [g] => g
  | g :: h :: t => g ++ wj (h :: t)
theorem wj_fl : ∀ segs : List va_W, wj segs = segs.flatten
  | [] => rfl
  | [g] => by simp [wj]
  | g :: h :: t => by
    show g ++ wj (h :: t) = _
    rw [wj_fl (h :: t)]
    rfl
theorem wj_app (a b : List va_W) : wj (a ++ b) = wj a ++ wj b := by
  rw [wj_fl, wj_fl, wj_fl, List.flatten_append]
theorem xw_Pm {D : va_G} {cl : List vw_C} {ws : va_W} {H : Heap} : va_P D cl ws H ↔ ∀ q ∈ ws, va_at D cl q H :=
  ⟨fun h q hq => by
    obtain ⟨k, hk⟩ := List.mem_iff_getElem?.mp hq
    exact h k q hk, fun h k q hk => h q (List.mem_of_getElem? hk)⟩
theorem xw_Dm {A : Nat → Prop} {ws : va_W} : va_D A ws ↔ ws.Pairwise (fun x y => x.1 ≠ y.1) ∧ ∀ q ∈ ws, A q.1 := by
  constructor
  · intro h
    refine ⟨?_, fun q hq => by
      obtain ⟨k, hk⟩ := List.mem_iff_getElem?.mp hq
      exact h.2 k q hk⟩
    rw [List.pairwise_iff_getElem]
    intro i j hi hj hij he
    have := h.1 i j ws[i] ws[j] (List.getElem?_eq_getElem hi) (List.getElem?_eq_getElem hj) he
    omega
  · intro h
    refine ⟨fun i j p q hi hj he => ?_, fun k q hk => h.2 q (List.mem_of_getElem? hk)⟩
    have h1 := List.pairwise_iff_getElem.mp h.1
    obtain ⟨li, ei⟩ := List.getElem?_eq_some_iff.mp hi
    obtain ⟨lj, ej⟩ := List.getElem?_eq_some_iff.mp hj
    rcases Nat.lt_trichotomy i j with hl | hl | hl
    · exact absurd he (by rw [← ei, ← ej]; exact h1 i j li lj hl)
    · exact hl
    · exact absurd he.symm (by rw [← ei, ← ej]; exact h1 j i lj li hl)
theorem xw_mem {segs segs' : List va_W} {is : List Nat} (hs : is.map (fun i => segs[i]?) = segs'.map some) {q : Nat × va_E} (hq : q ∈ wj segs') : q ∈ wj segs := by
  rw [wj_fl, List.mem_flatten] at hq ⊢
  obtain ⟨g, hg, hq⟩ := hq
  have h1 : some g ∈ segs'.map some := List.mem_map.mpr ⟨g, hg, rfl⟩
  rw [← hs, List.mem_map] at h1
  obtain ⟨i, -, hi⟩ := h1
  exact ⟨g, List.mem_of_getElem? hi, hq⟩
theorem xw_P {D : va_G} {cl : List vw_C} {H : Heap} {segs segs' : List va_W} (is : List Nat) (hs : is.map (fun i => segs[i]?) = segs'.map some) (h : va_P D cl (wj segs) H) : va_P D cl (wj segs') H :=
  xw_Pm.mpr fun q hq => xw_Pm.mp h q (xw_mem hs hq)
theorem xw_D {A : Nat → Prop} {segs segs' : List va_W} (is : List Nat) (hn : va_nd is = true) (hs : is.map (fun i => segs[i]?) = segs'.map some) (h : va_D A (wj segs)) : va_D A (wj segs') := by
  obtain ⟨h1, h2⟩ := xw_Dm.mp h
  refine xw_Dm.mpr ⟨?_, fun q hq => h2 q (xw_mem hs hq)⟩
  rw [wj_fl, List.pairwise_flatten] at h1 ⊢
  have hlen : is.length = segs'.length := by
    have := congrArg List.length hs
    simpa using this
  have hat : ∀ k, (hk : k < segs'.length) → ∃ i, is[k]? = some i ∧ segs[i]? = some segs'[k] := by
    intro k hk
    have h3 : (is.map (fun i => segs[i]?))[k]? = some (some segs'[k]) := by rw [hs, List.getElem?_map, List.getElem?_eq_getElem hk]; rfl
    rw [List.getElem?_map] at h3
    cases hi : is[k]? with
    | none => rw [hi] at h3; cases h3
    | some i => rw [hi] at h3; exact ⟨i, rfl, Option.some.inj h3⟩
  refine ⟨fun g hg => ?_, ?_⟩
  · obtain ⟨k, hk, rfl⟩ := List.mem_iff_getElem.mp hg
    obtain ⟨i, -, hi⟩ := hat k hk
    exact h1.1 _ (List.mem_of_getElem? hi)
  · rw [List.pairwise_iff_getElem]
    intro a b ha hb hab x hx y hy
    obtain ⟨i, i1, i2⟩ := hat a ha
    obtain ⟨j, j1, j2⟩ := hat b hb
    have h4 := List.pairwise_iff_getElem.mp h1.2
    obtain ⟨li, ei⟩ := List.getElem?_eq_some_iff.mp i2
    obtain ⟨lj, ej⟩ := List.getElem?_eq_some_iff.mp j2
    rcases Nat.lt_trichotomy i j with hl | hl | hl
    · exact h4 i j li lj hl x (by rw [ei]; exact hx) y (by rw [ej]; exact hy)
    · subst hl
      have := va_nd_inj is hn a b i i1 j1
      omega
    · exact (h4 j i lj li hl y (by rw [ej]; exact hy) x (by rw [ei]; exact hx)).symm
theorem xw_appP {D : va_G} {cl : List vw_C} {H : Heap} {a b : List va_W} (h : va_P D cl (wj a ++ wj b) H) : va_P D cl (wj (a ++ b)) H := by
  rw [wj_app]; exact h
theorem xw_appD {A : Nat → Prop} {a b : List va_W} (h : va_D A (wj a ++ wj b)) : va_D A (wj (a ++ b)) := by
  rw [wj_app]; exact h
theorem xw_join {D : va_G} {cl : List vw_C} {A0 : Nat → Prop} {H H1 : Heap} {segs segsC segsR : List va_W} {w1 : va_W} {isC isR : List Nat} (hP : va_P D cl (wj segs) H) (hD : va_D A0 (wj segs)) (hC : isC.map (fun i => segs[i]?) = segsC.map some) (hR : isR.map (fun i => segs[i]?) = segsR.map some) (hn : va_nd (isR ++ isC) = true)
    (hk : ∀ q : Nat, q < H.size → ¬ va_A (wj segsC) H.size q → H1[q]? = H[q]?) (hF : ∀ q, va_A (wj segsC) H.size q → A0 q) (hP1 : va_P D cl w1 H1) (hD1 : va_D (va_A (wj segsC) H.size) w1) : va_P D cl (wj segsR ++ w1) H1 ∧ va_D A0 (wj segsR ++ w1) := by
  have hRC : (isR ++ isC).map (fun i => segs[i]?) = (segsR ++ segsC).map some := by rw [List.map_append, List.map_append, hC, hR]
  have hD2 := xw_D (isR ++ isC) hn hRC hD
  rw [wj_app] at hD2
  obtain ⟨d1, d2⟩ := xw_Dm.mp hD2
  obtain ⟨d3, -, d5⟩ := List.pairwise_append.mp d1
  have hPR := xw_P isR hR hP
  have apart : ∀ q ∈ wj segsR, q.1 < H.size ∧ ¬ va_A (wj segsC) H.size q.1 := by
    intro q hq
    obtain ⟨k, hk9⟩ := List.mem_iff_getElem?.mp hq
    have hl := vx_lt hPR hk9
    refine ⟨hl, fun h => ?_⟩
    rcases h with ⟨k2, e, h⟩ | h
    · exact d5 q hq (q.1, e) (List.mem_of_getElem? h) rfl
    · omega
  obtain ⟨g1, g2⟩ := xw_Dm.mp hD1
  refine ⟨va_P.app (fun k q hq => ?_) hP1, xw_Dm.mpr ⟨List.pairwise_append.mpr ⟨d3, g1, fun x hx y hy he => (apart x hx).2 (by rw [he]; exact g2 y hy)⟩, fun q hq => ?_⟩⟩
  · obtain ⟨a1, a2⟩ := apart q (List.mem_of_getElem? hq)
    exact (hPR k q hq).kept (hk q.1 a1 a2)
  · rcases List.mem_append.mp hq with h | h
    · exact d2 q (List.mem_append_left _ h)
    · exact hF q.1 (g2 q h)
theorem xw_free {A0 : Nat → Prop} {H0 H : Heap} {locs : List Loc} {segs segsC : List va_W} {isC : List Nat} (hD : va_D A0 (wj segs)) (hS : va_S A0 H0 H locs) (hA : ∀ q, H0.size ≤ q → A0 q) (hC : isC.map (fun i => segs[i]?) = segsC.map some) : ∀ q, va_A (wj segsC) H.size q → A0 q := by
  intro q h
  rcases h with ⟨k, e, h⟩ | h
  · exact (xw_Dm.mp hD).2 (q, e) (xw_mem hC (List.mem_of_getElem? h))
  · exact hA q (Nat.le_trans hS.1 h)
/-! contracts in one shape: what can't throw, what only reads -/
theorem xq_met {l : Launch} {y : MethodName} {ws : List Cond} {rm : Room} {Pc Pc' : Array Value → State → Prop} {Qc Qc' : Array Value → State → Outcome → State → Prop} {XC : String → State → State → Prop} {mc ms : Nat} {free free' : Addr → Prop} (h : vx_Met l y ws rm Pc Qc XC mc ms free) (hX : ∀ E st t, ¬ XC E st t) (hP : ∀ a s, Pc' a s → Pc a s) (hQ : ∀ a s o t, Pc' a s → Qc a s o t → Qc' a s o t) (hf : ∀ q, free q → free' q) : Met l y ws rm Pc' Qc' mc ms free' := by
  intro p e ha hc hk s m args below hf9 happ hP9 hK9
  obtain ⟨n, o, h1, h2, h3, h4⟩ := h p e ha hc hk s m args below hf9 happ (hP _ _ hP9) hK9
  rcases h4 with ⟨h4, L, h5, h6⟩ | ⟨q, -, E, ce, L, h5, -⟩
  · exact ⟨n, o, h1, h2, h3, hQ _ _ _ _ hP9 h4, L, h5, fun q hq => hf _ (h6 q hq)⟩
  · exact absurd h5 (hX _ _ _)
theorem xq_mono {l : Launch} {y : MethodName} {ws : List Cond} {rm : Room} {Pc Pc' : Array Value → State → Prop} {Qc Qc' : Array Value → State → Outcome → State → Prop} {mc ms : Nat} {free free' : Addr → Prop} (h : Met l y ws rm Pc Qc mc ms free) (hP : ∀ a s, Pc' a s → Pc a s) (hQ : ∀ a s o t, Pc' a s → Qc a s o t → Qc' a s o t) (hf : ∀ q, free q → free' q) : Met l y ws rm Pc' Qc' mc ms free' := by
  intro p e ha hc hk s m args below hf9 happ hP9 hK9
  obtain ⟨n, o, h1, h2, h3, h4, L, h5, h6⟩ := h p e ha hc hk s m args below hf9 happ (hP _ _ hP9) hK9
  exact ⟨n, o, h1, h2, h3, hQ _ _ _ _ hP9 h4, L, h5, fun q hq => hf _ (h6 q hq)⟩
theorem va_F.rf {A : Nat → Prop} {st t : State} (h : t.heap = st.heap) : va_F A st t := ⟨by rw [h]; exact Nat.le_refl _, fun q _ _ => by rw [h]⟩
section XQ
variable {l : Launch} {y : MethodName} {wsy : List Cond} {rm : Room} {D : va_G} {tys : List (ClassId × FieldType)} {N0 : Nat} {sa : Nat → Nat} {av : List Value} {wc : va_W} {mc ms sz : Nat} {bad : String → Prop}
theorem xq_th {v : Value} {ok : Prop} (h : vx_Met l y wsy rm (xRt D tys N0 sa av wc) (xQt (some v) ok) (xXt bad) mc ms (fun _ => False)) (hb : ∀ E, ¬ bad E) : Met l y wsy rm (xMu D tys (xTh N0 sa) av wc sz) (xQm D (fun _ : Unit => True) (fun _ => some v) wc (fun _ => wc) sz) mc ms (va_A wc sz) :=
  xq_met h (fun E st t z => hb E z.1) (fun a s z => ⟨z.1, z.2.2.1, z.2.2.2.1, z.2.2.2.2.2⟩) (fun a s o t z q => ⟨(), trivial, q.2.1, by rw [q.2.2]; exact z.2.2.1, z.2.2.2.2.1.self, va_F.rf q.2.2⟩) (fun _ z => z.elim)
theorem xq_mt {S : Type} {pu : S → Prop} {r : S → Option Value} {w1 : S → va_W} {X : State → Prop} (h : vx_Met l y wsy rm (xMu D tys X av wc sz) (xQm D pu r wc w1 sz) (xXt bad) mc ms (va_A wc sz)) (hb : ∀ E, ¬ bad E) : Met l y wsy rm (xMu D tys X av wc sz) (xQm D pu r wc w1 sz) mc ms (va_A wc sz) :=
  xq_met h (fun E st t z => hb E z.1) (fun _ _ z => z) (fun _ _ _ _ _ q => q) (fun _ z => z)
theorem xq_ro {v : Value} {X : State → Prop} (h : Met l y wsy rm (xRo D tys av wc) (xQr v) 0 0 (fun _ => False)) : Met l y wsy rm (xMu D tys X av wc sz) (xQm D (fun _ : Unit => True) (fun _ => some v) wc (fun _ => wc) sz) 0 0 (va_A wc sz) :=
  xq_mono h (fun a s z => ⟨z.1, z.2.2.1, z.2.2.2.1⟩) (fun a s o t z q => ⟨(), trivial, q.1, by rw [q.2]; exact z.2.2.1, z.2.2.2.2.1.self, va_F.rf q.2⟩) (fun _ z => z.elim)
end XQ
/-! calls over worlds in pieces -/
section XS
variable {p : Program} {l : Launch} {e : Env} {R : Room} {s : State} {m : MethodId} {args : Array Value} {below : List Frame} {meth : Method} {c : Code} {H : Heap} {locs : List Loc} {cells slots : Nat} {Q : State → Prop}
variable {cc : ByteArray} {pc : Nat} {ls : Array Slot} {rest st0 : List Value} {D : va_G} {A0 A : Nat → Prop} {tys : List (ClassId × FieldType)} {ws : va_W} {H0 : Heap} {mc ms : Nat}
variable {y : MethodName} {bytes : ByteArray} {maxL nL n index : Nat} {ret : Option FieldType} {wsy : List Cond} {rm : Room} {Ts : List Cond} {own C : String} {b : Addr} {As : List Value} {wc : va_W} {segs segsC segsR : List va_W} {isC isR : List Nat}
theorem xs_fin {S : Type} {pu : S → Prop} {r : S → Option Value} {w1 : S → va_W} {aa : Array Value} (hwc : wj segsC = wc) (hr : va_Run p l e R s m args below meth c H locs cells slots mc ms (F0 m pc ls st0) rest (xQm D pu r wc w1 H.size aa) (va_A wc H.size))
    (hP : va_P D vwCl (wj segs) H) (hD : va_D A0 (wj segs)) (hS : va_S A0 H0 H locs) (hA : ∀ q, H0.size ≤ q → A0 q) (hC : isC.map (fun i => segs[i]?) = segsC.map some) (hR : isR.map (fun i => segs[i]?) = segsR.map some) (hn : va_nd (isR ++ isC) = true)
    (kk : ∀ (u : S) (H1 : Heap) (locs1 : List Loc), pu u → va_P D vwCl (wj segsR ++ w1 u) H1 → va_D A0 (wj segsR ++ w1 u) → va_S A0 H0 H1 locs1 → H.size ≤ H1.size → W p l e R s m args below meth c H1 locs1 (cells + mc) (slots + ms) Q (F0 m (pc + 3) ls ((r u).toList ++ rest))) : W p l e R s m args below meth c H locs cells slots Q (F0 m pc ls st0) := by
  subst hwc
  have hF := xw_free hD hS hA hC
  intro T hT X
  obtain ⟨v, st₀, t, T', L, h0, X', hL, e1, e2, ⟨u, hu, hv, hP1, hD1, hz, hk⟩, st⟩ := hr T hT X
  cases hv
  rw [h0] at hz hk
  obtain ⟨hP2, hD2⟩ := xw_join hP hD hC hR hn (fun q h1 h2 => hk q h1 h2) hF hP1 hD1
  obtain ⟨t2, a1, b1⟩ := kk u T'.heap (locs ++ L) hu (by rw [e1]; exact hP2) hD2
    ⟨Nat.le_trans hS.1 (by rw [e1]; exact hz), fun q h1 h2 => by rw [e1, hk q (Nat.lt_of_lt_of_le h1 hS.1) (fun z => h2 (hF q z))]; exact hS.2.1 q h1 h2, fun q hq => by
      rcases List.mem_append.mp hq with h | h
      · exact hS.2.2 q h
      · exact hF _ (hL q h)⟩ (by rw [e1]; exact hz) T' rfl X'
  exact ⟨t2, st t2 a1, b1⟩
theorem va_nd_r : ∀ {a b : List Nat}, va_nd (a ++ b) = true → va_nd b = true
  | [], _, h => h
  | x :: a, b, h => by
    have h2 : va_nd (x :: (a ++ b)) = true := h
    rw [va_nd, Bool.and_eq_true] at h2
    exact va_nd_r h2.2
theorem xs_V {S : Type} {pu : S → Prop} {r : S → Option Value} {w1 : S → va_W} {X : State → Prop} (SF : CallFix p m c cc nL s args Ts own) (hX : xTrav X) (hwc : wj segsC = wc) (hM : Met l y wsy rm (xMu D tys X (.ref b :: As) wc H.size) (xQm D pu r wc w1 H.size) mc ms (va_A wc H.size)) (cw : CallW R s args own C index y bytes maxL ret wsy rm mc ms n)
    (hK : va_K D vwCl tys s) (hP : va_P D vwCl (wj segs) H) (hD : va_D A0 (wj segs)) (hS : va_S A0 H0 H locs) (hA : ∀ q, H0.size ≤ q → A0 q) (hXs : ∀ U : State, s.WarmedH U.vm → U.heap = H → X U) (hrec : ∃ cellB : Cell, H[b]? = some cellB ∧ cellB.vm.isStatics = false ∧ s.vm.findClass C = some cellB.cls)
    (hC : isC.map (fun i => segs[i]?) = segsC.map some) (hR : isR.map (fun i => segs[i]?) = segsR.map some) (hnd : va_nd (isR ++ isC) = true)
    (hn : As.length = n) (hsize : ls.size = nL) (hstack : st0 = As.reverse ++ .ref b :: rest) (hW : (rest.map fun v => v.category).sum ≤ 8) (hdg : decode cc pc = .ok (.invokevirtual index, 3)) (hc : cells + mc ≤ R.cells ∧ slots + ms ≤ R.slots)
    (kk : ∀ (u : S) (H1 : Heap) (locs1 : List Loc), pu u → va_P D vwCl (wj segsR ++ w1 u) H1 → va_D A0 (wj segsR ++ w1 u) → va_S A0 H0 H1 locs1 → H.size ≤ H1.size → W p l e R s m args below meth c H1 locs1 (cells + mc) (slots + ms) Q (F0 m (pc + 3) ls ((r u).toList ++ rest))) : W p l e R s m args below meth c H locs cells slots Q (F0 m pc ls st0) := by
  subst hstack
  subst hwc
  have hPc := xw_P isC hC hP
  have hDc := xw_D isC (va_nd_r hnd) hC hD
  exact xs_fin rfl (va_runV SF hM cw ⟨xMu_blind hX _ _ _ _, hrec, fun U hU hW => ⟨rfl, by rw [hU], by rw [hU]; exact hPc, va_K.moved hW.alike hK, hDc.weaken (fun _ _ _ _ => trivial), hXs U hW hU⟩⟩ rfl hn hsize rfl (lv_room hW) hdg hc) hP hD hS hA hC hR hnd kk
theorem xs_S {S : Type} {pu : S → Prop} {r : S → Option Value} {w1 : S → va_W} {X : State → Prop} (SF : CallFix p m c cc nL s args Ts own) (hX : xTrav X) (hwc : wj segsC = wc) (hM : Met l y wsy rm (xMu D tys X As wc H.size) (xQm D pu r wc w1 H.size) mc ms (va_A wc H.size)) (cw : CallB R s args own index y bytes maxL ret wsy rm mc ms n ∧ (Cond.static y).before args s = true)
    (hK : va_K D vwCl tys s) (hP : va_P D vwCl (wj segs) H) (hD : va_D A0 (wj segs)) (hS : va_S A0 H0 H locs) (hA : ∀ q, H0.size ≤ q → A0 q) (hXs : ∀ U : State, s.WarmedH U.vm → U.heap = H → X U)
    (hC : isC.map (fun i => segs[i]?) = segsC.map some) (hR : isR.map (fun i => segs[i]?) = segsR.map some) (hnd : va_nd (isR ++ isC) = true)
    (hn : As.length = n) (hsize : ls.size = nL) (hstack : st0 = As.reverse ++ rest) (hW : (rest.map fun v => v.category).sum ≤ 8) (hdg : decode cc pc = .ok (.invokestatic index, 3)) (hc : cells + mc ≤ R.cells ∧ slots + ms ≤ R.slots)
    (kk : ∀ (u : S) (H1 : Heap) (locs1 : List Loc), pu u → va_P D vwCl (wj segsR ++ w1 u) H1 → va_D A0 (wj segsR ++ w1 u) → va_S A0 H0 H1 locs1 → H.size ≤ H1.size → W p l e R s m args below meth c H1 locs1 (cells + mc) (slots + ms) Q (F0 m (pc + 3) ls ((r u).toList ++ rest))) : W p l e R s m args below meth c H locs cells slots Q (F0 m pc ls st0) := by
  subst hstack
  subst hwc
  have hPc := xw_P isC hC hP
  have hDc := xw_D isC (va_nd_r hnd) hC hD
  exact xs_fin rfl (va_runS SF hM cw ⟨xMu_blind hX _ _ _ _, fun U hU hW => ⟨rfl, by rw [hU], by rw [hU]; exact hPc, va_K.moved hW.alike hK, hDc.weaken (fun _ _ _ _ => trivial), hXs U hW hU⟩⟩ rfl hn hsize rfl (lv_room hW) hdg hc) hP hD hS hA hC hR hnd kk
theorem xs_I {S : Type} {pu : S → Prop} {r : S → Option Value} {w1 : S → va_W} {X : State → Prop} (SF : CallFix p m c cc nL s args Ts own) (hX : xTrav X) (hwc : wj segsC = wc) (hM : Met l y wsy rm (xMu D tys X (.ref b :: As) wc H.size) (xQm D pu r wc w1 H.size) mc ms (va_A wc H.size)) (cw : CallB R s args own index y bytes maxL none wsy rm mc ms n ∧ y.name = "<init>" ∧ (Cond.instanceMethod y).before args s = true)
    (hK : va_K D vwCl tys s) (hP : va_P D vwCl (wj segs) H) (hD : va_D A0 (wj segs)) (hS : va_S A0 H0 H locs) (hA : ∀ q, H0.size ≤ q → A0 q) (hXs : ∀ U : State, s.WarmedH U.vm → U.heap = H → X U)
    (hC : isC.map (fun i => segs[i]?) = segsC.map some) (hR : isR.map (fun i => segs[i]?) = segsR.map some) (hnd : va_nd (isR ++ isC) = true)
    (hn : As.length = n) (hsize : ls.size = nL) (hstack : st0 = As.reverse ++ .ref b :: rest) (hW : (rest.map fun v => v.category).sum ≤ 8) (hdg : decode cc pc = .ok (.invokespecial index, 3)) (hc : cells + mc ≤ R.cells ∧ slots + ms ≤ R.slots)
    (kk : ∀ (u : S) (H1 : Heap) (locs1 : List Loc), pu u → va_P D vwCl (wj segsR ++ w1 u) H1 → va_D A0 (wj segsR ++ w1 u) → va_S A0 H0 H1 locs1 → H.size ≤ H1.size → W p l e R s m args below meth c H1 locs1 (cells + mc) (slots + ms) Q (F0 m (pc + 3) ls ((r u).toList ++ rest))) : W p l e R s m args below meth c H locs cells slots Q (F0 m pc ls st0) := by
  subst hstack
  subst hwc
  have hPc := xw_P isC hC hP
  have hDc := xw_D isC (va_nd_r hnd) hC hD
  exact xs_fin rfl (va_runI SF hM cw ⟨xMu_blind hX _ _ _ _, fun U hU hW => ⟨rfl, by rw [hU], by rw [hU]; exact hPc, va_K.moved hW.alike hK, hDc.weaken (fun _ _ _ _ => trivial), hXs U hW hU⟩⟩ rfl hn hsize rfl (lv_room hW) hdg hc) hP hD hS hA hC hR hnd kk
theorem xs_IN {S : Type} {pu : S → Prop} {r : S → Option Value} {w1 : S → va_W} {X : State → Prop} {host : String} (SF : CallFix p m c cc nL s args Ts own) (hX : xTrav X) (hwc : wj segsC = wc) (hM : Met l y wsy rm (xMu D tys X (.ref b :: As) wc H.size) (xQm D pu r wc w1 H.size) mc ms (va_A wc H.size)) (cw : va_CN R s args own index y host bytes maxL none wsy rm mc ms n ∧ y.name = "<init>" ∧ (Cond.instanceMethod y).before args s = true)
    (hK : va_K D vwCl tys s) (hP : va_P D vwCl (wj segs) H) (hD : va_D A0 (wj segs)) (hS : va_S A0 H0 H locs) (hA : ∀ q, H0.size ≤ q → A0 q) (hXs : ∀ U : State, s.WarmedH U.vm → U.heap = H → X U)
    (hC : isC.map (fun i => segs[i]?) = segsC.map some) (hR : isR.map (fun i => segs[i]?) = segsR.map some) (hnd : va_nd (isR ++ isC) = true)
    (hn : As.length = n) (hsize : ls.size = nL) (hstack : st0 = As.reverse ++ .ref b :: rest) (hW : (rest.map fun v => v.category).sum ≤ 8) (hdg : decode cc pc = .ok (.invokespecial index, 3)) (hc : cells + mc ≤ R.cells ∧ slots + ms ≤ R.slots)
    (kk : ∀ (u : S) (H1 : Heap) (locs1 : List Loc), pu u → va_P D vwCl (wj segsR ++ w1 u) H1 → va_D A0 (wj segsR ++ w1 u) → va_S A0 H0 H1 locs1 → H.size ≤ H1.size → W p l e R s m args below meth c H1 locs1 (cells + mc) (slots + ms) Q (F0 m (pc + 3) ls ((r u).toList ++ rest))) : W p l e R s m args below meth c H locs cells slots Q (F0 m pc ls st0) := by
  subst hstack
  subst hwc
  have hPc := xw_P isC hC hP
  have hDc := xw_D isC (va_nd_r hnd) hC hD
  exact xs_fin rfl (va_runIN SF hM cw ⟨xMu_blind hX _ _ _ _, fun U hU hW => ⟨rfl, by rw [hU], by rw [hU]; exact hPc, va_K.moved hW.alike hK, hDc.weaken (fun _ _ _ _ => trivial), hXs U hW hU⟩⟩ rfl hn hsize rfl (lv_room hW) hdg hc) hP hD hS hA hC hR hnd kk
end XS
