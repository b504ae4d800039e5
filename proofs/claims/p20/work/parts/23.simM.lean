theorem hd_X1_copy : yX1_copy.cls = RX1 ∧ yX1_copy.cls ≠ "java/lang/invoke/MethodHandle" ∧ yX1_copy.cls ≠ "java/lang/invoke/VarHandle" ∧ (parseMethodDescriptor yX1_copy.desc).map (fun d => d.parameters.length) = some 0 := by decide +kernel
theorem hd_X1_ways : yX1_ways.cls = RX1 ∧ yX1_ways.cls ≠ "java/lang/invoke/MethodHandle" ∧ yX1_ways.cls ≠ "java/lang/invoke/VarHandle" ∧ (parseMethodDescriptor yX1_ways.desc).map (fun d => d.parameters.length) = some 0 := by decide +kernel
theorem hd_X1_times : yX1_times.cls = RX1 ∧ yX1_times.cls ≠ "java/lang/invoke/MethodHandle" ∧ yX1_times.cls ≠ "java/lang/invoke/VarHandle" ∧ (parseMethodDescriptor yX1_times.desc).map (fun d => d.parameters.length) = some 0 := by decide +kernel
theorem hd_X1_rounds : yX1_rounds.cls = RX1 ∧ yX1_rounds.cls ≠ "java/lang/invoke/MethodHandle" ∧ yX1_rounds.cls ≠ "java/lang/invoke/VarHandle" ∧ (parseMethodDescriptor yX1_rounds.desc).map (fun d => d.parameters.length) = some 0 := by decide +kernel
theorem hd_X1_last : yX1_last.cls ≠ "java/lang/invoke/MethodHandle" ∧ yX1_last.cls ≠ "java/lang/invoke/VarHandle" ∧ (parseMethodDescriptor yX1_last.desc).map (fun d => d.parameters.length) = some 1 := by decide +kernel
theorem hd_X1_ring : yX1_ring.cls = RX1 ∧ yX1_ring.cls ≠ "java/lang/invoke/MethodHandle" ∧ yX1_ring.cls ≠ "java/lang/invoke/VarHandle" ∧ (parseMethodDescriptor yX1_ring.desc).map (fun d => d.parameters.length) = some 0 := by decide +kernel
theorem hd_X1_room : yX1_room.cls = RX1 ∧ yX1_room.cls ≠ "java/lang/invoke/MethodHandle" ∧ yX1_room.cls ≠ "java/lang/invoke/VarHandle" ∧ (parseMethodDescriptor yX1_room.desc).map (fun d => d.parameters.length) = some 1 := by decide +kernel
set_option maxHeartbeats 4000000 in
set_option maxRecDepth 100000 in
theorem c_X1_init (l : Launch) (D : va_G) (t : Nat → ClassId) (h0 : Nat) (sz : Nat) : Met l yX1_init wsX1_init ({ frames := 1, cells := 1, slots := 0, locals := 12 }) (xMu D (xTy t) xAo [.ref h0] [(h0, .inr (1, [.int 0, .null]))] sz) (xQm D (fun u : Nat => True) (fun u : Nat => none) [(h0, .inr (1, [.int 0, .null]))] (fun u : Nat => [(h0, .inr (1, [.int 0, .ref u])), xRf (t 3) u 0 (fun _ => none)]) sz) 1 0 (va_A [(h0, .inr (1, [.int 0, .null]))] sz) := by
  refine Met.ofW (cc := cX1_init) (maxL := 1) (ret := none) (by decide) rfl ?_
  intro p e s m args below meth c s₁ hB9 hml hv
  obtain ⟨rfl, hsz, hP, hK, hD0, hXX⟩ := hv
  have hx := hB9.exec
  have hb := hB9.bytes
  have hr := hB9.returns
  have hts := atoms_spec (ws := wsX1_init) hB9.pre
  have hown : s.vm.findClass RX1 = some m.cls := findClass_of_methodNamed hB9.named
  have hlocks := hB9.notSynchronized
  have hin1 : ∀ w ∈ wsX10, w ∈ wsX1_init := fun _ h => List.mem_cons_of_mem _ (List.mem_append_right _ h)
  have fl_11 := hts (.fieldLink RX1 11 "RopeTimesLaw$Sim" "ropes" "[[I") (by decide +kernel)
  subst hsz
  have hD := hD0.self (sz := s.heap.size)
  generalize hAe : va_A ([(h0, .inr (1, [.int 0, .null]))]) s.heap.size = A at hD ⊢
  have hA : ∀ q : Nat, s.heap.size ≤ q → A q := fun q h => by rw [← hAe]; exact Or.inr h
  have hS : va_S A s.heap s.heap [] := va_S.rf
  have hP : va_P D vwCl ([(h0, .inr (1, [.int 0, .null]))]) s.heap := hP
  have hD : va_D A ([(h0, .inr (1, [.int 0, .null]))]) := hD
  have hl := lv_entry ([.ref h0]) (n := 1) (Nat.le_of_ble_eq_true rfl)
  rw [lg_entry_eq]
  generalize (lg_sl ([.ref h0]) ++ List.replicate (1 - (lg_sl ([.ref h0])).length) Slot.unset).toArray = ls at hl ⊢
  have hl : lv_has ls 1 [(0, .ref h0)] := hl
  have hini9 : meth.name = "<init>" := (name_of_methodNamed hB9.named hB9.method).1
  have hXA : xAo s := hXX
  refine lv_aload_n hx hb dX1_init_0 rfl (lv_at hl 0 rfl) ?_
  refine W.objInit hx hb hown (hts (.methodLink RX1 3 objectInit) (by decide +kernel)) (hts (.instanceMethod objectInit) (by decide +kernel)) (hts (.code objectInit ⟨#[0xb1]⟩ 1 none) (by decide +kernel)) rfl (hl.1.trans hml.symm) rfl dX1_init_1 (Nat.le_of_ble_eq_true rfl) (Nat.le_of_ble_eq_true rfl) ?_
  refine W.eq (g2 := F0 m 4 ls []) rfl ?_
  refine lv_aload_n hx hb dX1_init_4 rfl (lv_at hl 0 rfl) ?_
  refine lv_iconst (v := 0) hx hb dX1_init_5 (by decide) ?_
  refine x_anew (n := 0) (N' := 0) hx hb hown (hts (.classLink RX1 9 "[I") (by decide +kernel)) hXA.1 hK hP hD hS hA (by decide) rfl (by omega) (Nat.le_of_ble_eq_true rfl) (by show _ ≤ 0; omega) dX1_init_6 (fun q_1 H hP hD hS => ?_)
  have hP : va_P D vwCl ([(h0, .inr (1, [.int 0, .null])), xRf (t 3) q_1 0 (fun _ => none)]) _ := hP
  have hD : va_D _ ([(h0, .inr (1, [.int 0, .null])), xRf (t 3) q_1 0 (fun _ => none)]) := hD
  refine x1_put (ty := (.array (.array .int))) (v := .ref q_1) hx hb hts hin1 hown hK hP hD hS 0 ([(h0, .inr (1, [.int 0, .ref q_1])), xRf (t 3) q_1 0 (fun _ => none)]) rfl 1 (by decide) fl_11 rfl (by decide +kernel) rfl rfl (Nat.le_of_ble_eq_true rfl) rfl dX1_init_9 rfl (fun H locs hP hD hS => ?_)
  subst hAe
  obtain ⟨hq9, hf9⟩ := xm_end (S := Nat) (pu := (fun u : Nat => True)) (r := (fun u : Nat => none)) (wc := [(h0, .inr (1, [.int 0, .null]))]) (w1 := (fun u : Nat => [(h0, .inr (1, [.int 0, .ref u])), xRf (t 3) u 0 (fun _ => none)])) (o := none) (args := ([.ref h0] : List Value).toArray) q_1 rfl trivial rfl hP hD hS
  exact W.vret hx hb hr hq9 hf9 dX1_init_12 hlocks
set_option maxHeartbeats 4000000 in
set_option maxRecDepth 100000 in
theorem c_X1_copy (l : Launch) (D : va_G) (t : Nat → ClassId) (g tc q rc : Nat) (pp : Nat → Nat) (F T : Nat → Nat) (L : Nat → Int32) (Z : Nat → Bool) (sz : Nat) (htc : tc ≤ 12) (hrc : rc ≤ 30) (hF : ∀ r, r < rc → F r < tc ∧ T r < tc) : Met l yX1_copy wsX1_copy ({ frames := 2, cells := 33, slots := 152, locals := 32 }) (xMu D (xTy t) xAo [.ref g] ([xSim g tc q, xRf (t 3) q rc (rfs rc pp)] ++ xGr (t 0) pp rc 4 (row4 F T L Z)) sz) (xQm D (fun u : Nat × Nat × (Nat → Nat) => True) (fun u : Nat × Nat × (Nat → Nat) => some (.ref u.1)) ([xSim g tc q, xRf (t 3) q rc (rfs rc pp)] ++ xGr (t 0) pp rc 4 (row4 F T L Z)) (fun u : Nat × Nat × (Nat → Nat) => [xSim g tc q, xRf (t 3) q rc (rfs rc pp), xSim u.1 tc u.2.1, xRf (t 3) u.2.1 rc (rfs rc u.2.2)] ++ (xGr (t 0) pp rc 4 (row4 F T L Z) ++ xGr (t 0) u.2.2 rc 4 (row4 F T L Z))) sz) 33 152 (va_A ([xSim g tc q, xRf (t 3) q rc (rfs rc pp)] ++ xGr (t 0) pp rc 4 (row4 F T L Z)) sz) := by
  refine Met.ofW (cc := cX1_copy) (maxL := 3) (ret := (some (.object "RopeTimesLaw$Sim"))) (by decide) rfl ?_
  intro p e s m args below meth c s₁ hB9 hml hv
  obtain ⟨rfl, hsz, hP, hK, hD0, hXX⟩ := hv
  have hx := hB9.exec
  have hb := hB9.bytes
  have hr := hB9.returns
  have hts := atoms_spec (ws := wsX1_copy) hB9.pre
  have hown : s.vm.findClass RX1 = some m.cls := findClass_of_methodNamed hB9.named
  have hlocks := hB9.notSynchronized
  have hin1 : ∀ w ∈ wsX10, w ∈ wsX1_copy := fun _ h => List.mem_cons_of_mem _ (List.mem_append_right _ h)
  have fl_18 := hts (.fieldLink RX1 18 "RopeTimesLaw$Sim" "turns" "I") (by decide +kernel)
  have fl_11 := hts (.fieldLink RX1 11 "RopeTimesLaw$Sim" "ropes" "[[I") (by decide +kernel)
  subst hsz
  have hD := hD0.self (sz := s.heap.size)
  generalize hAe : va_A ([xSim g tc q, xRf (t 3) q rc (rfs rc pp)] ++ xGr (t 0) pp rc 4 (row4 F T L Z)) s.heap.size = A at hD ⊢
  have hA : ∀ q : Nat, s.heap.size ≤ q → A q := fun q h => by rw [← hAe]; exact Or.inr h
  have hS : va_S A s.heap s.heap [] := va_S.rf
  have hP : va_P D vwCl ([xSim g tc q, xRf (t 3) q rc (rfs rc pp)] ++ xGr (t 0) pp rc 4 (row4 F T L Z)) s.heap := hP
  have hD : va_D A ([xSim g tc q, xRf (t 3) q rc (rfs rc pp)] ++ xGr (t 0) pp rc 4 (row4 F T L Z)) := hD
  have hl := lv_entry ([.ref g]) (n := 3) (Nat.le_of_ble_eq_true rfl)
  rw [lg_entry_eq]
  generalize (lg_sl ([.ref g]) ++ List.replicate (3 - (lg_sl ([.ref g])).length) Slot.unset).toArray = ls at hl ⊢
  have hl : lv_has ls 3 [(0, .ref g)] := hl
  have hXA : xAo s := hXX
  refine va_new (ci := 1) (fs := [.int 0, .null]) hx hb hts hin1 tyX1 tyX1_ok hown (hts (.classLink RX1 12 RX1) (by decide +kernel)) (hts (.instantiable RX1 2) (by decide +kernel)) (hts (.initialized RX1) (by decide +kernel)) hK hP hD hS hA rfl (fun j hj => match j, hj with | 0, _ => rfl | 1, _ => rfl | n + 2, h => absurd h (by omega)) (Nat.le_of_ble_eq_true rfl) (Nat.le_of_ble_eq_true rfl) dX1_copy_0 (fun q_1 H hP hD hS => ?_)
  have hP : va_P D vwCl ([xSim g tc q, xRf (t 3) q rc (rfs rc pp), (q_1, .inr (1, [.int 0, .null]))] ++ xGr (t 0) pp rc 4 (row4 F T L Z)) _ := xw_P (segs := [[xSim g tc q], [xRf (t 3) q rc (rfs rc pp)], xGr (t 0) pp rc 4 (row4 F T L Z), [(q_1, .inr (1, [.int 0, .null]))]]) (segs' := [[xSim g tc q], [xRf (t 3) q rc (rfs rc pp)], [(q_1, .inr (1, [.int 0, .null]))], xGr (t 0) pp rc 4 (row4 F T L Z)]) [0, 1, 3, 2] rfl (xw_appP (a := [[xSim g tc q], [xRf (t 3) q rc (rfs rc pp)], xGr (t 0) pp rc 4 (row4 F T L Z)]) (b := [[(q_1, .inr (1, [.int 0, .null]))]]) hP)
  have hD : va_D _ ([xSim g tc q, xRf (t 3) q rc (rfs rc pp), (q_1, .inr (1, [.int 0, .null]))] ++ xGr (t 0) pp rc 4 (row4 F T L Z)) := xw_D (segs := [[xSim g tc q], [xRf (t 3) q rc (rfs rc pp)], xGr (t 0) pp rc 4 (row4 F T L Z), [(q_1, .inr (1, [.int 0, .null]))]]) (segs' := [[xSim g tc q], [xRf (t 3) q rc (rfs rc pp)], [(q_1, .inr (1, [.int 0, .null]))], xGr (t 0) pp rc 4 (row4 F T L Z)]) [0, 1, 3, 2] (by decide) rfl (xw_appD (a := [[xSim g tc q], [xRf (t 3) q rc (rfs rc pp)], xGr (t 0) pp rc 4 (row4 F T L Z)]) (b := [[(q_1, .inr (1, [.int 0, .null]))]]) hD)
  refine lv_dup hx hb dX1_copy_3 rfl ?_
  refine xs_I (b := q_1) (As := []) (rest := [.ref q_1]) (segs := [[xSim g tc q], [xRf (t 3) q rc (rfs rc pp)], [(q_1, .inr (1, [.int 0, .null]))], xGr (t 0) pp rc 4 (row4 F T L Z)]) (segsC := [[(q_1, .inr (1, [.int 0, .null]))]]) (segsR := [[xSim g tc q], [xRf (t 3) q rc (rfs rc pp)], xGr (t 0) pp rc 4 (row4 F T L Z)]) (isC := [2]) (isR := [0, 1, 3]) ⟨hx, hb, hml, hown, hts⟩ xAo.trav rfl (c_X1_init l D t q_1 _) (cwI 0 hts gX1_copy_X1_init rfl rfl rfl (hts (.initialized RX1) (by decide +kernel)) (hts (.methodLink RX1 17 yX1_init) (by decide +kernel)) (hts (.instanceMethod yX1_init) (by decide +kernel)) rfl (by decide +kernel) ⟨Nat.le_of_ble_eq_true rfl, Nat.le_of_ble_eq_true rfl⟩) hK hP hD hS hA (fun U hW hU => hXA.moved hW) rfl rfl (by decide) rfl hl.1 rfl (Nat.le_of_ble_eq_true rfl) dX1_copy_4 ⟨(Nat.le_of_ble_eq_true rfl), (Nat.le_of_ble_eq_true rfl)⟩ (fun u_2 H locs hu hP hD hS hz => ?_)
  have hP : va_P D vwCl ([xSim g tc q, xRf (t 3) q rc (rfs rc pp), (q_1, .inr (1, [.int 0, .ref u_2])), xRf (t 3) u_2 0 (fun _ => none)] ++ xGr (t 0) pp rc 4 (row4 F T L Z)) _ := xw_P (segs := [[xSim g tc q], [xRf (t 3) q rc (rfs rc pp)], xGr (t 0) pp rc 4 (row4 F T L Z), [(q_1, .inr (1, [.int 0, .ref u_2]))], [xRf (t 3) u_2 0 (fun _ => none)]]) (segs' := [[xSim g tc q], [xRf (t 3) q rc (rfs rc pp)], [(q_1, .inr (1, [.int 0, .ref u_2]))], [xRf (t 3) u_2 0 (fun _ => none)], xGr (t 0) pp rc 4 (row4 F T L Z)]) [0, 1, 3, 4, 2] rfl (xw_appP (a := [[xSim g tc q], [xRf (t 3) q rc (rfs rc pp)], xGr (t 0) pp rc 4 (row4 F T L Z)]) (b := [[(q_1, .inr (1, [.int 0, .ref u_2]))], [xRf (t 3) u_2 0 (fun _ => none)]]) hP)
  have hD : va_D _ ([xSim g tc q, xRf (t 3) q rc (rfs rc pp), (q_1, .inr (1, [.int 0, .ref u_2])), xRf (t 3) u_2 0 (fun _ => none)] ++ xGr (t 0) pp rc 4 (row4 F T L Z)) := xw_D (segs := [[xSim g tc q], [xRf (t 3) q rc (rfs rc pp)], xGr (t 0) pp rc 4 (row4 F T L Z), [(q_1, .inr (1, [.int 0, .ref u_2]))], [xRf (t 3) u_2 0 (fun _ => none)]]) (segs' := [[xSim g tc q], [xRf (t 3) q rc (rfs rc pp)], [(q_1, .inr (1, [.int 0, .ref u_2]))], [xRf (t 3) u_2 0 (fun _ => none)], xGr (t 0) pp rc 4 (row4 F T L Z)]) [0, 1, 3, 4, 2] (by decide) rfl (xw_appD (a := [[xSim g tc q], [xRf (t 3) q rc (rfs rc pp)], xGr (t 0) pp rc 4 (row4 F T L Z)]) (b := [[(q_1, .inr (1, [.int 0, .ref u_2]))], [xRf (t 3) u_2 0 (fun _ => none)]]) hD)
  refine lv_astore_n (lv' := [(1, .ref q_1), (0, .ref g)]) hx hb dX1_copy_7 rfl hl (by decide) rfl (fun ls hl => ?_)
  refine lv_aload_n hx hb dX1_copy_8 rfl (lv_at hl 0 rfl) ?_
  refine lv_aload_n hx hb dX1_copy_9 rfl (lv_at hl 1 rfl) ?_
  refine x1_get (v := .int (nI tc)) hx hb hts hin1 hown hK hP 0 rfl 0 (by decide) fl_18 rfl dX1_copy_10 rfl ?_
  refine x1_put (ty := .int) (v := .int (nI tc)) hx hb hts hin1 hown hK hP hD hS 2 ([xSim g tc q, xRf (t 3) q rc (rfs rc pp), (q_1, .inr (1, [.int (nI tc), .ref u_2])), xRf (t 3) u_2 0 (fun _ => none)] ++ xGr (t 0) pp rc 4 (row4 F T L Z)) rfl 0 (by decide) fl_18 rfl (by decide +kernel) rfl rfl (Nat.le_of_ble_eq_true rfl) rfl dX1_copy_13 rfl (fun H locs hP hD hS => ?_)
  refine lv_aload_n hx hb dX1_copy_16 rfl (lv_at hl 0 rfl) ?_
  refine lv_aload_n hx hb dX1_copy_17 rfl (lv_at hl 1 rfl) ?_
  refine x1_get (v := .ref q) hx hb hts hin1 hown hK hP 0 rfl 1 (by decide) fl_11 rfl dX1_copy_18 rfl ?_
  refine va_alen (v := nI rc) hx hb hK hP 1 2 rfl rfl rfl dX1_copy_21 ?_
  refine x_anew (n := nI rc) (N' := rc) hx hb hown (hts (.classLink RX1 9 "[I") (by decide +kernel)) hXA.1 hK hP hD hS hA (nI_pos (by omega)) (nI_clamp (by omega)) (by omega) (Nat.le_of_ble_eq_true rfl) (by show _ ≤ 152; omega) dX1_copy_22 (fun q_3 H hP hD hS => ?_)
  have hP : va_P D vwCl ([xSim g tc q, xRf (t 3) q rc (rfs rc pp), (q_1, .inr (1, [.int (nI tc), .ref u_2])), xRf (t 3) u_2 0 (fun _ => none), xRf (t 3) q_3 rc (fun _ => none)] ++ xGr (t 0) pp rc 4 (row4 F T L Z)) _ := xw_P (segs := [[xSim g tc q], [xRf (t 3) q rc (rfs rc pp)], [(q_1, .inr (1, [.int (nI tc), .ref u_2]))], [xRf (t 3) u_2 0 (fun _ => none)], xGr (t 0) pp rc 4 (row4 F T L Z), [xRf (t 3) q_3 rc (fun _ => none)]]) (segs' := [[xSim g tc q], [xRf (t 3) q rc (rfs rc pp)], [(q_1, .inr (1, [.int (nI tc), .ref u_2]))], [xRf (t 3) u_2 0 (fun _ => none)], [xRf (t 3) q_3 rc (fun _ => none)], xGr (t 0) pp rc 4 (row4 F T L Z)]) [0, 1, 2, 3, 5, 4] rfl (xw_appP (a := [[xSim g tc q], [xRf (t 3) q rc (rfs rc pp)], [(q_1, .inr (1, [.int (nI tc), .ref u_2]))], [xRf (t 3) u_2 0 (fun _ => none)], xGr (t 0) pp rc 4 (row4 F T L Z)]) (b := [[xRf (t 3) q_3 rc (fun _ => none)]]) hP)
  have hD : va_D _ ([xSim g tc q, xRf (t 3) q rc (rfs rc pp), (q_1, .inr (1, [.int (nI tc), .ref u_2])), xRf (t 3) u_2 0 (fun _ => none), xRf (t 3) q_3 rc (fun _ => none)] ++ xGr (t 0) pp rc 4 (row4 F T L Z)) := xw_D (segs := [[xSim g tc q], [xRf (t 3) q rc (rfs rc pp)], [(q_1, .inr (1, [.int (nI tc), .ref u_2]))], [xRf (t 3) u_2 0 (fun _ => none)], xGr (t 0) pp rc 4 (row4 F T L Z), [xRf (t 3) q_3 rc (fun _ => none)]]) (segs' := [[xSim g tc q], [xRf (t 3) q rc (rfs rc pp)], [(q_1, .inr (1, [.int (nI tc), .ref u_2]))], [xRf (t 3) u_2 0 (fun _ => none)], [xRf (t 3) q_3 rc (fun _ => none)], xGr (t 0) pp rc 4 (row4 F T L Z)]) [0, 1, 2, 3, 5, 4] (by decide) rfl (xw_appD (a := [[xSim g tc q], [xRf (t 3) q rc (rfs rc pp)], [(q_1, .inr (1, [.int (nI tc), .ref u_2]))], [xRf (t 3) u_2 0 (fun _ => none)], xGr (t 0) pp rc 4 (row4 F T L Z)]) (b := [[xRf (t 3) q_3 rc (fun _ => none)]]) hD)
  refine W.widen (k := 3) (n := 32) (by omega) (by omega) ?_
  refine x1_put (ty := (.array (.array .int))) (v := .ref q_3) hx hb hts hin1 hown hK hP hD hS 2 ([xSim g tc q, xRf (t 3) q rc (rfs rc pp), (q_1, .inr (1, [.int (nI tc), .ref q_3])), xRf (t 3) u_2 0 (fun _ => none), xRf (t 3) q_3 rc (fun _ => none)] ++ xGr (t 0) pp rc 4 (row4 F T L Z)) rfl 1 (by decide) fl_11 rfl (by decide +kernel) rfl rfl (Nat.le_of_ble_eq_true rfl) rfl dX1_copy_25 rfl (fun H locs hP hD hS => ?_)
  have hP : va_P D vwCl ([xSim g tc q, xRf (t 3) q rc (rfs rc pp), (q_1, .inr (1, [.int (nI tc), .ref q_3])), xRf (t 3) q_3 rc (fun _ => none)] ++ xGr (t 0) pp rc 4 (row4 F T L Z)) _ := xw_P (segs := [[xSim g tc q], [xRf (t 3) q rc (rfs rc pp)], [(q_1, .inr (1, [.int (nI tc), .ref q_3]))], [xRf (t 3) u_2 0 (fun _ => none)], [xRf (t 3) q_3 rc (fun _ => none)], xGr (t 0) pp rc 4 (row4 F T L Z)]) (segs' := [[xSim g tc q], [xRf (t 3) q rc (rfs rc pp)], [(q_1, .inr (1, [.int (nI tc), .ref q_3]))], [xRf (t 3) q_3 rc (fun _ => none)], xGr (t 0) pp rc 4 (row4 F T L Z)]) [0, 1, 2, 4, 5] rfl hP
  have hD : va_D _ ([xSim g tc q, xRf (t 3) q rc (rfs rc pp), (q_1, .inr (1, [.int (nI tc), .ref q_3])), xRf (t 3) q_3 rc (fun _ => none)] ++ xGr (t 0) pp rc 4 (row4 F T L Z)) := xw_D (segs := [[xSim g tc q], [xRf (t 3) q rc (rfs rc pp)], [(q_1, .inr (1, [.int (nI tc), .ref q_3]))], [xRf (t 3) u_2 0 (fun _ => none)], [xRf (t 3) q_3 rc (fun _ => none)], xGr (t 0) pp rc 4 (row4 F T L Z)]) (segs' := [[xSim g tc q], [xRf (t 3) q rc (rfs rc pp)], [(q_1, .inr (1, [.int (nI tc), .ref q_3]))], [xRf (t 3) q_3 rc (fun _ => none)], xGr (t 0) pp rc 4 (row4 F T L Z)]) [0, 1, 2, 4, 5] (by decide) rfl hD
  rw [rfs_0 (fun _ => 0)] at hP hD
  have hP : va_P D vwCl ([xSim g tc q, xRf (t 3) q rc (rfs rc pp), (q_1, .inr (1, [.int (nI tc), .ref q_3])), xRf (t 3) q_3 rc (rfs 0 (fun _ => 0))] ++ xGr (t 0) pp rc 4 (row4 F T L Z)) _ := hP
  have hD : va_D _ ([xSim g tc q, xRf (t 3) q rc (rfs rc pp), (q_1, .inr (1, [.int (nI tc), .ref q_3])), xRf (t 3) q_3 rc (rfs 0 (fun _ => 0))] ++ xGr (t 0) pp rc 4 (row4 F T L Z)) := hD
  have hP : va_P D vwCl ([xSim g tc q, xRf (t 3) q rc (rfs rc pp), (q_1, .inr (1, [.int (nI tc), .ref q_3])), xRf (t 3) q_3 rc (rfs 0 (fun _ => 0))] ++ (xGr (t 0) pp rc 4 (row4 F T L Z) ++ xGr (t 0) (fun _ => 0) 0 4 (row4 F T L Z))) _ := xw_nilP (a := [[xSim g tc q], [xRf (t 3) q rc (rfs rc pp)], [(q_1, .inr (1, [.int (nI tc), .ref q_3]))], [xRf (t 3) q_3 rc (rfs 0 (fun _ => 0))], xGr (t 0) pp rc 4 (row4 F T L Z)]) hP
  have hD : va_D _ ([xSim g tc q, xRf (t 3) q rc (rfs rc pp), (q_1, .inr (1, [.int (nI tc), .ref q_3])), xRf (t 3) q_3 rc (rfs 0 (fun _ => 0))] ++ (xGr (t 0) pp rc 4 (row4 F T L Z) ++ xGr (t 0) (fun _ => 0) 0 4 (row4 F T L Z))) := xw_nilD (a := [[xSim g tc q], [xRf (t 3) q rc (rfs rc pp)], [(q_1, .inr (1, [.int (nI tc), .ref q_3]))], [xRf (t 3) q_3 rc (rfs 0 (fun _ => 0))], xGr (t 0) pp rc 4 (row4 F T L Z)]) hD
  have hP : va_P D vwCl ([xSim g tc q, xRf (t 3) q rc (rfs rc pp), xSim q_1 tc q_3, xRf (t 3) q_3 rc (rfs 0 (fun _ => 0))] ++ (xGr (t 0) pp rc 4 (row4 F T L Z) ++ xGr (t 0) (fun _ => 0) 0 4 (row4 F T L Z))) _ := hP
  have hD : va_D _ ([xSim g tc q, xRf (t 3) q rc (rfs rc pp), xSim q_1 tc q_3, xRf (t 3) q_3 rc (rfs 0 (fun _ => 0))] ++ (xGr (t 0) pp rc 4 (row4 F T L Z) ++ xGr (t 0) (fun _ => 0) 0 4 (row4 F T L Z))) := hD
  refine lv_iconst (v := 0) hx hb dX1_copy_28 (by decide) ?_
  refine lv_istore_n (lv' := [(2, .int 0), (1, .ref q_1), (0, .ref g)]) hx hb dX1_copy_29 rfl hl (by decide) rfl (fun ls hl => ?_)
  have lp_30 : ∀ (n30 : Nat) (i : Nat) (p2 : Nat → Nat), i + n30 = rc → ∀ (H : Heap) (locs : List Loc), va_P D vwCl ([xSim g tc q, xRf (t 3) q rc (rfs rc pp), xSim q_1 tc q_3, xRf (t 3) q_3 rc (rfs i p2)] ++ (xGr (t 0) pp rc 4 (row4 F T L Z) ++ xGr (t 0) p2 i 4 (row4 F T L Z))) H → va_D A ([xSim g tc q, xRf (t 3) q rc (rfs rc pp), xSim q_1 tc q_3, xRf (t 3) q_3 rc (rfs i p2)] ++ (xGr (t 0) pp rc 4 (row4 F T L Z) ++ xGr (t 0) p2 i 4 (row4 F T L Z))) → va_S A s.heap H locs → ∀ ls : Array Slot, lv_has ls 3 [(2, .int (nI i)), (1, .ref q_1), (0, .ref g)] → W p l e (headSpec wsX1_copy ({ frames := 2, cells := 33, slots := 152, locals := 32 } : Jvm.Room)).room s m (([.ref g] : List Value).toArray) below meth c H locs (3 + i) (32 + 4 * i) (MQ below (xQm D (fun u : Nat × Nat × (Nat → Nat) => True) (fun u : Nat × Nat × (Nat → Nat) => some (.ref u.1)) ([xSim g tc q, xRf (t 3) q rc (rfs rc pp)] ++ xGr (t 0) pp rc 4 (row4 F T L Z)) (fun u : Nat × Nat × (Nat → Nat) => [xSim g tc q, xRf (t 3) q rc (rfs rc pp), xSim u.1 tc u.2.1, xRf (t 3) u.2.1 rc (rfs rc u.2.2)] ++ (xGr (t 0) pp rc 4 (row4 F T L Z) ++ xGr (t 0) u.2.2 rc 4 (row4 F T L Z))) s.heap.size) (([.ref g] : List Value).toArray) s 33 152 A) (F0 m 30 ls []) := by
    intro n30
    induction n30 using Nat.strongRecOn with
    | _ n30 ih_30 =>
      intro i p2 hm_30 H locs hP hD hS ls hl
      refine lv_iload_n hx hb dX1_copy_30 rfl (lv_at hl 0 rfl) ?_
      refine lv_aload_n hx hb dX1_copy_31 rfl (lv_at hl 2 rfl) ?_
      refine x1_get (v := .ref q) hx hb hts hin1 hown hK hP 0 rfl 1 (by decide) fl_11 rfl dX1_copy_32 rfl ?_
      refine va_alen (v := nI rc) hx hb hK hP 1 2 rfl rfl rfl dX1_copy_35 ?_
      refine lv_icmp_ge (x := nI i) (y := nI rc) (tgt := 63) hx hb dX1_copy_36 (by decide) (fun c_4 => ?_) (fun c_4 => ?_)
      · have c_4 := (nI_leI (a := rc) (b := i) (by omega) (by omega)).mp c_4
        have hn0_30 : n30 = 0 := by omega
        subst hn0_30
        obtain rfl : rc = i := by omega
        refine lv_aload_n hx hb dX1_copy_63 rfl (lv_at hl 1 rfl) ?_
        subst hAe
        refine W.widen (k := 33) (n := 152) (by omega) (by omega) ?_
        obtain ⟨hq9, hf9⟩ := xm_end (S := Nat × Nat × (Nat → Nat)) (pu := (fun u : Nat × Nat × (Nat → Nat) => True)) (r := (fun u : Nat × Nat × (Nat → Nat) => some (.ref u.1))) (wc := ([xSim g tc q, xRf (t 3) q rc (rfs rc pp)] ++ xGr (t 0) pp rc 4 (row4 F T L Z))) (w1 := (fun u : Nat × Nat × (Nat → Nat) => [xSim g tc q, xRf (t 3) q rc (rfs rc pp), xSim u.1 tc u.2.1, xRf (t 3) u.2.1 rc (rfs rc u.2.2)] ++ (xGr (t 0) pp rc 4 (row4 F T L Z) ++ xGr (t 0) u.2.2 rc 4 (row4 F T L Z)))) (o := some (.ref q_1)) (args := ([.ref g] : List Value).toArray) (q_1, q_3, p2) rfl trivial rfl hP hD hS
        exact W.aret hx hb hr (Or.inl ⟨_, rfl⟩) (Or.inr ⟨_, rfl⟩) hq9 hf9 dX1_copy_64 hlocks
      · have c_4 : i < rc := Nat.lt_of_not_le (fun z9 => c_4 ((nI_leI (a := rc) (b := i) (by omega) (by omega)).mpr z9))
        obtain ⟨n309, rfl⟩ : ∃ z, n30 = z + 1 := ⟨n30 - 1, by omega⟩
        refine lv_aload_n hx hb dX1_copy_39 rfl (lv_at hl 1 rfl) ?_
        refine x1_get (v := .ref q_3) hx hb hts hin1 hown hK hP 2 rfl 1 (by decide) fl_11 rfl dX1_copy_40 rfl ?_
        refine lv_iload_n hx hb dX1_copy_43 rfl (lv_at hl 0 rfl) ?_
        refine lv_aload_n hx hb dX1_copy_44 rfl (lv_at hl 2 rfl) ?_
        refine x1_get (v := .ref q) hx hb hts hin1 hown hK hP 0 rfl 1 (by decide) fl_11 rfl dX1_copy_45 rfl ?_
        refine lv_iload_n hx hb dX1_copy_48 rfl (lv_at hl 0 rfl) ?_
        refine x_aald (v := pp i) hx hb hK hP 1 2 rfl rfl (k := i) (by omega) (by omega) (rfs_at (by omega)) dX1_copy_49 ?_
        refine x_clone (n := 4) (f := (row4 F T L Z) i) hx hb (hml.trans hl.1.symm) hown (hts (.methodLink RX1 22 ⟨"[I", "clone", "()Ljava/lang/Object;"⟩) (by decide +kernel)) (hts (.sameMethod "[I" "java/lang/Object" "clone" "()Ljava/lang/Object;") (by decide +kernel)) (hts (.native ⟨"java/lang/Object", "clone", "()Ljava/lang/Object;"⟩) (by decide +kernel)) (hts (.instanceMethod ⟨"java/lang/Object", "clone", "()Ljava/lang/Object;"⟩) (by decide +kernel)) (hts (.selects "[I" ⟨"[I", "clone", "()Ljava/lang/Object;"⟩ ⟨"java/lang/Object", "clone", "()Ljava/lang/Object;"⟩) (by decide +kernel)) hXA hK hP hD hS hA (sg_ex (segs := [[xSim g tc q], [xRf (t 3) q rc (rfs rc pp)], [xSim q_1 tc q_3], [xRf (t 3) q_3 rc (rfs i p2)], xGr (t 0) pp rc 4 (row4 F T L Z), xGr (t 0) p2 i 4 (row4 F T L Z)]) 4 rfl (i := i) (xGr_get (by omega))) (Nat.le_of_ble_eq_true rfl) (Nat.le_of_ble_eq_true rfl) (by show _ ≤ 33; omega) (by show _ ≤ 152; omega) dX1_copy_50 (fun q_5 H hP hD hS => ?_)
        have hP : va_P D vwCl ([xSim g tc q, xRf (t 3) q rc (rfs rc pp), xSim q_1 tc q_3, xRf (t 3) q_3 rc (rfs i p2)] ++ (xGr (t 0) pp rc 4 (row4 F T L Z) ++ (xGr (t 0) p2 i 4 (row4 F T L Z) ++ [xArr (t 0) q_5 4 ((row4 F T L Z) i)]))) _ := xw_P (segs := [[xSim g tc q], [xRf (t 3) q rc (rfs rc pp)], [xSim q_1 tc q_3], [xRf (t 3) q_3 rc (rfs i p2)], xGr (t 0) pp rc 4 (row4 F T L Z), xGr (t 0) p2 i 4 (row4 F T L Z), [xArr (t 0) q_5 4 ((row4 F T L Z) i)]]) (segs' := [[xSim g tc q], [xRf (t 3) q rc (rfs rc pp)], [xSim q_1 tc q_3], [xRf (t 3) q_3 rc (rfs i p2)], xGr (t 0) pp rc 4 (row4 F T L Z), xGr (t 0) p2 i 4 (row4 F T L Z), [xArr (t 0) q_5 4 ((row4 F T L Z) i)]]) [0, 1, 2, 3, 4, 5, 6] rfl (xw_appP (a := [[xSim g tc q], [xRf (t 3) q rc (rfs rc pp)], [xSim q_1 tc q_3], [xRf (t 3) q_3 rc (rfs i p2)], xGr (t 0) pp rc 4 (row4 F T L Z), xGr (t 0) p2 i 4 (row4 F T L Z)]) (b := [[xArr (t 0) q_5 4 ((row4 F T L Z) i)]]) hP)
        have hD : va_D _ ([xSim g tc q, xRf (t 3) q rc (rfs rc pp), xSim q_1 tc q_3, xRf (t 3) q_3 rc (rfs i p2)] ++ (xGr (t 0) pp rc 4 (row4 F T L Z) ++ (xGr (t 0) p2 i 4 (row4 F T L Z) ++ [xArr (t 0) q_5 4 ((row4 F T L Z) i)]))) := xw_D (segs := [[xSim g tc q], [xRf (t 3) q rc (rfs rc pp)], [xSim q_1 tc q_3], [xRf (t 3) q_3 rc (rfs i p2)], xGr (t 0) pp rc 4 (row4 F T L Z), xGr (t 0) p2 i 4 (row4 F T L Z), [xArr (t 0) q_5 4 ((row4 F T L Z) i)]]) (segs' := [[xSim g tc q], [xRf (t 3) q rc (rfs rc pp)], [xSim q_1 tc q_3], [xRf (t 3) q_3 rc (rfs i p2)], xGr (t 0) pp rc 4 (row4 F T L Z), xGr (t 0) p2 i 4 (row4 F T L Z), [xArr (t 0) q_5 4 ((row4 F T L Z) i)]]) [0, 1, 2, 3, 4, 5, 6] (by decide) rfl (xw_appD (a := [[xSim g tc q], [xRf (t 3) q rc (rfs rc pp)], [xSim q_1 tc q_3], [xRf (t 3) q_3 rc (rfs i p2)], xGr (t 0) pp rc 4 (row4 F T L Z), xGr (t 0) p2 i 4 (row4 F T L Z)]) (b := [[xArr (t 0) q_5 4 ((row4 F T L Z) i)]]) hD)
        obtain ⟨qk9, hqk9⟩ := sg_ex (segs := [[xSim g tc q], [xRf (t 3) q rc (rfs rc pp)], [xSim q_1 tc q_3], [xRf (t 3) q_3 rc (rfs i p2)], xGr (t 0) pp rc 4 (row4 F T L Z), xGr (t 0) p2 i 4 (row4 F T L Z), [xArr (t 0) q_5 4 ((row4 F T L Z) i)]]) 6 rfl (i := 0) rfl
        refine va_castA (ws := wj [[xSim g tc q], [xRf (t 3) q rc (rfs rc pp)], [xSim q_1 tc q_3], [xRf (t 3) q_3 rc (rfs i p2)], xGr (t 0) pp rc 4 (row4 F T L Z), xGr (t 0) p2 i 4 (row4 F T L Z), [xArr (t 0) q_5 4 ((row4 F T L Z) i)]]) hx hb hown (hts (.classLink RX1 9 "[I") (by decide +kernel)) hP qk9 hqk9 (va_nm_int (hK.2 0 (t 0, .int) rfl).2) dX1_copy_53 ?_
        refine x_aast hx hb hXA.1 hK hP hD hS 3 ([xSim g tc q, xRf (t 3) q rc (rfs rc pp), xSim q_1 tc q_3, xRf (t 3) q_3 rc (rfs (i + 1) (updN p2 i q_5))] ++ (xGr (t 0) pp rc 4 (row4 F T L Z) ++ (xGr (t 0) p2 i 4 (row4 F T L Z) ++ [xArr (t 0) q_5 4 ((row4 F T L Z) i)]))) rfl (sg_ex (segs := [[xSim g tc q], [xRf (t 3) q rc (rfs rc pp)], [xSim q_1 tc q_3], [xRf (t 3) q_3 rc (rfs i p2)], xGr (t 0) pp rc 4 (row4 F T L Z), xGr (t 0) p2 i 4 (row4 F T L Z), [xArr (t 0) q_5 4 ((row4 F T L Z) i)]]) 6 rfl (i := 0) rfl) (rfs_up _ _ _) rfl (by omega) (by omega) dX1_copy_56 (fun H locs hP hD hS => ?_)
        have hP : va_P D vwCl ([xSim g tc q, xRf (t 3) q rc (rfs rc pp), xSim q_1 tc q_3, xRf (t 3) q_3 rc (rfs (i + 1) (updN p2 i q_5))] ++ (xGr (t 0) pp rc 4 (row4 F T L Z) ++ (xGr (t 0) p2 i 4 (row4 F T L Z) ++ [xArr (t 0) q_5 4 ((row4 F T L Z) i)]))) _ := xw_P (segs := [[xSim g tc q], [xRf (t 3) q rc (rfs rc pp)], [xSim q_1 tc q_3], [xRf (t 3) q_3 rc (rfs (i + 1) (updN p2 i q_5))], xGr (t 0) pp rc 4 (row4 F T L Z), xGr (t 0) p2 i 4 (row4 F T L Z), [xArr (t 0) q_5 4 ((row4 F T L Z) i)]]) (segs' := [[xSim g tc q], [xRf (t 3) q rc (rfs rc pp)], [xSim q_1 tc q_3], [xRf (t 3) q_3 rc (rfs (i + 1) (updN p2 i q_5))], xGr (t 0) pp rc 4 (row4 F T L Z), xGr (t 0) p2 i 4 (row4 F T L Z), [xArr (t 0) q_5 4 ((row4 F T L Z) i)]]) [0, 1, 2, 3, 4, 5, 6] rfl hP
        have hD : va_D _ ([xSim g tc q, xRf (t 3) q rc (rfs rc pp), xSim q_1 tc q_3, xRf (t 3) q_3 rc (rfs (i + 1) (updN p2 i q_5))] ++ (xGr (t 0) pp rc 4 (row4 F T L Z) ++ (xGr (t 0) p2 i 4 (row4 F T L Z) ++ [xArr (t 0) q_5 4 ((row4 F T L Z) i)]))) := xw_D (segs := [[xSim g tc q], [xRf (t 3) q rc (rfs rc pp)], [xSim q_1 tc q_3], [xRf (t 3) q_3 rc (rfs (i + 1) (updN p2 i q_5))], xGr (t 0) pp rc 4 (row4 F T L Z), xGr (t 0) p2 i 4 (row4 F T L Z), [xArr (t 0) q_5 4 ((row4 F T L Z) i)]]) (segs' := [[xSim g tc q], [xRf (t 3) q rc (rfs rc pp)], [xSim q_1 tc q_3], [xRf (t 3) q_3 rc (rfs (i + 1) (updN p2 i q_5))], xGr (t 0) pp rc 4 (row4 F T L Z), xGr (t 0) p2 i 4 (row4 F T L Z), [xArr (t 0) q_5 4 ((row4 F T L Z) i)]]) [0, 1, 2, 3, 4, 5, 6] (by decide) rfl hD
        rw [xGr_up'] at hP hD
        have hP : va_P D vwCl ([xSim g tc q, xRf (t 3) q rc (rfs rc pp), xSim q_1 tc q_3, xRf (t 3) q_3 rc (rfs (i + 1) (updN p2 i q_5))] ++ (xGr (t 0) pp rc 4 (row4 F T L Z) ++ xGr (t 0) (updN p2 i q_5) (i + 1) 4 (row4 F T L Z))) _ := hP
        have hD : va_D _ ([xSim g tc q, xRf (t 3) q rc (rfs rc pp), xSim q_1 tc q_3, xRf (t 3) q_3 rc (rfs (i + 1) (updN p2 i q_5))] ++ (xGr (t 0) pp rc 4 (row4 F T L Z) ++ xGr (t 0) (updN p2 i q_5) (i + 1) 4 (row4 F T L Z))) := hD
        refine lv_iinc (v := nI (i + 1)) (lv' := [(2, .int (nI (i + 1))), (1, .ref q_1), (0, .ref g)]) hx hb dX1_copy_57 hl (k := 0) rfl (x_inc _) (by decide) rfl (fun ls hl => ?_)
        refine lv_goto (tgt := 30) hx hb dX1_copy_60 (by decide) ?_
        refine W.widen (k := 3 + (i + 1)) (n := 32 + 4 * (i + 1)) (by omega) (by omega) ?_
        exact ih_30 n309 (by omega) (i + 1) (updN p2 i q_5) (by omega) _ _ hP hD hS _ (lv_sub hl [0, 1, 2] rfl)
  refine W.widen (k := 3 + 0) (n := 32 + 4 * 0) (by omega) (by omega) ?_
  exact lp_30 rc 0 (fun _ => 0) (by omega) _ _ hP hD hS _ (lv_sub hl [0, 1, 2] rfl)
set_option maxHeartbeats 4000000 in
set_option maxRecDepth 100000 in
theorem c_X1_waysY (l : Launch) (D : va_G) (t : Nat → ClassId) (g tc q rc : Nat) (pp : Nat → Nat) (F T : Nat → Nat) (L : Nat → Int32) (Z : Nat → Bool) (Wy : Nat → Nat → Int32) (sz : Nat) (htc : tc ≤ 12) (hrc : rc ≤ 30) (hF : ∀ r, r < rc → F r < tc ∧ T r < tc) (hW : bfW F T L Z tc rc = some Wy) : Met l yX1_ways wsX1_ways ({ frames := 0, cells := 13, slots := 156, locals := 0 }) (xMu D (xTy t) xAo [.ref g] ([xSim g tc q, xRf (t 3) q rc (rfs rc pp)] ++ xGr (t 0) pp rc 4 (row4 F T L Z)) sz) (xQm D (fun u : Nat × (Nat → Nat) => True) (fun u : Nat × (Nat → Nat) => some (.ref u.1)) ([xSim g tc q, xRf (t 3) q rc (rfs rc pp)] ++ xGr (t 0) pp rc 4 (row4 F T L Z)) (fun u : Nat × (Nat → Nat) => [xSim g tc q, xRf (t 3) q rc (rfs rc pp), xRf (t 3) u.1 tc (rfs tc u.2)] ++ (xGr (t 0) pp rc 4 (row4 F T L Z) ++ xGr (t 0) u.2 tc tc Wy)) sz) 13 156 (va_A ([xSim g tc q, xRf (t 3) q rc (rfs rc pp)] ++ xGr (t 0) pp rc 4 (row4 F T L Z)) sz) := by
  refine Met.ofW (cc := cX1_ways) (maxL := 9) (ret := (some (.array (.array .int)))) (by decide) rfl ?_
  intro p e s m args below meth c s₁ hB9 hml hv
  obtain ⟨rfl, hsz, hP, hK, hD0, hXX⟩ := hv
  have hx := hB9.exec
  have hb := hB9.bytes
  have hr := hB9.returns
  have hts := atoms_spec (ws := wsX1_ways) hB9.pre
  have hown : s.vm.findClass RX1 = some m.cls := findClass_of_methodNamed hB9.named
  have hlocks := hB9.notSynchronized
  have hin1 : ∀ w ∈ wsX10, w ∈ wsX1_ways := fun _ h => List.mem_cons_of_mem _ (List.mem_append_right _ h)
  have fl_18 := hts (.fieldLink RX1 18 "RopeTimesLaw$Sim" "turns" "I") (by decide +kernel)
  have kc_27 := hts (.constant RX1 27 (99999)) (by decide +kernel)
  have fl_11 := hts (.fieldLink RX1 11 "RopeTimesLaw$Sim" "ropes" "[[I") (by decide +kernel)
  subst hsz
  have hD := hD0.self (sz := s.heap.size)
  generalize hAe : va_A ([xSim g tc q, xRf (t 3) q rc (rfs rc pp)] ++ xGr (t 0) pp rc 4 (row4 F T L Z)) s.heap.size = A at hD ⊢
  have hA : ∀ q : Nat, s.heap.size ≤ q → A q := fun q h => by rw [← hAe]; exact Or.inr h
  have hS : va_S A s.heap s.heap [] := va_S.rf
  have hP : va_P D vwCl ([xSim g tc q, xRf (t 3) q rc (rfs rc pp)] ++ xGr (t 0) pp rc 4 (row4 F T L Z)) s.heap := hP
  have hD : va_D A ([xSim g tc q, xRf (t 3) q rc (rfs rc pp)] ++ xGr (t 0) pp rc 4 (row4 F T L Z)) := hD
  have hl := lv_entry ([.ref g]) (n := 9) (Nat.le_of_ble_eq_true rfl)
  rw [lg_entry_eq]
  generalize (lg_sl ([.ref g]) ++ List.replicate (9 - (lg_sl ([.ref g])).length) Slot.unset).toArray = ls at hl ⊢
  have hl : lv_has ls 9 [(0, .ref g)] := hl
  have hXA : xAo s := hXX
  have hsq : tc * tc ≤ 144 := Nat.mul_le_mul htc htc
  refine lv_aload_n hx hb dX1_ways_0 rfl (lv_at hl 0 rfl) ?_
  refine x1_get (v := .int (nI tc)) hx hb hts hin1 hown hK hP 0 rfl 0 (by decide) fl_18 rfl dX1_ways_1 rfl ?_
  refine lv_aload_n hx hb dX1_ways_4 rfl (lv_at hl 0 rfl) ?_
  refine x1_get (v := .int (nI tc)) hx hb hts hin1 hown hK hP 0 rfl 0 (by decide) fl_18 rfl dX1_ways_5 rfl ?_
  refine x_mna (n := tc) hx hb hown (hts (.classLink RX1 26 "[[I") (by decide +kernel)) hXA.1 (hts (.arrayClass .int) (by decide +kernel)) hK hP hD hS hA (by omega) (by show _ ≤ 13; omega) (by show _ ≤ 156; omega) dX1_ways_8 (fun q_1 gr_2 H hP hD hS => ?_)
  have hP : va_P D vwCl ([xSim g tc q, xRf (t 3) q rc (rfs rc pp), xRf (t 3) q_1 tc (rfs tc gr_2)] ++ (xGr (t 0) pp rc 4 (row4 F T L Z) ++ xGr (t 0) gr_2 tc tc (fun _ _ => 0))) _ := xw_P (segs := [[xSim g tc q], [xRf (t 3) q rc (rfs rc pp)], xGr (t 0) pp rc 4 (row4 F T L Z), [xRf (t 3) q_1 tc (rfs tc gr_2)], xGr (t 0) gr_2 tc tc (fun _ _ => 0)]) (segs' := [[xSim g tc q], [xRf (t 3) q rc (rfs rc pp)], [xRf (t 3) q_1 tc (rfs tc gr_2)], xGr (t 0) pp rc 4 (row4 F T L Z), xGr (t 0) gr_2 tc tc (fun _ _ => 0)]) [0, 1, 3, 2, 4] rfl (xw_app3P (a := [[xSim g tc q], [xRf (t 3) q rc (rfs rc pp)], xGr (t 0) pp rc 4 (row4 F T L Z)]) (b := [[xRf (t 3) q_1 tc (rfs tc gr_2)]]) (c := [xGr (t 0) gr_2 tc tc (fun _ _ => 0)]) hP)
  have hD : va_D _ ([xSim g tc q, xRf (t 3) q rc (rfs rc pp), xRf (t 3) q_1 tc (rfs tc gr_2)] ++ (xGr (t 0) pp rc 4 (row4 F T L Z) ++ xGr (t 0) gr_2 tc tc (fun _ _ => 0))) := xw_D (segs := [[xSim g tc q], [xRf (t 3) q rc (rfs rc pp)], xGr (t 0) pp rc 4 (row4 F T L Z), [xRf (t 3) q_1 tc (rfs tc gr_2)], xGr (t 0) gr_2 tc tc (fun _ _ => 0)]) (segs' := [[xSim g tc q], [xRf (t 3) q rc (rfs rc pp)], [xRf (t 3) q_1 tc (rfs tc gr_2)], xGr (t 0) pp rc 4 (row4 F T L Z), xGr (t 0) gr_2 tc tc (fun _ _ => 0)]) [0, 1, 3, 2, 4] (by decide) rfl (xw_app3D (a := [[xSim g tc q], [xRf (t 3) q rc (rfs rc pp)], xGr (t 0) pp rc 4 (row4 F T L Z)]) (b := [[xRf (t 3) q_1 tc (rfs tc gr_2)]]) (c := [xGr (t 0) gr_2 tc tc (fun _ _ => 0)]) hD)
  refine W.widen (k := 13) (n := 156) (by omega) (by omega) ?_
  refine lv_astore_n (lv' := [(1, .ref q_1), (0, .ref g)]) hx hb dX1_ways_12 rfl hl (by decide) rfl (fun ls hl => ?_)
  refine lv_iconst (v := 0) hx hb dX1_ways_13 (by decide) ?_
  refine lv_istore_n (lv' := [(2, .int 0), (1, .ref q_1), (0, .ref g)]) hx hb dX1_ways_14 rfl hl (by decide) rfl (fun ls hl => ?_)
  have lp_15 : ∀ (n15 : Nat) (i : Nat) (M0 : Nat → Nat → Int32), i + n15 = tc → gIn tc n15 i M0 = gIn tc tc 0 (fun _ _ => 0) → ∀ (H : Heap) (locs : List Loc), va_P D vwCl ([xSim g tc q, xRf (t 3) q rc (rfs rc pp), xRf (t 3) q_1 tc (rfs tc gr_2)] ++ (xGr (t 0) pp rc 4 (row4 F T L Z) ++ xGr (t 0) gr_2 tc tc M0)) H → va_D A ([xSim g tc q, xRf (t 3) q rc (rfs rc pp), xRf (t 3) q_1 tc (rfs tc gr_2)] ++ (xGr (t 0) pp rc 4 (row4 F T L Z) ++ xGr (t 0) gr_2 tc tc M0)) → va_S A s.heap H locs → ∀ ls : Array Slot, lv_has ls 9 [(2, .int (nI i)), (1, .ref q_1), (0, .ref g)] → W p l e (headSpec wsX1_ways ({ frames := 0, cells := 13, slots := 156, locals := 0 } : Jvm.Room)).room s m (([.ref g] : List Value).toArray) below meth c H locs 13 156 (MQ below (xQm D (fun u : Nat × (Nat → Nat) => True) (fun u : Nat × (Nat → Nat) => some (.ref u.1)) ([xSim g tc q, xRf (t 3) q rc (rfs rc pp)] ++ xGr (t 0) pp rc 4 (row4 F T L Z)) (fun u : Nat × (Nat → Nat) => [xSim g tc q, xRf (t 3) q rc (rfs rc pp), xRf (t 3) u.1 tc (rfs tc u.2)] ++ (xGr (t 0) pp rc 4 (row4 F T L Z) ++ xGr (t 0) u.2 tc tc Wy)) s.heap.size) (([.ref g] : List Value).toArray) s 13 156 A) (F0 m 15 ls []) := by
    intro n15
    induction n15 using Nat.strongRecOn with
    | _ n15 ih_15 =>
      intro i M0 hm_15 hfin_15 H locs hP hD hS ls hl
      refine lv_iload_n hx hb dX1_ways_15 rfl (lv_at hl 0 rfl) ?_
      refine lv_aload_n hx hb dX1_ways_16 rfl (lv_at hl 2 rfl) ?_
      refine x1_get (v := .int (nI tc)) hx hb hts hin1 hown hK hP 0 rfl 0 (by decide) fl_18 rfl dX1_ways_17 rfl ?_
      refine lv_icmp_ge (x := nI i) (y := nI tc) (tgt := 61) hx hb dX1_ways_20 (by decide) (fun c_3 => ?_) (fun c_3 => ?_)
      · have c_3 := (nI_leI (a := tc) (b := i) (by omega) (by omega)).mp c_3
        have hn0_15 : n15 = 0 := by omega
        subst hn0_15
        obtain rfl : M0 = gIn tc tc 0 (fun _ _ => 0) := hfin_15
        refine lv_iconst (v := 0) hx hb dX1_ways_61 (by decide) ?_
        refine lv_istore_n (lv' := [(2, .int 0), (1, .ref q_1), (0, .ref g)]) hx hb dX1_ways_62 rfl hl (by decide) rfl (fun ls hl => ?_)
        have lp_63 : ∀ (n63 : Nat) (k : Nat) (M2 : Nat → Nat → Int32), k + n63 = tc + 1 → bfT F T L Z tc rc n63 M2 = bfT F T L Z tc rc (tc + 1) (gIn tc tc 0 (fun _ _ => 0)) → ∀ (H : Heap) (locs : List Loc), va_P D vwCl ([xSim g tc q, xRf (t 3) q rc (rfs rc pp), xRf (t 3) q_1 tc (rfs tc gr_2)] ++ (xGr (t 0) pp rc 4 (row4 F T L Z) ++ xGr (t 0) gr_2 tc tc M2)) H → va_D A ([xSim g tc q, xRf (t 3) q rc (rfs rc pp), xRf (t 3) q_1 tc (rfs tc gr_2)] ++ (xGr (t 0) pp rc 4 (row4 F T L Z) ++ xGr (t 0) gr_2 tc tc M2)) → va_S A s.heap H locs → ∀ ls : Array Slot, lv_has ls 9 [(2, .int (nI k)), (1, .ref q_1), (0, .ref g)] → W p l e (headSpec wsX1_ways ({ frames := 0, cells := 13, slots := 156, locals := 0 } : Jvm.Room)).room s m (([.ref g] : List Value).toArray) below meth c H locs 13 156 (MQ below (xQm D (fun u : Nat × (Nat → Nat) => True) (fun u : Nat × (Nat → Nat) => some (.ref u.1)) ([xSim g tc q, xRf (t 3) q rc (rfs rc pp)] ++ xGr (t 0) pp rc 4 (row4 F T L Z)) (fun u : Nat × (Nat → Nat) => [xSim g tc q, xRf (t 3) q rc (rfs rc pp), xRf (t 3) u.1 tc (rfs tc u.2)] ++ (xGr (t 0) pp rc 4 (row4 F T L Z) ++ xGr (t 0) u.2 tc tc Wy)) s.heap.size) (([.ref g] : List Value).toArray) s 13 156 A) (F0 m 63 ls []) := by
          intro n63
          induction n63 using Nat.strongRecOn with
          | _ n63 ih_63 =>
            intro k M2 hm_63 hfin_63 H locs hP hD hS ls hl
            refine lv_iload_n hx hb dX1_ways_63 rfl (lv_at hl 0 rfl) ?_
            refine lv_aload_n hx hb dX1_ways_64 rfl (lv_at hl 2 rfl) ?_
            refine x1_get (v := .int (nI tc)) hx hb hts hin1 hown hK hP 0 rfl 0 (by decide) fl_18 rfl dX1_ways_65 rfl ?_
            refine lv_icmp_gt (x := nI k) (y := nI tc) (tgt := 212) hx hb dX1_ways_68 (by decide) (fun c_4 => ?_) (fun c_4 => ?_)
            · have c_4 := (nI_ltI (a := tc) (b := k) (by omega) (by omega)).mp c_4
              exact absurd hfin_63 (by rw [show n63 = 0 by omega]; intro z; exact absurd (z.trans hW) (by intro z9; cases z9))
            · have c_4 : k ≤ tc := Nat.le_of_not_lt (fun z9 => c_4 ((nI_ltI (a := tc) (b := k) (by omega) (by omega)).mpr z9))
              obtain ⟨n639, rfl⟩ : ∃ z, n63 = z + 1 := ⟨n63 - 1, by omega⟩
              refine lv_iconst (v := 0) hx hb dX1_ways_71 (by decide) ?_
              refine lv_istore_n (lv' := [(3, .int 0), (2, .int (nI k)), (1, .ref q_1), (0, .ref g)]) hx hb dX1_ways_72 rfl hl (by decide) rfl (fun ls hl => ?_)
              refine lv_iconst (v := 0) hx hb dX1_ways_73 (by decide) ?_
              refine lv_istore (lv' := [(4, .int 0), (3, .int 0), (2, .int (nI k)), (1, .ref q_1), (0, .ref g)]) hx hb dX1_ways_74 hl (by decide) rfl (fun ls hl => ?_)
              have lp_76 : ∀ (n76 : Nat) (a : Nat) (M3 : Nat → Nat → Int32) (ch : Bool), a + n76 = tc → bfG F T L Z rc n76 a M3 ch = bfG F T L Z rc tc 0 M2 false → ∀ (H : Heap) (locs : List Loc), va_P D vwCl ([xSim g tc q, xRf (t 3) q rc (rfs rc pp), xRf (t 3) q_1 tc (rfs tc gr_2)] ++ (xGr (t 0) pp rc 4 (row4 F T L Z) ++ xGr (t 0) gr_2 tc tc M3)) H → va_D A ([xSim g tc q, xRf (t 3) q rc (rfs rc pp), xRf (t 3) q_1 tc (rfs tc gr_2)] ++ (xGr (t 0) pp rc 4 (row4 F T L Z) ++ xGr (t 0) gr_2 tc tc M3)) → va_S A s.heap H locs → ∀ ls : Array Slot, lv_has ls 9 [(4, .int (nI a)), (3, .int (bI ch)), (2, .int (nI k)), (1, .ref q_1), (0, .ref g)] → W p l e (headSpec wsX1_ways ({ frames := 0, cells := 13, slots := 156, locals := 0 } : Jvm.Room)).room s m (([.ref g] : List Value).toArray) below meth c H locs 13 156 (MQ below (xQm D (fun u : Nat × (Nat → Nat) => True) (fun u : Nat × (Nat → Nat) => some (.ref u.1)) ([xSim g tc q, xRf (t 3) q rc (rfs rc pp)] ++ xGr (t 0) pp rc 4 (row4 F T L Z)) (fun u : Nat × (Nat → Nat) => [xSim g tc q, xRf (t 3) q rc (rfs rc pp), xRf (t 3) u.1 tc (rfs tc u.2)] ++ (xGr (t 0) pp rc 4 (row4 F T L Z) ++ xGr (t 0) u.2 tc tc Wy)) s.heap.size) (([.ref g] : List Value).toArray) s 13 156 A) (F0 m 76 ls []) := by
                intro n76
                induction n76 using Nat.strongRecOn with
                | _ n76 ih_76 =>
                  intro a M3 ch hm_76 hfin_76 H locs hP hD hS ls hl
                  refine lv_iload hx hb dX1_ways_76 (lv_at hl 0 rfl) ?_
                  refine lv_aload_n hx hb dX1_ways_78 rfl (lv_at hl 4 rfl) ?_
                  refine x1_get (v := .int (nI tc)) hx hb hts hin1 hown hK hP 0 rfl 0 (by decide) fl_18 rfl dX1_ways_79 rfl ?_
                  refine lv_icmp_ge (x := nI a) (y := nI tc) (tgt := 200) hx hb dX1_ways_82 (by decide) (fun c_5 => ?_) (fun c_5 => ?_)
                  · have c_5 := (nI_leI (a := tc) (b := a) (by omega) (by omega)).mp c_5
                    have hn0_76 : n76 = 0 := by omega
                    subst hn0_76
                    obtain rfl : M3 = (bfG F T L Z rc tc 0 M2 false).1 := congrArg (fun z => z.1) hfin_76
                    obtain rfl : ch = (bfG F T L Z rc tc 0 M2 false).2 := congrArg (fun z => z.2) hfin_76
                    refine lv_iload_n hx hb dX1_ways_200 rfl (lv_at hl 1 rfl) ?_
                    refine lv_if_ne (x := bI ((bfG F T L Z rc tc 0 M2 false).2)) (tgt := 206) hx hb dX1_ways_201 (by decide) (fun c_6 => ?_) (fun c_6 => ?_)
                    · have c_6 := bI_n0 c_6
                      refine lv_iinc (v := nI (k + 1)) (lv' := [(2, .int (nI (k + 1))), (4, .int (nI a)), (3, .int (bI ((bfG F T L Z rc tc 0 M2 false).2))), (1, .ref q_1), (0, .ref g)]) hx hb dX1_ways_206 hl (k := 2) rfl (x_inc _) (by decide) rfl (fun ls hl => ?_)
                      refine lv_goto (tgt := 63) hx hb dX1_ways_209 (by decide) ?_
                      exact ih_63 n639 (by omega) (k + 1) ((bfG F T L Z rc tc 0 M2 false).1) (by omega) (by rw [← hfin_63]; simp [bfT, c_3, Nat.not_lt.mpr c_3, c_4, Nat.not_lt.mpr c_4, c_5, Nat.not_lt.mpr c_5, c_6]) _ _ hP hD hS _ (lv_sub hl [0, 3, 4] rfl)
                    · have c_6 := bI_0 c_6
                      refine lv_aload_n hx hb dX1_ways_204 rfl (lv_at hl 3 rfl) ?_
                      have hWe : (bfG F T L Z rc tc 0 M2 false).1 = Wy := by
                                          have h9 := hfin_63
                                          rw [bfT, if_neg (by simp [c_3, Nat.not_lt.mpr c_3, c_4, Nat.not_lt.mpr c_4, c_5, Nat.not_lt.mpr c_5, c_6])] at h9
                                          exact Option.some.inj (h9.trans hW)
                      rw [hWe] at hP hD
                      subst hAe
                      obtain ⟨hq9, hf9⟩ := xm_end (S := Nat × (Nat → Nat)) (pu := (fun u : Nat × (Nat → Nat) => True)) (r := (fun u : Nat × (Nat → Nat) => some (.ref u.1))) (wc := ([xSim g tc q, xRf (t 3) q rc (rfs rc pp)] ++ xGr (t 0) pp rc 4 (row4 F T L Z))) (w1 := (fun u : Nat × (Nat → Nat) => [xSim g tc q, xRf (t 3) q rc (rfs rc pp), xRf (t 3) u.1 tc (rfs tc u.2)] ++ (xGr (t 0) pp rc 4 (row4 F T L Z) ++ xGr (t 0) u.2 tc tc Wy))) (o := some (.ref q_1)) (args := ([.ref g] : List Value).toArray) (q_1, gr_2) rfl trivial rfl hP hD hS
                      exact W.aret hx hb hr (Or.inr ⟨_, rfl⟩) (Or.inr ⟨_, rfl⟩) hq9 hf9 dX1_ways_205 hlocks
                  · have c_5 : a < tc := Nat.lt_of_not_le (fun z9 => c_5 ((nI_leI (a := tc) (b := a) (by omega) (by omega)).mpr z9))
                    obtain ⟨n769, rfl⟩ : ∃ z, n76 = z + 1 := ⟨n76 - 1, by omega⟩
                    refine lv_aload_n hx hb dX1_ways_85 rfl (lv_at hl 4 rfl) ?_
                    refine x1_get (v := .ref q) hx hb hts hin1 hown hK hP 0 rfl 1 (by decide) fl_11 rfl dX1_ways_86 rfl ?_
                    refine lv_astore (lv' := [(5, .ref q), (4, .int (nI a)), (3, .int (bI ch)), (2, .int (nI k)), (1, .ref q_1), (0, .ref g)]) hx hb dX1_ways_89 hl (by decide) rfl (fun ls hl => ?_)
                    refine lv_aload hx hb dX1_ways_91 (lv_at hl 0 rfl) ?_
                    refine va_alen (v := nI rc) hx hb hK hP 1 2 rfl rfl rfl dX1_ways_93 ?_
                    refine lv_istore (lv' := [(6, .int (nI rc)), (5, .ref q), (4, .int (nI a)), (3, .int (bI ch)), (2, .int (nI k)), (1, .ref q_1), (0, .ref g)]) hx hb dX1_ways_94 hl (by decide) rfl (fun ls hl => ?_)
                    refine lv_iconst (v := 0) hx hb dX1_ways_96 (by decide) ?_
                    refine lv_istore (lv' := [(7, .int 0), (6, .int (nI rc)), (5, .ref q), (4, .int (nI a)), (3, .int (bI ch)), (2, .int (nI k)), (1, .ref q_1), (0, .ref g)]) hx hb dX1_ways_97 hl (by decide) rfl (fun ls hl => ?_)
                    have lp_99 : ∀ (n99 : Nat) (r : Nat) (M4 : Nat → Nat → Int32) (ch2 : Bool), r + n99 = rc → bfI F T L Z a n99 r M4 ch2 = bfI F T L Z a rc 0 M3 ch → ∀ (H : Heap) (locs : List Loc), va_P D vwCl ([xSim g tc q, xRf (t 3) q rc (rfs rc pp), xRf (t 3) q_1 tc (rfs tc gr_2)] ++ (xGr (t 0) pp rc 4 (row4 F T L Z) ++ xGr (t 0) gr_2 tc tc M4)) H → va_D A ([xSim g tc q, xRf (t 3) q rc (rfs rc pp), xRf (t 3) q_1 tc (rfs tc gr_2)] ++ (xGr (t 0) pp rc 4 (row4 F T L Z) ++ xGr (t 0) gr_2 tc tc M4)) → va_S A s.heap H locs → ∀ ls : Array Slot, lv_has ls 9 [(7, .int (nI r)), (6, .int (nI rc)), (5, .ref q), (4, .int (nI a)), (3, .int (bI ch2)), (2, .int (nI k)), (1, .ref q_1), (0, .ref g)] → W p l e (headSpec wsX1_ways ({ frames := 0, cells := 13, slots := 156, locals := 0 } : Jvm.Room)).room s m (([.ref g] : List Value).toArray) below meth c H locs 13 156 (MQ below (xQm D (fun u : Nat × (Nat → Nat) => True) (fun u : Nat × (Nat → Nat) => some (.ref u.1)) ([xSim g tc q, xRf (t 3) q rc (rfs rc pp)] ++ xGr (t 0) pp rc 4 (row4 F T L Z)) (fun u : Nat × (Nat → Nat) => [xSim g tc q, xRf (t 3) q rc (rfs rc pp), xRf (t 3) u.1 tc (rfs tc u.2)] ++ (xGr (t 0) pp rc 4 (row4 F T L Z) ++ xGr (t 0) u.2 tc tc Wy)) s.heap.size) (([.ref g] : List Value).toArray) s 13 156 A) (F0 m 99 ls []) := by
                      intro n99
                      induction n99 using Nat.strongRecOn with
                      | _ n99 ih_99 =>
                        intro r M4 ch2 hm_99 hfin_99 H locs hP hD hS ls hl
                        refine lv_iload hx hb dX1_ways_99 (lv_at hl 0 rfl) ?_
                        refine lv_iload hx hb dX1_ways_101 (lv_at hl 1 rfl) ?_
                        refine lv_icmp_ge (x := nI r) (y := nI rc) (tgt := 194) hx hb dX1_ways_103 (by decide) (fun c_7 => ?_) (fun c_7 => ?_)
                        · have c_7 := (nI_leI (a := rc) (b := r) (by omega) (by omega)).mp c_7
                          have hn0_99 : n99 = 0 := by omega
                          subst hn0_99
                          obtain rfl : M4 = (bfI F T L Z a rc 0 M3 ch).1 := congrArg (fun z => z.1) hfin_99
                          obtain rfl : ch2 = (bfI F T L Z a rc 0 M3 ch).2 := congrArg (fun z => z.2) hfin_99
                          refine lv_iinc (v := nI (a + 1)) (lv' := [(4, .int (nI (a + 1))), (7, .int (nI r)), (6, .int (nI rc)), (5, .ref q), (3, .int (bI ((bfI F T L Z a rc 0 M3 ch).2))), (2, .int (nI k)), (1, .ref q_1), (0, .ref g)]) hx hb dX1_ways_194 hl (k := 3) rfl (x_inc _) (by decide) rfl (fun ls hl => ?_)
                          refine lv_goto (tgt := 76) hx hb dX1_ways_197 (by decide) ?_
                          exact ih_76 n769 (by omega) (a + 1) ((bfI F T L Z a rc 0 M3 ch).1) ((bfI F T L Z a rc 0 M3 ch).2) (by omega) (by rw [← hfin_76]; first | rfl | (simp only [c_5, c_7, Nat.not_lt.mpr c_7]; first | rfl | done)) _ _ hP hD hS _ (lv_sub hl [0, 4, 5, 6, 7] rfl)
                        · have c_7 : r < rc := Nat.lt_of_not_le (fun z9 => c_7 ((nI_leI (a := rc) (b := r) (by omega) (by omega)).mpr z9))
                          obtain ⟨n999, rfl⟩ : ∃ z, n99 = z + 1 := ⟨n99 - 1, by omega⟩
                          refine lv_aload hx hb dX1_ways_106 (lv_at hl 2 rfl) ?_
                          refine lv_iload hx hb dX1_ways_108 (lv_at hl 0 rfl) ?_
                          refine x_aald (v := pp r) hx hb hK hP 1 2 rfl rfl (k := r) (by omega) (by omega) (rfs_at (by omega)) dX1_ways_110 ?_
                          refine lv_astore (lv' := [(8, .ref (pp r)), (7, .int (nI r)), (6, .int (nI rc)), (5, .ref q), (4, .int (nI a)), (3, .int (bI ch2)), (2, .int (nI k)), (1, .ref q_1), (0, .ref g)]) hx hb dX1_ways_111 hl (by decide) rfl (fun ls hl => ?_)
                          refine lv_aload hx hb dX1_ways_113 (lv_at hl 0 rfl) ?_
                          refine lv_iconst (v := 3) hx hb dX1_ways_115 (by decide) ?_
                          refine x_gld (segs := [[xSim g tc q], [xRf (t 3) q rc (rfs rc pp)], [xRf (t 3) q_1 tc (rfs tc gr_2)], xGr (t 0) pp rc 4 (row4 F T L Z), xGr (t 0) gr_2 tc tc M4]) 3 rfl hx hb hK hP 0 rfl (i := r) (j := 3) (by omega) (by omega) (by omega) dX1_ways_116 ?_
                          refine x_top (w := bI (Z r)) rfl ?_
                          refine lv_if_eq (x := bI (Z r)) (tgt := 188) hx hb dX1_ways_117 (by decide) (fun c_8 => ?_) (fun c_8 => ?_)
                          · have c_8 := bI_0 c_8
                            refine lv_iinc (v := nI (r + 1)) (lv' := [(7, .int (nI (r + 1))), (8, .ref (pp r)), (6, .int (nI rc)), (5, .ref q), (4, .int (nI a)), (3, .int (bI ch2)), (2, .int (nI k)), (1, .ref q_1), (0, .ref g)]) hx hb dX1_ways_188 hl (k := 1) rfl (x_inc _) (by decide) rfl (fun ls hl => ?_)
                            refine lv_goto (tgt := 99) hx hb dX1_ways_191 (by decide) ?_
                            exact ih_99 n999 (by omega) (r + 1) M4 ch2 (by omega) (by rw [← hfin_99]; simp [bfI, c_3, Nat.not_lt.mpr c_3, c_4, Nat.not_lt.mpr c_4, c_5, c_7, c_8]) _ _ hP hD hS _ (lv_sub hl [0, 2, 3, 4, 5, 6, 7, 8] rfl)
                          · have c_8 := bI_n0 c_8
                            refine lv_aload_n hx hb dX1_ways_120 rfl (lv_at hl 7 rfl) ?_
                            refine lv_iload hx hb dX1_ways_121 (lv_at hl 4 rfl) ?_
                            refine x_aald (v := gr_2 a) hx hb hK hP 2 2 rfl rfl (k := a) (by omega) (by omega) (rfs_at (by omega)) dX1_ways_123 ?_
                            refine lv_aload hx hb dX1_ways_124 (lv_at hl 0 rfl) ?_
                            refine lv_iconst (v := 0) hx hb dX1_ways_126 (by decide) ?_
                            refine x_gld (segs := [[xSim g tc q], [xRf (t 3) q rc (rfs rc pp)], [xRf (t 3) q_1 tc (rfs tc gr_2)], xGr (t 0) pp rc 4 (row4 F T L Z), xGr (t 0) gr_2 tc tc M4]) 3 rfl hx hb hK hP 0 rfl (i := r) (j := 0) (by omega) (by omega) (by omega) dX1_ways_127 ?_
                            have hf_9 := hF r (by omega)
                            refine x_top (w := nI (F r)) rfl ?_
                            refine x_gld (segs := [[xSim g tc q], [xRf (t 3) q rc (rfs rc pp)], [xRf (t 3) q_1 tc (rfs tc gr_2)], xGr (t 0) pp rc 4 (row4 F T L Z), xGr (t 0) gr_2 tc tc M4]) 4 rfl hx hb hK hP 0 rfl (i := a) (j := F r) (by omega) (by omega) (by omega) dX1_ways_128 ?_
                            refine lv_ldc (v := 99999) hx hb hown kc_27 dX1_ways_129 ?_
                            refine lv_icmp_eq (x := M4 a (F r)) (y := 99999) (tgt := 188) hx hb dX1_ways_131 (by decide) (fun c_10 => ?_) (fun c_10 => ?_)
                            · refine lv_iinc (v := nI (r + 1)) (lv' := [(7, .int (nI (r + 1))), (8, .ref (pp r)), (6, .int (nI rc)), (5, .ref q), (4, .int (nI a)), (3, .int (bI ch2)), (2, .int (nI k)), (1, .ref q_1), (0, .ref g)]) hx hb dX1_ways_188 hl (k := 1) rfl (x_inc _) (by decide) rfl (fun ls hl => ?_)
                              refine lv_goto (tgt := 99) hx hb dX1_ways_191 (by decide) ?_
                              exact ih_99 n999 (by omega) (r + 1) M4 ch2 (by omega) (by rw [← hfin_99]; simp [bfI, c_3, Nat.not_lt.mpr c_3, c_4, Nat.not_lt.mpr c_4, c_5, c_7, c_8, c_10]) _ _ hP hD hS _ (lv_sub hl [0, 2, 3, 4, 5, 6, 7, 8] rfl)
                            · refine lv_aload_n hx hb dX1_ways_134 rfl (lv_at hl 7 rfl) ?_
                              refine lv_iload hx hb dX1_ways_135 (lv_at hl 4 rfl) ?_
                              refine x_aald (v := gr_2 a) hx hb hK hP 2 2 rfl rfl (k := a) (by omega) (by omega) (rfs_at (by omega)) dX1_ways_137 ?_
                              refine lv_aload hx hb dX1_ways_138 (lv_at hl 0 rfl) ?_
                              refine lv_iconst (v := 0) hx hb dX1_ways_140 (by decide) ?_
                              refine x_gld (segs := [[xSim g tc q], [xRf (t 3) q rc (rfs rc pp)], [xRf (t 3) q_1 tc (rfs tc gr_2)], xGr (t 0) pp rc 4 (row4 F T L Z), xGr (t 0) gr_2 tc tc M4]) 3 rfl hx hb hK hP 0 rfl (i := r) (j := 0) (by omega) (by omega) (by omega) dX1_ways_141 ?_
                              have hf_11 := hF r (by omega)
                              refine x_top (w := nI (F r)) rfl ?_
                              refine x_gld (segs := [[xSim g tc q], [xRf (t 3) q rc (rfs rc pp)], [xRf (t 3) q_1 tc (rfs tc gr_2)], xGr (t 0) pp rc 4 (row4 F T L Z), xGr (t 0) gr_2 tc tc M4]) 4 rfl hx hb hK hP 0 rfl (i := a) (j := F r) (by omega) (by omega) (by omega) dX1_ways_142 ?_
                              refine lv_aload hx hb dX1_ways_143 (lv_at hl 0 rfl) ?_
                              refine lv_iconst (v := 2) hx hb dX1_ways_145 (by decide) ?_
                              refine x_gld (segs := [[xSim g tc q], [xRf (t 3) q rc (rfs rc pp)], [xRf (t 3) q_1 tc (rfs tc gr_2)], xGr (t 0) pp rc 4 (row4 F T L Z), xGr (t 0) gr_2 tc tc M4]) 3 rfl hx hb hK hP 0 rfl (i := r) (j := 2) (by omega) (by omega) (by omega) dX1_ways_146 ?_
                              refine x_top (w := L r) rfl ?_
                              refine lv_iadd (x := M4 a (F r)) (y := L r) hx hb dX1_ways_147 ?_
                              refine lv_aload_n hx hb dX1_ways_148 rfl (lv_at hl 7 rfl) ?_
                              refine lv_iload hx hb dX1_ways_149 (lv_at hl 4 rfl) ?_
                              refine x_aald (v := gr_2 a) hx hb hK hP 2 2 rfl rfl (k := a) (by omega) (by omega) (rfs_at (by omega)) dX1_ways_151 ?_
                              refine lv_aload hx hb dX1_ways_152 (lv_at hl 0 rfl) ?_
                              refine lv_iconst (v := 1) hx hb dX1_ways_154 (by decide) ?_
                              refine x_gld (segs := [[xSim g tc q], [xRf (t 3) q rc (rfs rc pp)], [xRf (t 3) q_1 tc (rfs tc gr_2)], xGr (t 0) pp rc 4 (row4 F T L Z), xGr (t 0) gr_2 tc tc M4]) 3 rfl hx hb hK hP 0 rfl (i := r) (j := 1) (by omega) (by omega) (by omega) dX1_ways_155 ?_
                              have hf_12 := hF r (by omega)
                              refine x_top (w := nI (T r)) rfl ?_
                              refine x_gld (segs := [[xSim g tc q], [xRf (t 3) q rc (rfs rc pp)], [xRf (t 3) q_1 tc (rfs tc gr_2)], xGr (t 0) pp rc 4 (row4 F T L Z), xGr (t 0) gr_2 tc tc M4]) 4 rfl hx hb hK hP 0 rfl (i := a) (j := T r) (by omega) (by omega) (by omega) dX1_ways_156 ?_
                              refine lv_icmp_lt (x := (M4 a (F r)) + (L r)) (y := M4 a (T r)) (tgt := 163) hx hb dX1_ways_157 (by decide) (fun c_13 => ?_) (fun c_13 => ?_)
                              · refine lv_aload_n hx hb dX1_ways_163 rfl (lv_at hl 7 rfl) ?_
                                refine lv_iload hx hb dX1_ways_164 (lv_at hl 4 rfl) ?_
                                refine x_aald (v := gr_2 a) hx hb hK hP 2 2 rfl rfl (k := a) (by omega) (by omega) (rfs_at (by omega)) dX1_ways_166 ?_
                                refine lv_aload hx hb dX1_ways_167 (lv_at hl 0 rfl) ?_
                                refine lv_iconst (v := 1) hx hb dX1_ways_169 (by decide) ?_
                                refine x_gld (segs := [[xSim g tc q], [xRf (t 3) q rc (rfs rc pp)], [xRf (t 3) q_1 tc (rfs tc gr_2)], xGr (t 0) pp rc 4 (row4 F T L Z), xGr (t 0) gr_2 tc tc M4]) 3 rfl hx hb hK hP 0 rfl (i := r) (j := 1) (by omega) (by omega) (by omega) dX1_ways_170 ?_
                                have hf_14 := hF r (by omega)
                                refine x_top (w := nI (T r)) rfl ?_
                                refine lv_aload_n hx hb dX1_ways_171 rfl (lv_at hl 7 rfl) ?_
                                refine lv_iload hx hb dX1_ways_172 (lv_at hl 4 rfl) ?_
                                refine x_aald (v := gr_2 a) hx hb hK hP 2 2 rfl rfl (k := a) (by omega) (by omega) (rfs_at (by omega)) dX1_ways_174 ?_
                                refine lv_aload hx hb dX1_ways_175 (lv_at hl 0 rfl) ?_
                                refine lv_iconst (v := 0) hx hb dX1_ways_177 (by decide) ?_
                                refine x_gld (segs := [[xSim g tc q], [xRf (t 3) q rc (rfs rc pp)], [xRf (t 3) q_1 tc (rfs tc gr_2)], xGr (t 0) pp rc 4 (row4 F T L Z), xGr (t 0) gr_2 tc tc M4]) 3 rfl hx hb hK hP 0 rfl (i := r) (j := 0) (by omega) (by omega) (by omega) dX1_ways_178 ?_
                                have hf_15 := hF r (by omega)
                                refine x_top (w := nI (F r)) rfl ?_
                                refine x_gld (segs := [[xSim g tc q], [xRf (t 3) q rc (rfs rc pp)], [xRf (t 3) q_1 tc (rfs tc gr_2)], xGr (t 0) pp rc 4 (row4 F T L Z), xGr (t 0) gr_2 tc tc M4]) 4 rfl hx hb hK hP 0 rfl (i := a) (j := F r) (by omega) (by omega) (by omega) dX1_ways_179 ?_
                                refine lv_aload hx hb dX1_ways_180 (lv_at hl 0 rfl) ?_
                                refine lv_iconst (v := 2) hx hb dX1_ways_182 (by decide) ?_
                                refine x_gld (segs := [[xSim g tc q], [xRf (t 3) q rc (rfs rc pp)], [xRf (t 3) q_1 tc (rfs tc gr_2)], xGr (t 0) pp rc 4 (row4 F T L Z), xGr (t 0) gr_2 tc tc M4]) 3 rfl hx hb hK hP 0 rfl (i := r) (j := 2) (by omega) (by omega) (by omega) dX1_ways_183 ?_
                                refine x_top (w := L r) rfl ?_
                                refine lv_iadd (x := M4 a (F r)) (y := L r) hx hb dX1_ways_184 ?_
                                refine x_gst (segs := [[xSim g tc q], [xRf (t 3) q rc (rfs rc pp)], [xRf (t 3) q_1 tc (rfs tc gr_2)], xGr (t 0) pp rc 4 (row4 F T L Z), xGr (t 0) gr_2 tc tc M4]) ([[xSim g tc q], [xRf (t 3) q rc (rfs rc pp)], [xRf (t 3) q_1 tc (rfs tc gr_2)], xGr (t 0) pp rc 4 (row4 F T L Z), xGr (t 0) gr_2 tc tc (updG M4 a (T r) ((M4 a (F r)) + (L r)))]) 4 rfl hx hb hK hP hD hS 0 rfl (i := a) (j := T r) (x := (M4 a (F r)) + (L r)) rfl (by omega) (by omega) (by omega) dX1_ways_185 (fun H locs hP hD hS => ?_)
                                have hP : va_P D vwCl ([xSim g tc q, xRf (t 3) q rc (rfs rc pp), xRf (t 3) q_1 tc (rfs tc gr_2)] ++ (xGr (t 0) pp rc 4 (row4 F T L Z) ++ xGr (t 0) gr_2 tc tc (updG M4 a (T r) ((M4 a (F r)) + (L r))))) _ := hP
                                have hD : va_D _ ([xSim g tc q, xRf (t 3) q rc (rfs rc pp), xRf (t 3) q_1 tc (rfs tc gr_2)] ++ (xGr (t 0) pp rc 4 (row4 F T L Z) ++ xGr (t 0) gr_2 tc tc (updG M4 a (T r) ((M4 a (F r)) + (L r))))) := hD
                                refine lv_iconst (v := 1) hx hb dX1_ways_186 (by decide) ?_
                                refine lv_istore_n (lv' := [(3, .int 1), (8, .ref (pp r)), (7, .int (nI r)), (6, .int (nI rc)), (5, .ref q), (4, .int (nI a)), (2, .int (nI k)), (1, .ref q_1), (0, .ref g)]) hx hb dX1_ways_187 rfl hl (by decide) rfl (fun ls hl => ?_)
                                refine lv_iinc (v := nI (r + 1)) (lv' := [(7, .int (nI (r + 1))), (3, .int 1), (8, .ref (pp r)), (6, .int (nI rc)), (5, .ref q), (4, .int (nI a)), (2, .int (nI k)), (1, .ref q_1), (0, .ref g)]) hx hb dX1_ways_188 hl (k := 2) rfl (x_inc _) (by decide) rfl (fun ls hl => ?_)
                                refine lv_goto (tgt := 99) hx hb dX1_ways_191 (by decide) ?_
                                exact ih_99 n999 (by omega) (r + 1) (updG M4 a (T r) ((M4 a (F r)) + (L r))) true (by omega) (by rw [← hfin_99]; simp [bfI, c_3, Nat.not_lt.mpr c_3, c_4, Nat.not_lt.mpr c_4, c_5, c_7, c_8, c_10, c_13]) _ _ hP hD hS _ (lv_sub hl [0, 3, 4, 5, 1, 6, 7, 8] rfl)
                              · refine lv_goto (tgt := 188) hx hb dX1_ways_160 (by decide) ?_
                                refine lv_iinc (v := nI (r + 1)) (lv' := [(7, .int (nI (r + 1))), (8, .ref (pp r)), (6, .int (nI rc)), (5, .ref q), (4, .int (nI a)), (3, .int (bI ch2)), (2, .int (nI k)), (1, .ref q_1), (0, .ref g)]) hx hb dX1_ways_188 hl (k := 1) rfl (x_inc _) (by decide) rfl (fun ls hl => ?_)
                                refine lv_goto (tgt := 99) hx hb dX1_ways_191 (by decide) ?_
                                exact ih_99 n999 (by omega) (r + 1) M4 ch2 (by omega) (by rw [← hfin_99]; simp [bfI, c_3, Nat.not_lt.mpr c_3, c_4, Nat.not_lt.mpr c_4, c_5, c_7, c_8, c_10, c_13]) _ _ hP hD hS _ (lv_sub hl [0, 2, 3, 4, 5, 6, 7, 8] rfl)
                    exact lp_99 rc 0 M3 ch (by omega) rfl _ _ hP hD hS _ (lv_sub hl [0, 1, 2, 3, 4, 5, 6, 7] rfl)
              exact lp_76 tc 0 M2 false (by omega) rfl _ _ hP hD hS _ (lv_sub hl [0, 1, 2, 3, 4] rfl)
        exact lp_63 (tc + 1) 0 (gIn tc tc 0 (fun _ _ => 0)) (by omega) rfl _ _ hP hD hS _ (lv_sub hl [0, 1, 2] rfl)
      · have c_3 : i < tc := Nat.lt_of_not_le (fun z9 => c_3 ((nI_leI (a := tc) (b := i) (by omega) (by omega)).mpr z9))
        obtain ⟨n159, rfl⟩ : ∃ z, n15 = z + 1 := ⟨n15 - 1, by omega⟩
        refine lv_iconst (v := 0) hx hb dX1_ways_23 (by decide) ?_
        refine lv_istore_n (lv' := [(3, .int 0), (2, .int (nI i)), (1, .ref q_1), (0, .ref g)]) hx hb dX1_ways_24 rfl hl (by decide) rfl (fun ls hl => ?_)
        have lp_25 : ∀ (n25 : Nat) (j : Nat) (M1 : Nat → Nat → Int32), j + n25 = tc → gRw i n25 j M1 = gRw i tc 0 M0 → ∀ (H : Heap) (locs : List Loc), va_P D vwCl ([xSim g tc q, xRf (t 3) q rc (rfs rc pp), xRf (t 3) q_1 tc (rfs tc gr_2)] ++ (xGr (t 0) pp rc 4 (row4 F T L Z) ++ xGr (t 0) gr_2 tc tc M1)) H → va_D A ([xSim g tc q, xRf (t 3) q rc (rfs rc pp), xRf (t 3) q_1 tc (rfs tc gr_2)] ++ (xGr (t 0) pp rc 4 (row4 F T L Z) ++ xGr (t 0) gr_2 tc tc M1)) → va_S A s.heap H locs → ∀ ls : Array Slot, lv_has ls 9 [(3, .int (nI j)), (2, .int (nI i)), (1, .ref q_1), (0, .ref g)] → W p l e (headSpec wsX1_ways ({ frames := 0, cells := 13, slots := 156, locals := 0 } : Jvm.Room)).room s m (([.ref g] : List Value).toArray) below meth c H locs 13 156 (MQ below (xQm D (fun u : Nat × (Nat → Nat) => True) (fun u : Nat × (Nat → Nat) => some (.ref u.1)) ([xSim g tc q, xRf (t 3) q rc (rfs rc pp)] ++ xGr (t 0) pp rc 4 (row4 F T L Z)) (fun u : Nat × (Nat → Nat) => [xSim g tc q, xRf (t 3) q rc (rfs rc pp), xRf (t 3) u.1 tc (rfs tc u.2)] ++ (xGr (t 0) pp rc 4 (row4 F T L Z) ++ xGr (t 0) u.2 tc tc Wy)) s.heap.size) (([.ref g] : List Value).toArray) s 13 156 A) (F0 m 25 ls []) := by
          intro n25
          induction n25 using Nat.strongRecOn with
          | _ n25 ih_25 =>
            intro j M1 hm_25 hfin_25 H locs hP hD hS ls hl
            refine lv_iload_n hx hb dX1_ways_25 rfl (lv_at hl 0 rfl) ?_
            refine lv_aload_n hx hb dX1_ways_26 rfl (lv_at hl 3 rfl) ?_
            refine x1_get (v := .int (nI tc)) hx hb hts hin1 hown hK hP 0 rfl 0 (by decide) fl_18 rfl dX1_ways_27 rfl ?_
            refine lv_icmp_ge (x := nI j) (y := nI tc) (tgt := 55) hx hb dX1_ways_30 (by decide) (fun c_16 => ?_) (fun c_16 => ?_)
            · have c_16 := (nI_leI (a := tc) (b := j) (by omega) (by omega)).mp c_16
              have hn0_25 : n25 = 0 := by omega
              subst hn0_25
              obtain rfl : M1 = gRw i tc 0 M0 := hfin_25
              refine lv_iinc (v := nI (i + 1)) (lv' := [(2, .int (nI (i + 1))), (3, .int (nI j)), (1, .ref q_1), (0, .ref g)]) hx hb dX1_ways_55 hl (k := 1) rfl (x_inc _) (by decide) rfl (fun ls hl => ?_)
              refine lv_goto (tgt := 15) hx hb dX1_ways_58 (by decide) ?_
              exact ih_15 n159 (by omega) (i + 1) (gRw i tc 0 M0) (by omega) (by rw [← hfin_15]; first | rfl | (simp only [c_3, c_16, Nat.not_lt.mpr c_16]; first | rfl | done)) _ _ hP hD hS _ (lv_sub hl [0, 2, 3] rfl)
            · have c_16 : j < tc := Nat.lt_of_not_le (fun z9 => c_16 ((nI_leI (a := tc) (b := j) (by omega) (by omega)).mpr z9))
              obtain ⟨n259, rfl⟩ : ∃ z, n25 = z + 1 := ⟨n25 - 1, by omega⟩
              refine lv_aload_n hx hb dX1_ways_33 rfl (lv_at hl 2 rfl) ?_
              refine lv_iload_n hx hb dX1_ways_34 rfl (lv_at hl 1 rfl) ?_
              refine x_aald (v := gr_2 i) hx hb hK hP 2 2 rfl rfl (k := i) (by omega) (by omega) (rfs_at (by omega)) dX1_ways_35 ?_
              refine lv_iload_n hx hb dX1_ways_36 rfl (lv_at hl 0 rfl) ?_
              refine lv_iload_n hx hb dX1_ways_37 rfl (lv_at hl 1 rfl) ?_
              refine lv_iload_n hx hb dX1_ways_38 rfl (lv_at hl 0 rfl) ?_
              refine lv_icmp_ne (x := nI i) (y := nI j) (tgt := 46) hx hb dX1_ways_39 (by decide) (fun c_17 => ?_) (fun c_17 => ?_)
              · have c_17 : ¬ i = j := fun z9 => c_17 ((nI_eq (a := i) (b := j) (by omega) (by omega)).mpr z9)
                refine lv_ldc (v := 99999) hx hb hown kc_27 dX1_ways_46 ?_
                refine x_gst (segs := [[xSim g tc q], [xRf (t 3) q rc (rfs rc pp)], [xRf (t 3) q_1 tc (rfs tc gr_2)], xGr (t 0) pp rc 4 (row4 F T L Z), xGr (t 0) gr_2 tc tc M1]) ([[xSim g tc q], [xRf (t 3) q rc (rfs rc pp)], [xRf (t 3) q_1 tc (rfs tc gr_2)], xGr (t 0) pp rc 4 (row4 F T L Z), xGr (t 0) gr_2 tc tc (updG M1 i j 99999)]) 4 rfl hx hb hK hP hD hS 0 rfl (i := i) (j := j) (x := 99999) rfl (by omega) (by omega) (by omega) dX1_ways_48 (fun H locs hP hD hS => ?_)
                have hP : va_P D vwCl ([xSim g tc q, xRf (t 3) q rc (rfs rc pp), xRf (t 3) q_1 tc (rfs tc gr_2)] ++ (xGr (t 0) pp rc 4 (row4 F T L Z) ++ xGr (t 0) gr_2 tc tc (updG M1 i j 99999))) _ := hP
                have hD : va_D _ ([xSim g tc q, xRf (t 3) q rc (rfs rc pp), xRf (t 3) q_1 tc (rfs tc gr_2)] ++ (xGr (t 0) pp rc 4 (row4 F T L Z) ++ xGr (t 0) gr_2 tc tc (updG M1 i j 99999))) := hD
                refine lv_iinc (v := nI (j + 1)) (lv' := [(3, .int (nI (j + 1))), (2, .int (nI i)), (1, .ref q_1), (0, .ref g)]) hx hb dX1_ways_49 hl (k := 0) rfl (x_inc _) (by decide) rfl (fun ls hl => ?_)
                refine lv_goto (tgt := 25) hx hb dX1_ways_52 (by decide) ?_
                exact ih_25 n259 (by omega) (j + 1) (updG M1 i j 99999) (by omega) (by rw [← hfin_25]; simp [gRw, c_3, c_16, c_17]) _ _ hP hD hS _ (lv_sub hl [0, 1, 2, 3] rfl)
              · have c_17 := (nI_eq (a := i) (b := j) (by omega) (by omega)).mp c_17
                refine lv_iconst (v := 0) hx hb dX1_ways_42 (by decide) ?_
                refine lv_goto (tgt := 48) hx hb dX1_ways_43 (by decide) ?_
                refine x_gst (segs := [[xSim g tc q], [xRf (t 3) q rc (rfs rc pp)], [xRf (t 3) q_1 tc (rfs tc gr_2)], xGr (t 0) pp rc 4 (row4 F T L Z), xGr (t 0) gr_2 tc tc M1]) ([[xSim g tc q], [xRf (t 3) q rc (rfs rc pp)], [xRf (t 3) q_1 tc (rfs tc gr_2)], xGr (t 0) pp rc 4 (row4 F T L Z), xGr (t 0) gr_2 tc tc (updG M1 i j 0)]) 4 rfl hx hb hK hP hD hS 0 rfl (i := i) (j := j) (x := 0) rfl (by omega) (by omega) (by omega) dX1_ways_48 (fun H locs hP hD hS => ?_)
                have hP : va_P D vwCl ([xSim g tc q, xRf (t 3) q rc (rfs rc pp), xRf (t 3) q_1 tc (rfs tc gr_2)] ++ (xGr (t 0) pp rc 4 (row4 F T L Z) ++ xGr (t 0) gr_2 tc tc (updG M1 i j 0))) _ := hP
                have hD : va_D _ ([xSim g tc q, xRf (t 3) q rc (rfs rc pp), xRf (t 3) q_1 tc (rfs tc gr_2)] ++ (xGr (t 0) pp rc 4 (row4 F T L Z) ++ xGr (t 0) gr_2 tc tc (updG M1 i j 0))) := hD
                refine lv_iinc (v := nI (j + 1)) (lv' := [(3, .int (nI (j + 1))), (2, .int (nI i)), (1, .ref q_1), (0, .ref g)]) hx hb dX1_ways_49 hl (k := 0) rfl (x_inc _) (by decide) rfl (fun ls hl => ?_)
                refine lv_goto (tgt := 25) hx hb dX1_ways_52 (by decide) ?_
                exact ih_25 n259 (by omega) (j + 1) (updG M1 i j 0) (by omega) (by rw [← hfin_25]; simp [gRw, c_3, c_16, c_17]) _ _ hP hD hS _ (lv_sub hl [0, 1, 2, 3] rfl)
        exact lp_25 tc 0 M0 (by omega) rfl _ _ hP hD hS _ (lv_sub hl [0, 1, 2, 3] rfl)
  exact lp_15 tc 0 (fun _ _ => 0) (by omega) rfl _ _ hP hD hS _ (lv_sub hl [0, 1, 2] rfl)
set_option maxHeartbeats 4000000 in
set_option maxRecDepth 100000 in
theorem c_X1_waysN (l : Launch) (D : va_G) (t : Nat → ClassId) (g tc q rc : Nat) (pp : Nat → Nat) (F T : Nat → Nat) (L : Nat → Int32) (Z : Nat → Bool) (sz : Nat) (htc : tc ≤ 12) (hrc : rc ≤ 30) (hF : ∀ r, r < rc → F r < tc ∧ T r < tc) (hW : bfW F T L Z tc rc = none) : Met l yX1_ways wsX1_ways ({ frames := 0, cells := 13, slots := 156, locals := 0 }) (xMu D (xTy t) xAo [.ref g] ([xSim g tc q, xRf (t 3) q rc (rfs rc pp)] ++ xGr (t 0) pp rc 4 (row4 F T L Z)) sz) (xQm D (fun u : Unit => True) (fun u : Unit => some (.null)) ([xSim g tc q, xRf (t 3) q rc (rfs rc pp)] ++ xGr (t 0) pp rc 4 (row4 F T L Z)) (fun u : Unit => [xSim g tc q, xRf (t 3) q rc (rfs rc pp)] ++ xGr (t 0) pp rc 4 (row4 F T L Z)) sz) 13 156 (va_A ([xSim g tc q, xRf (t 3) q rc (rfs rc pp)] ++ xGr (t 0) pp rc 4 (row4 F T L Z)) sz) := by
  refine Met.ofW (cc := cX1_ways) (maxL := 9) (ret := (some (.array (.array .int)))) (by decide) rfl ?_
  intro p e s m args below meth c s₁ hB9 hml hv
  obtain ⟨rfl, hsz, hP, hK, hD0, hXX⟩ := hv
  have hx := hB9.exec
  have hb := hB9.bytes
  have hr := hB9.returns
  have hts := atoms_spec (ws := wsX1_ways) hB9.pre
  have hown : s.vm.findClass RX1 = some m.cls := findClass_of_methodNamed hB9.named
  have hlocks := hB9.notSynchronized
  have hin1 : ∀ w ∈ wsX10, w ∈ wsX1_ways := fun _ h => List.mem_cons_of_mem _ (List.mem_append_right _ h)
  have fl_18 := hts (.fieldLink RX1 18 "RopeTimesLaw$Sim" "turns" "I") (by decide +kernel)
  have kc_27 := hts (.constant RX1 27 (99999)) (by decide +kernel)
  have fl_11 := hts (.fieldLink RX1 11 "RopeTimesLaw$Sim" "ropes" "[[I") (by decide +kernel)
  subst hsz
  have hD := hD0.self (sz := s.heap.size)
  generalize hAe : va_A ([xSim g tc q, xRf (t 3) q rc (rfs rc pp)] ++ xGr (t 0) pp rc 4 (row4 F T L Z)) s.heap.size = A at hD ⊢
  have hA : ∀ q : Nat, s.heap.size ≤ q → A q := fun q h => by rw [← hAe]; exact Or.inr h
  have hS : va_S A s.heap s.heap [] := va_S.rf
  have hP : va_P D vwCl ([xSim g tc q, xRf (t 3) q rc (rfs rc pp)] ++ xGr (t 0) pp rc 4 (row4 F T L Z)) s.heap := hP
  have hD : va_D A ([xSim g tc q, xRf (t 3) q rc (rfs rc pp)] ++ xGr (t 0) pp rc 4 (row4 F T L Z)) := hD
  have hl := lv_entry ([.ref g]) (n := 9) (Nat.le_of_ble_eq_true rfl)
  rw [lg_entry_eq]
  generalize (lg_sl ([.ref g]) ++ List.replicate (9 - (lg_sl ([.ref g])).length) Slot.unset).toArray = ls at hl ⊢
  have hl : lv_has ls 9 [(0, .ref g)] := hl
  have hXA : xAo s := hXX
  have hsq : tc * tc ≤ 144 := Nat.mul_le_mul htc htc
  refine lv_aload_n hx hb dX1_ways_0 rfl (lv_at hl 0 rfl) ?_
  refine x1_get (v := .int (nI tc)) hx hb hts hin1 hown hK hP 0 rfl 0 (by decide) fl_18 rfl dX1_ways_1 rfl ?_
  refine lv_aload_n hx hb dX1_ways_4 rfl (lv_at hl 0 rfl) ?_
  refine x1_get (v := .int (nI tc)) hx hb hts hin1 hown hK hP 0 rfl 0 (by decide) fl_18 rfl dX1_ways_5 rfl ?_
  refine x_mna (n := tc) hx hb hown (hts (.classLink RX1 26 "[[I") (by decide +kernel)) hXA.1 (hts (.arrayClass .int) (by decide +kernel)) hK hP hD hS hA (by omega) (by show _ ≤ 13; omega) (by show _ ≤ 156; omega) dX1_ways_8 (fun q_1 gr_2 H hP hD hS => ?_)
  have hP : va_P D vwCl ([xSim g tc q, xRf (t 3) q rc (rfs rc pp), xRf (t 3) q_1 tc (rfs tc gr_2)] ++ (xGr (t 0) pp rc 4 (row4 F T L Z) ++ xGr (t 0) gr_2 tc tc (fun _ _ => 0))) _ := xw_P (segs := [[xSim g tc q], [xRf (t 3) q rc (rfs rc pp)], xGr (t 0) pp rc 4 (row4 F T L Z), [xRf (t 3) q_1 tc (rfs tc gr_2)], xGr (t 0) gr_2 tc tc (fun _ _ => 0)]) (segs' := [[xSim g tc q], [xRf (t 3) q rc (rfs rc pp)], [xRf (t 3) q_1 tc (rfs tc gr_2)], xGr (t 0) pp rc 4 (row4 F T L Z), xGr (t 0) gr_2 tc tc (fun _ _ => 0)]) [0, 1, 3, 2, 4] rfl (xw_app3P (a := [[xSim g tc q], [xRf (t 3) q rc (rfs rc pp)], xGr (t 0) pp rc 4 (row4 F T L Z)]) (b := [[xRf (t 3) q_1 tc (rfs tc gr_2)]]) (c := [xGr (t 0) gr_2 tc tc (fun _ _ => 0)]) hP)
  have hD : va_D _ ([xSim g tc q, xRf (t 3) q rc (rfs rc pp), xRf (t 3) q_1 tc (rfs tc gr_2)] ++ (xGr (t 0) pp rc 4 (row4 F T L Z) ++ xGr (t 0) gr_2 tc tc (fun _ _ => 0))) := xw_D (segs := [[xSim g tc q], [xRf (t 3) q rc (rfs rc pp)], xGr (t 0) pp rc 4 (row4 F T L Z), [xRf (t 3) q_1 tc (rfs tc gr_2)], xGr (t 0) gr_2 tc tc (fun _ _ => 0)]) (segs' := [[xSim g tc q], [xRf (t 3) q rc (rfs rc pp)], [xRf (t 3) q_1 tc (rfs tc gr_2)], xGr (t 0) pp rc 4 (row4 F T L Z), xGr (t 0) gr_2 tc tc (fun _ _ => 0)]) [0, 1, 3, 2, 4] (by decide) rfl (xw_app3D (a := [[xSim g tc q], [xRf (t 3) q rc (rfs rc pp)], xGr (t 0) pp rc 4 (row4 F T L Z)]) (b := [[xRf (t 3) q_1 tc (rfs tc gr_2)]]) (c := [xGr (t 0) gr_2 tc tc (fun _ _ => 0)]) hD)
  refine W.widen (k := 13) (n := 156) (by omega) (by omega) ?_
  refine lv_astore_n (lv' := [(1, .ref q_1), (0, .ref g)]) hx hb dX1_ways_12 rfl hl (by decide) rfl (fun ls hl => ?_)
  refine lv_iconst (v := 0) hx hb dX1_ways_13 (by decide) ?_
  refine lv_istore_n (lv' := [(2, .int 0), (1, .ref q_1), (0, .ref g)]) hx hb dX1_ways_14 rfl hl (by decide) rfl (fun ls hl => ?_)
  have lp_15 : ∀ (n15 : Nat) (i : Nat) (M0 : Nat → Nat → Int32), i + n15 = tc → gIn tc n15 i M0 = gIn tc tc 0 (fun _ _ => 0) → ∀ (H : Heap) (locs : List Loc), va_P D vwCl ([xSim g tc q, xRf (t 3) q rc (rfs rc pp), xRf (t 3) q_1 tc (rfs tc gr_2)] ++ (xGr (t 0) pp rc 4 (row4 F T L Z) ++ xGr (t 0) gr_2 tc tc M0)) H → va_D A ([xSim g tc q, xRf (t 3) q rc (rfs rc pp), xRf (t 3) q_1 tc (rfs tc gr_2)] ++ (xGr (t 0) pp rc 4 (row4 F T L Z) ++ xGr (t 0) gr_2 tc tc M0)) → va_S A s.heap H locs → ∀ ls : Array Slot, lv_has ls 9 [(2, .int (nI i)), (1, .ref q_1), (0, .ref g)] → W p l e (headSpec wsX1_ways ({ frames := 0, cells := 13, slots := 156, locals := 0 } : Jvm.Room)).room s m (([.ref g] : List Value).toArray) below meth c H locs 13 156 (MQ below (xQm D (fun u : Unit => True) (fun u : Unit => some (.null)) ([xSim g tc q, xRf (t 3) q rc (rfs rc pp)] ++ xGr (t 0) pp rc 4 (row4 F T L Z)) (fun u : Unit => [xSim g tc q, xRf (t 3) q rc (rfs rc pp)] ++ xGr (t 0) pp rc 4 (row4 F T L Z)) s.heap.size) (([.ref g] : List Value).toArray) s 13 156 A) (F0 m 15 ls []) := by
    intro n15
    induction n15 using Nat.strongRecOn with
    | _ n15 ih_15 =>
      intro i M0 hm_15 hfin_15 H locs hP hD hS ls hl
      refine lv_iload_n hx hb dX1_ways_15 rfl (lv_at hl 0 rfl) ?_
      refine lv_aload_n hx hb dX1_ways_16 rfl (lv_at hl 2 rfl) ?_
      refine x1_get (v := .int (nI tc)) hx hb hts hin1 hown hK hP 0 rfl 0 (by decide) fl_18 rfl dX1_ways_17 rfl ?_
      refine lv_icmp_ge (x := nI i) (y := nI tc) (tgt := 61) hx hb dX1_ways_20 (by decide) (fun c_3 => ?_) (fun c_3 => ?_)
      · have c_3 := (nI_leI (a := tc) (b := i) (by omega) (by omega)).mp c_3
        have hn0_15 : n15 = 0 := by omega
        subst hn0_15
        obtain rfl : M0 = gIn tc tc 0 (fun _ _ => 0) := hfin_15
        refine lv_iconst (v := 0) hx hb dX1_ways_61 (by decide) ?_
        refine lv_istore_n (lv' := [(2, .int 0), (1, .ref q_1), (0, .ref g)]) hx hb dX1_ways_62 rfl hl (by decide) rfl (fun ls hl => ?_)
        have lp_63 : ∀ (n63 : Nat) (k : Nat) (M2 : Nat → Nat → Int32), k + n63 = tc + 1 → bfT F T L Z tc rc n63 M2 = bfT F T L Z tc rc (tc + 1) (gIn tc tc 0 (fun _ _ => 0)) → ∀ (H : Heap) (locs : List Loc), va_P D vwCl ([xSim g tc q, xRf (t 3) q rc (rfs rc pp), xRf (t 3) q_1 tc (rfs tc gr_2)] ++ (xGr (t 0) pp rc 4 (row4 F T L Z) ++ xGr (t 0) gr_2 tc tc M2)) H → va_D A ([xSim g tc q, xRf (t 3) q rc (rfs rc pp), xRf (t 3) q_1 tc (rfs tc gr_2)] ++ (xGr (t 0) pp rc 4 (row4 F T L Z) ++ xGr (t 0) gr_2 tc tc M2)) → va_S A s.heap H locs → ∀ ls : Array Slot, lv_has ls 9 [(2, .int (nI k)), (1, .ref q_1), (0, .ref g)] → W p l e (headSpec wsX1_ways ({ frames := 0, cells := 13, slots := 156, locals := 0 } : Jvm.Room)).room s m (([.ref g] : List Value).toArray) below meth c H locs 13 156 (MQ below (xQm D (fun u : Unit => True) (fun u : Unit => some (.null)) ([xSim g tc q, xRf (t 3) q rc (rfs rc pp)] ++ xGr (t 0) pp rc 4 (row4 F T L Z)) (fun u : Unit => [xSim g tc q, xRf (t 3) q rc (rfs rc pp)] ++ xGr (t 0) pp rc 4 (row4 F T L Z)) s.heap.size) (([.ref g] : List Value).toArray) s 13 156 A) (F0 m 63 ls []) := by
          intro n63
          induction n63 using Nat.strongRecOn with
          | _ n63 ih_63 =>
            intro k M2 hm_63 hfin_63 H locs hP hD hS ls hl
            refine lv_iload_n hx hb dX1_ways_63 rfl (lv_at hl 0 rfl) ?_
            refine lv_aload_n hx hb dX1_ways_64 rfl (lv_at hl 2 rfl) ?_
            refine x1_get (v := .int (nI tc)) hx hb hts hin1 hown hK hP 0 rfl 0 (by decide) fl_18 rfl dX1_ways_65 rfl ?_
            refine lv_icmp_gt (x := nI k) (y := nI tc) (tgt := 212) hx hb dX1_ways_68 (by decide) (fun c_4 => ?_) (fun c_4 => ?_)
            · have c_4 := (nI_ltI (a := tc) (b := k) (by omega) (by omega)).mp c_4
              have hn0_63 : n63 = 0 := by omega
              subst hn0_63
              refine lv_null hx hb dX1_ways_212 ?_
              have hP : va_P D vwCl ([xSim g tc q, xRf (t 3) q rc (rfs rc pp)] ++ xGr (t 0) pp rc 4 (row4 F T L Z)) _ := xw_P (segs := [[xSim g tc q], [xRf (t 3) q rc (rfs rc pp)], [xRf (t 3) q_1 tc (rfs tc gr_2)], xGr (t 0) pp rc 4 (row4 F T L Z), xGr (t 0) gr_2 tc tc M2]) (segs' := [[xSim g tc q], [xRf (t 3) q rc (rfs rc pp)], xGr (t 0) pp rc 4 (row4 F T L Z)]) [0, 1, 3] rfl hP
              have hD : va_D _ ([xSim g tc q, xRf (t 3) q rc (rfs rc pp)] ++ xGr (t 0) pp rc 4 (row4 F T L Z)) := xw_D (segs := [[xSim g tc q], [xRf (t 3) q rc (rfs rc pp)], [xRf (t 3) q_1 tc (rfs tc gr_2)], xGr (t 0) pp rc 4 (row4 F T L Z), xGr (t 0) gr_2 tc tc M2]) (segs' := [[xSim g tc q], [xRf (t 3) q rc (rfs rc pp)], xGr (t 0) pp rc 4 (row4 F T L Z)]) [0, 1, 3] (by decide) rfl hD
              subst hAe
              obtain ⟨hq9, hf9⟩ := xm_end (S := Unit) (pu := (fun u : Unit => True)) (r := (fun u : Unit => some (.null))) (wc := ([xSim g tc q, xRf (t 3) q rc (rfs rc pp)] ++ xGr (t 0) pp rc 4 (row4 F T L Z))) (w1 := (fun u : Unit => [xSim g tc q, xRf (t 3) q rc (rfs rc pp)] ++ xGr (t 0) pp rc 4 (row4 F T L Z))) (o := some (.null)) (args := ([.ref g] : List Value).toArray) () rfl trivial rfl hP hD hS
              exact W.aret hx hb hr (Or.inr ⟨_, rfl⟩) (Or.inl rfl) hq9 hf9 dX1_ways_213 hlocks
            · have c_4 : k ≤ tc := Nat.le_of_not_lt (fun z9 => c_4 ((nI_ltI (a := tc) (b := k) (by omega) (by omega)).mpr z9))
              obtain ⟨n639, rfl⟩ : ∃ z, n63 = z + 1 := ⟨n63 - 1, by omega⟩
              refine lv_iconst (v := 0) hx hb dX1_ways_71 (by decide) ?_
              refine lv_istore_n (lv' := [(3, .int 0), (2, .int (nI k)), (1, .ref q_1), (0, .ref g)]) hx hb dX1_ways_72 rfl hl (by decide) rfl (fun ls hl => ?_)
              refine lv_iconst (v := 0) hx hb dX1_ways_73 (by decide) ?_
              refine lv_istore (lv' := [(4, .int 0), (3, .int 0), (2, .int (nI k)), (1, .ref q_1), (0, .ref g)]) hx hb dX1_ways_74 hl (by decide) rfl (fun ls hl => ?_)
              have lp_76 : ∀ (n76 : Nat) (a : Nat) (M3 : Nat → Nat → Int32) (ch : Bool), a + n76 = tc → bfG F T L Z rc n76 a M3 ch = bfG F T L Z rc tc 0 M2 false → ∀ (H : Heap) (locs : List Loc), va_P D vwCl ([xSim g tc q, xRf (t 3) q rc (rfs rc pp), xRf (t 3) q_1 tc (rfs tc gr_2)] ++ (xGr (t 0) pp rc 4 (row4 F T L Z) ++ xGr (t 0) gr_2 tc tc M3)) H → va_D A ([xSim g tc q, xRf (t 3) q rc (rfs rc pp), xRf (t 3) q_1 tc (rfs tc gr_2)] ++ (xGr (t 0) pp rc 4 (row4 F T L Z) ++ xGr (t 0) gr_2 tc tc M3)) → va_S A s.heap H locs → ∀ ls : Array Slot, lv_has ls 9 [(4, .int (nI a)), (3, .int (bI ch)), (2, .int (nI k)), (1, .ref q_1), (0, .ref g)] → W p l e (headSpec wsX1_ways ({ frames := 0, cells := 13, slots := 156, locals := 0 } : Jvm.Room)).room s m (([.ref g] : List Value).toArray) below meth c H locs 13 156 (MQ below (xQm D (fun u : Unit => True) (fun u : Unit => some (.null)) ([xSim g tc q, xRf (t 3) q rc (rfs rc pp)] ++ xGr (t 0) pp rc 4 (row4 F T L Z)) (fun u : Unit => [xSim g tc q, xRf (t 3) q rc (rfs rc pp)] ++ xGr (t 0) pp rc 4 (row4 F T L Z)) s.heap.size) (([.ref g] : List Value).toArray) s 13 156 A) (F0 m 76 ls []) := by
                intro n76
                induction n76 using Nat.strongRecOn with
                | _ n76 ih_76 =>
                  intro a M3 ch hm_76 hfin_76 H locs hP hD hS ls hl
                  refine lv_iload hx hb dX1_ways_76 (lv_at hl 0 rfl) ?_
                  refine lv_aload_n hx hb dX1_ways_78 rfl (lv_at hl 4 rfl) ?_
                  refine x1_get (v := .int (nI tc)) hx hb hts hin1 hown hK hP 0 rfl 0 (by decide) fl_18 rfl dX1_ways_79 rfl ?_
                  refine lv_icmp_ge (x := nI a) (y := nI tc) (tgt := 200) hx hb dX1_ways_82 (by decide) (fun c_5 => ?_) (fun c_5 => ?_)
                  · have c_5 := (nI_leI (a := tc) (b := a) (by omega) (by omega)).mp c_5
                    have hn0_76 : n76 = 0 := by omega
                    subst hn0_76
                    obtain rfl : M3 = (bfG F T L Z rc tc 0 M2 false).1 := congrArg (fun z => z.1) hfin_76
                    obtain rfl : ch = (bfG F T L Z rc tc 0 M2 false).2 := congrArg (fun z => z.2) hfin_76
                    refine lv_iload_n hx hb dX1_ways_200 rfl (lv_at hl 1 rfl) ?_
                    refine lv_if_ne (x := bI ((bfG F T L Z rc tc 0 M2 false).2)) (tgt := 206) hx hb dX1_ways_201 (by decide) (fun c_6 => ?_) (fun c_6 => ?_)
                    · have c_6 := bI_n0 c_6
                      refine lv_iinc (v := nI (k + 1)) (lv' := [(2, .int (nI (k + 1))), (4, .int (nI a)), (3, .int (bI ((bfG F T L Z rc tc 0 M2 false).2))), (1, .ref q_1), (0, .ref g)]) hx hb dX1_ways_206 hl (k := 2) rfl (x_inc _) (by decide) rfl (fun ls hl => ?_)
                      refine lv_goto (tgt := 63) hx hb dX1_ways_209 (by decide) ?_
                      exact ih_63 n639 (by omega) (k + 1) ((bfG F T L Z rc tc 0 M2 false).1) (by omega) (by rw [← hfin_63]; simp [bfT, c_3, Nat.not_lt.mpr c_3, c_4, Nat.not_lt.mpr c_4, c_5, Nat.not_lt.mpr c_5, c_6]) _ _ hP hD hS _ (lv_sub hl [0, 3, 4] rfl)
                    · have c_6 := bI_0 c_6
                      exact absurd hfin_63 (by rw [bfT, if_neg (by simp [c_3, Nat.not_lt.mpr c_3, c_4, Nat.not_lt.mpr c_4, c_5, Nat.not_lt.mpr c_5, c_6])]; intro z; exact absurd (z.trans hW) (by intro z9; cases z9))
                  · have c_5 : a < tc := Nat.lt_of_not_le (fun z9 => c_5 ((nI_leI (a := tc) (b := a) (by omega) (by omega)).mpr z9))
                    obtain ⟨n769, rfl⟩ : ∃ z, n76 = z + 1 := ⟨n76 - 1, by omega⟩
                    refine lv_aload_n hx hb dX1_ways_85 rfl (lv_at hl 4 rfl) ?_
                    refine x1_get (v := .ref q) hx hb hts hin1 hown hK hP 0 rfl 1 (by decide) fl_11 rfl dX1_ways_86 rfl ?_
                    refine lv_astore (lv' := [(5, .ref q), (4, .int (nI a)), (3, .int (bI ch)), (2, .int (nI k)), (1, .ref q_1), (0, .ref g)]) hx hb dX1_ways_89 hl (by decide) rfl (fun ls hl => ?_)
                    refine lv_aload hx hb dX1_ways_91 (lv_at hl 0 rfl) ?_
                    refine va_alen (v := nI rc) hx hb hK hP 1 2 rfl rfl rfl dX1_ways_93 ?_
                    refine lv_istore (lv' := [(6, .int (nI rc)), (5, .ref q), (4, .int (nI a)), (3, .int (bI ch)), (2, .int (nI k)), (1, .ref q_1), (0, .ref g)]) hx hb dX1_ways_94 hl (by decide) rfl (fun ls hl => ?_)
                    refine lv_iconst (v := 0) hx hb dX1_ways_96 (by decide) ?_
                    refine lv_istore (lv' := [(7, .int 0), (6, .int (nI rc)), (5, .ref q), (4, .int (nI a)), (3, .int (bI ch)), (2, .int (nI k)), (1, .ref q_1), (0, .ref g)]) hx hb dX1_ways_97 hl (by decide) rfl (fun ls hl => ?_)
                    have lp_99 : ∀ (n99 : Nat) (r : Nat) (M4 : Nat → Nat → Int32) (ch2 : Bool), r + n99 = rc → bfI F T L Z a n99 r M4 ch2 = bfI F T L Z a rc 0 M3 ch → ∀ (H : Heap) (locs : List Loc), va_P D vwCl ([xSim g tc q, xRf (t 3) q rc (rfs rc pp), xRf (t 3) q_1 tc (rfs tc gr_2)] ++ (xGr (t 0) pp rc 4 (row4 F T L Z) ++ xGr (t 0) gr_2 tc tc M4)) H → va_D A ([xSim g tc q, xRf (t 3) q rc (rfs rc pp), xRf (t 3) q_1 tc (rfs tc gr_2)] ++ (xGr (t 0) pp rc 4 (row4 F T L Z) ++ xGr (t 0) gr_2 tc tc M4)) → va_S A s.heap H locs → ∀ ls : Array Slot, lv_has ls 9 [(7, .int (nI r)), (6, .int (nI rc)), (5, .ref q), (4, .int (nI a)), (3, .int (bI ch2)), (2, .int (nI k)), (1, .ref q_1), (0, .ref g)] → W p l e (headSpec wsX1_ways ({ frames := 0, cells := 13, slots := 156, locals := 0 } : Jvm.Room)).room s m (([.ref g] : List Value).toArray) below meth c H locs 13 156 (MQ below (xQm D (fun u : Unit => True) (fun u : Unit => some (.null)) ([xSim g tc q, xRf (t 3) q rc (rfs rc pp)] ++ xGr (t 0) pp rc 4 (row4 F T L Z)) (fun u : Unit => [xSim g tc q, xRf (t 3) q rc (rfs rc pp)] ++ xGr (t 0) pp rc 4 (row4 F T L Z)) s.heap.size) (([.ref g] : List Value).toArray) s 13 156 A) (F0 m 99 ls []) := by
                      intro n99
                      induction n99 using Nat.strongRecOn with
                      | _ n99 ih_99 =>
                        intro r M4 ch2 hm_99 hfin_99 H locs hP hD hS ls hl
                        refine lv_iload hx hb dX1_ways_99 (lv_at hl 0 rfl) ?_
                        refine lv_iload hx hb dX1_ways_101 (lv_at hl 1 rfl) ?_
                        refine lv_icmp_ge (x := nI r) (y := nI rc) (tgt := 194) hx hb dX1_ways_103 (by decide) (fun c_7 => ?_) (fun c_7 => ?_)
                        · have c_7 := (nI_leI (a := rc) (b := r) (by omega) (by omega)).mp c_7
                          have hn0_99 : n99 = 0 := by omega
                          subst hn0_99
                          obtain rfl : M4 = (bfI F T L Z a rc 0 M3 ch).1 := congrArg (fun z => z.1) hfin_99
                          obtain rfl : ch2 = (bfI F T L Z a rc 0 M3 ch).2 := congrArg (fun z => z.2) hfin_99
                          refine lv_iinc (v := nI (a + 1)) (lv' := [(4, .int (nI (a + 1))), (7, .int (nI r)), (6, .int (nI rc)), (5, .ref q), (3, .int (bI ((bfI F T L Z a rc 0 M3 ch).2))), (2, .int (nI k)), (1, .ref q_1), (0, .ref g)]) hx hb dX1_ways_194 hl (k := 3) rfl (x_inc _) (by decide) rfl (fun ls hl => ?_)
                          refine lv_goto (tgt := 76) hx hb dX1_ways_197 (by decide) ?_
                          exact ih_76 n769 (by omega) (a + 1) ((bfI F T L Z a rc 0 M3 ch).1) ((bfI F T L Z a rc 0 M3 ch).2) (by omega) (by rw [← hfin_76]; first | rfl | (simp only [c_5, c_7, Nat.not_lt.mpr c_7]; first | rfl | done)) _ _ hP hD hS _ (lv_sub hl [0, 4, 5, 6, 7] rfl)
                        · have c_7 : r < rc := Nat.lt_of_not_le (fun z9 => c_7 ((nI_leI (a := rc) (b := r) (by omega) (by omega)).mpr z9))
                          obtain ⟨n999, rfl⟩ : ∃ z, n99 = z + 1 := ⟨n99 - 1, by omega⟩
                          refine lv_aload hx hb dX1_ways_106 (lv_at hl 2 rfl) ?_
                          refine lv_iload hx hb dX1_ways_108 (lv_at hl 0 rfl) ?_
                          refine x_aald (v := pp r) hx hb hK hP 1 2 rfl rfl (k := r) (by omega) (by omega) (rfs_at (by omega)) dX1_ways_110 ?_
                          refine lv_astore (lv' := [(8, .ref (pp r)), (7, .int (nI r)), (6, .int (nI rc)), (5, .ref q), (4, .int (nI a)), (3, .int (bI ch2)), (2, .int (nI k)), (1, .ref q_1), (0, .ref g)]) hx hb dX1_ways_111 hl (by decide) rfl (fun ls hl => ?_)
                          refine lv_aload hx hb dX1_ways_113 (lv_at hl 0 rfl) ?_
                          refine lv_iconst (v := 3) hx hb dX1_ways_115 (by decide) ?_
                          refine x_gld (segs := [[xSim g tc q], [xRf (t 3) q rc (rfs rc pp)], [xRf (t 3) q_1 tc (rfs tc gr_2)], xGr (t 0) pp rc 4 (row4 F T L Z), xGr (t 0) gr_2 tc tc M4]) 3 rfl hx hb hK hP 0 rfl (i := r) (j := 3) (by omega) (by omega) (by omega) dX1_ways_116 ?_
                          refine x_top (w := bI (Z r)) rfl ?_
                          refine lv_if_eq (x := bI (Z r)) (tgt := 188) hx hb dX1_ways_117 (by decide) (fun c_8 => ?_) (fun c_8 => ?_)
                          · have c_8 := bI_0 c_8
                            refine lv_iinc (v := nI (r + 1)) (lv' := [(7, .int (nI (r + 1))), (8, .ref (pp r)), (6, .int (nI rc)), (5, .ref q), (4, .int (nI a)), (3, .int (bI ch2)), (2, .int (nI k)), (1, .ref q_1), (0, .ref g)]) hx hb dX1_ways_188 hl (k := 1) rfl (x_inc _) (by decide) rfl (fun ls hl => ?_)
                            refine lv_goto (tgt := 99) hx hb dX1_ways_191 (by decide) ?_
                            exact ih_99 n999 (by omega) (r + 1) M4 ch2 (by omega) (by rw [← hfin_99]; simp [bfI, c_3, Nat.not_lt.mpr c_3, c_4, Nat.not_lt.mpr c_4, c_5, c_7, c_8]) _ _ hP hD hS _ (lv_sub hl [0, 2, 3, 4, 5, 6, 7, 8] rfl)
                          · have c_8 := bI_n0 c_8
                            refine lv_aload_n hx hb dX1_ways_120 rfl (lv_at hl 7 rfl) ?_
                            refine lv_iload hx hb dX1_ways_121 (lv_at hl 4 rfl) ?_
                            refine x_aald (v := gr_2 a) hx hb hK hP 2 2 rfl rfl (k := a) (by omega) (by omega) (rfs_at (by omega)) dX1_ways_123 ?_
                            refine lv_aload hx hb dX1_ways_124 (lv_at hl 0 rfl) ?_
                            refine lv_iconst (v := 0) hx hb dX1_ways_126 (by decide) ?_
                            refine x_gld (segs := [[xSim g tc q], [xRf (t 3) q rc (rfs rc pp)], [xRf (t 3) q_1 tc (rfs tc gr_2)], xGr (t 0) pp rc 4 (row4 F T L Z), xGr (t 0) gr_2 tc tc M4]) 3 rfl hx hb hK hP 0 rfl (i := r) (j := 0) (by omega) (by omega) (by omega) dX1_ways_127 ?_
                            have hf_9 := hF r (by omega)
                            refine x_top (w := nI (F r)) rfl ?_
                            refine x_gld (segs := [[xSim g tc q], [xRf (t 3) q rc (rfs rc pp)], [xRf (t 3) q_1 tc (rfs tc gr_2)], xGr (t 0) pp rc 4 (row4 F T L Z), xGr (t 0) gr_2 tc tc M4]) 4 rfl hx hb hK hP 0 rfl (i := a) (j := F r) (by omega) (by omega) (by omega) dX1_ways_128 ?_
                            refine lv_ldc (v := 99999) hx hb hown kc_27 dX1_ways_129 ?_
                            refine lv_icmp_eq (x := M4 a (F r)) (y := 99999) (tgt := 188) hx hb dX1_ways_131 (by decide) (fun c_10 => ?_) (fun c_10 => ?_)
                            · refine lv_iinc (v := nI (r + 1)) (lv' := [(7, .int (nI (r + 1))), (8, .ref (pp r)), (6, .int (nI rc)), (5, .ref q), (4, .int (nI a)), (3, .int (bI ch2)), (2, .int (nI k)), (1, .ref q_1), (0, .ref g)]) hx hb dX1_ways_188 hl (k := 1) rfl (x_inc _) (by decide) rfl (fun ls hl => ?_)
                              refine lv_goto (tgt := 99) hx hb dX1_ways_191 (by decide) ?_
                              exact ih_99 n999 (by omega) (r + 1) M4 ch2 (by omega) (by rw [← hfin_99]; simp [bfI, c_3, Nat.not_lt.mpr c_3, c_4, Nat.not_lt.mpr c_4, c_5, c_7, c_8, c_10]) _ _ hP hD hS _ (lv_sub hl [0, 2, 3, 4, 5, 6, 7, 8] rfl)
                            · refine lv_aload_n hx hb dX1_ways_134 rfl (lv_at hl 7 rfl) ?_
                              refine lv_iload hx hb dX1_ways_135 (lv_at hl 4 rfl) ?_
                              refine x_aald (v := gr_2 a) hx hb hK hP 2 2 rfl rfl (k := a) (by omega) (by omega) (rfs_at (by omega)) dX1_ways_137 ?_
                              refine lv_aload hx hb dX1_ways_138 (lv_at hl 0 rfl) ?_
                              refine lv_iconst (v := 0) hx hb dX1_ways_140 (by decide) ?_
                              refine x_gld (segs := [[xSim g tc q], [xRf (t 3) q rc (rfs rc pp)], [xRf (t 3) q_1 tc (rfs tc gr_2)], xGr (t 0) pp rc 4 (row4 F T L Z), xGr (t 0) gr_2 tc tc M4]) 3 rfl hx hb hK hP 0 rfl (i := r) (j := 0) (by omega) (by omega) (by omega) dX1_ways_141 ?_
                              have hf_11 := hF r (by omega)
                              refine x_top (w := nI (F r)) rfl ?_
                              refine x_gld (segs := [[xSim g tc q], [xRf (t 3) q rc (rfs rc pp)], [xRf (t 3) q_1 tc (rfs tc gr_2)], xGr (t 0) pp rc 4 (row4 F T L Z), xGr (t 0) gr_2 tc tc M4]) 4 rfl hx hb hK hP 0 rfl (i := a) (j := F r) (by omega) (by omega) (by omega) dX1_ways_142 ?_
                              refine lv_aload hx hb dX1_ways_143 (lv_at hl 0 rfl) ?_
                              refine lv_iconst (v := 2) hx hb dX1_ways_145 (by decide) ?_
                              refine x_gld (segs := [[xSim g tc q], [xRf (t 3) q rc (rfs rc pp)], [xRf (t 3) q_1 tc (rfs tc gr_2)], xGr (t 0) pp rc 4 (row4 F T L Z), xGr (t 0) gr_2 tc tc M4]) 3 rfl hx hb hK hP 0 rfl (i := r) (j := 2) (by omega) (by omega) (by omega) dX1_ways_146 ?_
                              refine x_top (w := L r) rfl ?_
                              refine lv_iadd (x := M4 a (F r)) (y := L r) hx hb dX1_ways_147 ?_
                              refine lv_aload_n hx hb dX1_ways_148 rfl (lv_at hl 7 rfl) ?_
                              refine lv_iload hx hb dX1_ways_149 (lv_at hl 4 rfl) ?_
                              refine x_aald (v := gr_2 a) hx hb hK hP 2 2 rfl rfl (k := a) (by omega) (by omega) (rfs_at (by omega)) dX1_ways_151 ?_
                              refine lv_aload hx hb dX1_ways_152 (lv_at hl 0 rfl) ?_
                              refine lv_iconst (v := 1) hx hb dX1_ways_154 (by decide) ?_
                              refine x_gld (segs := [[xSim g tc q], [xRf (t 3) q rc (rfs rc pp)], [xRf (t 3) q_1 tc (rfs tc gr_2)], xGr (t 0) pp rc 4 (row4 F T L Z), xGr (t 0) gr_2 tc tc M4]) 3 rfl hx hb hK hP 0 rfl (i := r) (j := 1) (by omega) (by omega) (by omega) dX1_ways_155 ?_
                              have hf_12 := hF r (by omega)
                              refine x_top (w := nI (T r)) rfl ?_
                              refine x_gld (segs := [[xSim g tc q], [xRf (t 3) q rc (rfs rc pp)], [xRf (t 3) q_1 tc (rfs tc gr_2)], xGr (t 0) pp rc 4 (row4 F T L Z), xGr (t 0) gr_2 tc tc M4]) 4 rfl hx hb hK hP 0 rfl (i := a) (j := T r) (by omega) (by omega) (by omega) dX1_ways_156 ?_
                              refine lv_icmp_lt (x := (M4 a (F r)) + (L r)) (y := M4 a (T r)) (tgt := 163) hx hb dX1_ways_157 (by decide) (fun c_13 => ?_) (fun c_13 => ?_)
                              · refine lv_aload_n hx hb dX1_ways_163 rfl (lv_at hl 7 rfl) ?_
                                refine lv_iload hx hb dX1_ways_164 (lv_at hl 4 rfl) ?_
                                refine x_aald (v := gr_2 a) hx hb hK hP 2 2 rfl rfl (k := a) (by omega) (by omega) (rfs_at (by omega)) dX1_ways_166 ?_
                                refine lv_aload hx hb dX1_ways_167 (lv_at hl 0 rfl) ?_
                                refine lv_iconst (v := 1) hx hb dX1_ways_169 (by decide) ?_
                                refine x_gld (segs := [[xSim g tc q], [xRf (t 3) q rc (rfs rc pp)], [xRf (t 3) q_1 tc (rfs tc gr_2)], xGr (t 0) pp rc 4 (row4 F T L Z), xGr (t 0) gr_2 tc tc M4]) 3 rfl hx hb hK hP 0 rfl (i := r) (j := 1) (by omega) (by omega) (by omega) dX1_ways_170 ?_
                                have hf_14 := hF r (by omega)
                                refine x_top (w := nI (T r)) rfl ?_
                                refine lv_aload_n hx hb dX1_ways_171 rfl (lv_at hl 7 rfl) ?_
                                refine lv_iload hx hb dX1_ways_172 (lv_at hl 4 rfl) ?_
                                refine x_aald (v := gr_2 a) hx hb hK hP 2 2 rfl rfl (k := a) (by omega) (by omega) (rfs_at (by omega)) dX1_ways_174 ?_
                                refine lv_aload hx hb dX1_ways_175 (lv_at hl 0 rfl) ?_
                                refine lv_iconst (v := 0) hx hb dX1_ways_177 (by decide) ?_
                                refine x_gld (segs := [[xSim g tc q], [xRf (t 3) q rc (rfs rc pp)], [xRf (t 3) q_1 tc (rfs tc gr_2)], xGr (t 0) pp rc 4 (row4 F T L Z), xGr (t 0) gr_2 tc tc M4]) 3 rfl hx hb hK hP 0 rfl (i := r) (j := 0) (by omega) (by omega) (by omega) dX1_ways_178 ?_
                                have hf_15 := hF r (by omega)
                                refine x_top (w := nI (F r)) rfl ?_
                                refine x_gld (segs := [[xSim g tc q], [xRf (t 3) q rc (rfs rc pp)], [xRf (t 3) q_1 tc (rfs tc gr_2)], xGr (t 0) pp rc 4 (row4 F T L Z), xGr (t 0) gr_2 tc tc M4]) 4 rfl hx hb hK hP 0 rfl (i := a) (j := F r) (by omega) (by omega) (by omega) dX1_ways_179 ?_
                                refine lv_aload hx hb dX1_ways_180 (lv_at hl 0 rfl) ?_
                                refine lv_iconst (v := 2) hx hb dX1_ways_182 (by decide) ?_
                                refine x_gld (segs := [[xSim g tc q], [xRf (t 3) q rc (rfs rc pp)], [xRf (t 3) q_1 tc (rfs tc gr_2)], xGr (t 0) pp rc 4 (row4 F T L Z), xGr (t 0) gr_2 tc tc M4]) 3 rfl hx hb hK hP 0 rfl (i := r) (j := 2) (by omega) (by omega) (by omega) dX1_ways_183 ?_
                                refine x_top (w := L r) rfl ?_
                                refine lv_iadd (x := M4 a (F r)) (y := L r) hx hb dX1_ways_184 ?_
                                refine x_gst (segs := [[xSim g tc q], [xRf (t 3) q rc (rfs rc pp)], [xRf (t 3) q_1 tc (rfs tc gr_2)], xGr (t 0) pp rc 4 (row4 F T L Z), xGr (t 0) gr_2 tc tc M4]) ([[xSim g tc q], [xRf (t 3) q rc (rfs rc pp)], [xRf (t 3) q_1 tc (rfs tc gr_2)], xGr (t 0) pp rc 4 (row4 F T L Z), xGr (t 0) gr_2 tc tc (updG M4 a (T r) ((M4 a (F r)) + (L r)))]) 4 rfl hx hb hK hP hD hS 0 rfl (i := a) (j := T r) (x := (M4 a (F r)) + (L r)) rfl (by omega) (by omega) (by omega) dX1_ways_185 (fun H locs hP hD hS => ?_)
                                have hP : va_P D vwCl ([xSim g tc q, xRf (t 3) q rc (rfs rc pp), xRf (t 3) q_1 tc (rfs tc gr_2)] ++ (xGr (t 0) pp rc 4 (row4 F T L Z) ++ xGr (t 0) gr_2 tc tc (updG M4 a (T r) ((M4 a (F r)) + (L r))))) _ := hP
                                have hD : va_D _ ([xSim g tc q, xRf (t 3) q rc (rfs rc pp), xRf (t 3) q_1 tc (rfs tc gr_2)] ++ (xGr (t 0) pp rc 4 (row4 F T L Z) ++ xGr (t 0) gr_2 tc tc (updG M4 a (T r) ((M4 a (F r)) + (L r))))) := hD
                                refine lv_iconst (v := 1) hx hb dX1_ways_186 (by decide) ?_
                                refine lv_istore_n (lv' := [(3, .int 1), (8, .ref (pp r)), (7, .int (nI r)), (6, .int (nI rc)), (5, .ref q), (4, .int (nI a)), (2, .int (nI k)), (1, .ref q_1), (0, .ref g)]) hx hb dX1_ways_187 rfl hl (by decide) rfl (fun ls hl => ?_)
                                refine lv_iinc (v := nI (r + 1)) (lv' := [(7, .int (nI (r + 1))), (3, .int 1), (8, .ref (pp r)), (6, .int (nI rc)), (5, .ref q), (4, .int (nI a)), (2, .int (nI k)), (1, .ref q_1), (0, .ref g)]) hx hb dX1_ways_188 hl (k := 2) rfl (x_inc _) (by decide) rfl (fun ls hl => ?_)
                                refine lv_goto (tgt := 99) hx hb dX1_ways_191 (by decide) ?_
                                exact ih_99 n999 (by omega) (r + 1) (updG M4 a (T r) ((M4 a (F r)) + (L r))) true (by omega) (by rw [← hfin_99]; simp [bfI, c_3, Nat.not_lt.mpr c_3, c_4, Nat.not_lt.mpr c_4, c_5, c_7, c_8, c_10, c_13]) _ _ hP hD hS _ (lv_sub hl [0, 3, 4, 5, 1, 6, 7, 8] rfl)
                              · refine lv_goto (tgt := 188) hx hb dX1_ways_160 (by decide) ?_
                                refine lv_iinc (v := nI (r + 1)) (lv' := [(7, .int (nI (r + 1))), (8, .ref (pp r)), (6, .int (nI rc)), (5, .ref q), (4, .int (nI a)), (3, .int (bI ch2)), (2, .int (nI k)), (1, .ref q_1), (0, .ref g)]) hx hb dX1_ways_188 hl (k := 1) rfl (x_inc _) (by decide) rfl (fun ls hl => ?_)
                                refine lv_goto (tgt := 99) hx hb dX1_ways_191 (by decide) ?_
                                exact ih_99 n999 (by omega) (r + 1) M4 ch2 (by omega) (by rw [← hfin_99]; simp [bfI, c_3, Nat.not_lt.mpr c_3, c_4, Nat.not_lt.mpr c_4, c_5, c_7, c_8, c_10, c_13]) _ _ hP hD hS _ (lv_sub hl [0, 2, 3, 4, 5, 6, 7, 8] rfl)
                    exact lp_99 rc 0 M3 ch (by omega) rfl _ _ hP hD hS _ (lv_sub hl [0, 1, 2, 3, 4, 5, 6, 7] rfl)
              exact lp_76 tc 0 M2 false (by omega) rfl _ _ hP hD hS _ (lv_sub hl [0, 1, 2, 3, 4] rfl)
        exact lp_63 (tc + 1) 0 (gIn tc tc 0 (fun _ _ => 0)) (by omega) rfl _ _ hP hD hS _ (lv_sub hl [0, 1, 2] rfl)
      · have c_3 : i < tc := Nat.lt_of_not_le (fun z9 => c_3 ((nI_leI (a := tc) (b := i) (by omega) (by omega)).mpr z9))
        obtain ⟨n159, rfl⟩ : ∃ z, n15 = z + 1 := ⟨n15 - 1, by omega⟩
        refine lv_iconst (v := 0) hx hb dX1_ways_23 (by decide) ?_
        refine lv_istore_n (lv' := [(3, .int 0), (2, .int (nI i)), (1, .ref q_1), (0, .ref g)]) hx hb dX1_ways_24 rfl hl (by decide) rfl (fun ls hl => ?_)
        have lp_25 : ∀ (n25 : Nat) (j : Nat) (M1 : Nat → Nat → Int32), j + n25 = tc → gRw i n25 j M1 = gRw i tc 0 M0 → ∀ (H : Heap) (locs : List Loc), va_P D vwCl ([xSim g tc q, xRf (t 3) q rc (rfs rc pp), xRf (t 3) q_1 tc (rfs tc gr_2)] ++ (xGr (t 0) pp rc 4 (row4 F T L Z) ++ xGr (t 0) gr_2 tc tc M1)) H → va_D A ([xSim g tc q, xRf (t 3) q rc (rfs rc pp), xRf (t 3) q_1 tc (rfs tc gr_2)] ++ (xGr (t 0) pp rc 4 (row4 F T L Z) ++ xGr (t 0) gr_2 tc tc M1)) → va_S A s.heap H locs → ∀ ls : Array Slot, lv_has ls 9 [(3, .int (nI j)), (2, .int (nI i)), (1, .ref q_1), (0, .ref g)] → W p l e (headSpec wsX1_ways ({ frames := 0, cells := 13, slots := 156, locals := 0 } : Jvm.Room)).room s m (([.ref g] : List Value).toArray) below meth c H locs 13 156 (MQ below (xQm D (fun u : Unit => True) (fun u : Unit => some (.null)) ([xSim g tc q, xRf (t 3) q rc (rfs rc pp)] ++ xGr (t 0) pp rc 4 (row4 F T L Z)) (fun u : Unit => [xSim g tc q, xRf (t 3) q rc (rfs rc pp)] ++ xGr (t 0) pp rc 4 (row4 F T L Z)) s.heap.size) (([.ref g] : List Value).toArray) s 13 156 A) (F0 m 25 ls []) := by
          intro n25
          induction n25 using Nat.strongRecOn with
          | _ n25 ih_25 =>
            intro j M1 hm_25 hfin_25 H locs hP hD hS ls hl
            refine lv_iload_n hx hb dX1_ways_25 rfl (lv_at hl 0 rfl) ?_
            refine lv_aload_n hx hb dX1_ways_26 rfl (lv_at hl 3 rfl) ?_
            refine x1_get (v := .int (nI tc)) hx hb hts hin1 hown hK hP 0 rfl 0 (by decide) fl_18 rfl dX1_ways_27 rfl ?_
            refine lv_icmp_ge (x := nI j) (y := nI tc) (tgt := 55) hx hb dX1_ways_30 (by decide) (fun c_16 => ?_) (fun c_16 => ?_)
            · have c_16 := (nI_leI (a := tc) (b := j) (by omega) (by omega)).mp c_16
              have hn0_25 : n25 = 0 := by omega
              subst hn0_25
              obtain rfl : M1 = gRw i tc 0 M0 := hfin_25
              refine lv_iinc (v := nI (i + 1)) (lv' := [(2, .int (nI (i + 1))), (3, .int (nI j)), (1, .ref q_1), (0, .ref g)]) hx hb dX1_ways_55 hl (k := 1) rfl (x_inc _) (by decide) rfl (fun ls hl => ?_)
              refine lv_goto (tgt := 15) hx hb dX1_ways_58 (by decide) ?_
              exact ih_15 n159 (by omega) (i + 1) (gRw i tc 0 M0) (by omega) (by rw [← hfin_15]; first | rfl | (simp only [c_3, c_16, Nat.not_lt.mpr c_16]; first | rfl | done)) _ _ hP hD hS _ (lv_sub hl [0, 2, 3] rfl)
            · have c_16 : j < tc := Nat.lt_of_not_le (fun z9 => c_16 ((nI_leI (a := tc) (b := j) (by omega) (by omega)).mpr z9))
              obtain ⟨n259, rfl⟩ : ∃ z, n25 = z + 1 := ⟨n25 - 1, by omega⟩
              refine lv_aload_n hx hb dX1_ways_33 rfl (lv_at hl 2 rfl) ?_
              refine lv_iload_n hx hb dX1_ways_34 rfl (lv_at hl 1 rfl) ?_
              refine x_aald (v := gr_2 i) hx hb hK hP 2 2 rfl rfl (k := i) (by omega) (by omega) (rfs_at (by omega)) dX1_ways_35 ?_
              refine lv_iload_n hx hb dX1_ways_36 rfl (lv_at hl 0 rfl) ?_
              refine lv_iload_n hx hb dX1_ways_37 rfl (lv_at hl 1 rfl) ?_
              refine lv_iload_n hx hb dX1_ways_38 rfl (lv_at hl 0 rfl) ?_
              refine lv_icmp_ne (x := nI i) (y := nI j) (tgt := 46) hx hb dX1_ways_39 (by decide) (fun c_17 => ?_) (fun c_17 => ?_)
              · have c_17 : ¬ i = j := fun z9 => c_17 ((nI_eq (a := i) (b := j) (by omega) (by omega)).mpr z9)
                refine lv_ldc (v := 99999) hx hb hown kc_27 dX1_ways_46 ?_
                refine x_gst (segs := [[xSim g tc q], [xRf (t 3) q rc (rfs rc pp)], [xRf (t 3) q_1 tc (rfs tc gr_2)], xGr (t 0) pp rc 4 (row4 F T L Z), xGr (t 0) gr_2 tc tc M1]) ([[xSim g tc q], [xRf (t 3) q rc (rfs rc pp)], [xRf (t 3) q_1 tc (rfs tc gr_2)], xGr (t 0) pp rc 4 (row4 F T L Z), xGr (t 0) gr_2 tc tc (updG M1 i j 99999)]) 4 rfl hx hb hK hP hD hS 0 rfl (i := i) (j := j) (x := 99999) rfl (by omega) (by omega) (by omega) dX1_ways_48 (fun H locs hP hD hS => ?_)
                have hP : va_P D vwCl ([xSim g tc q, xRf (t 3) q rc (rfs rc pp), xRf (t 3) q_1 tc (rfs tc gr_2)] ++ (xGr (t 0) pp rc 4 (row4 F T L Z) ++ xGr (t 0) gr_2 tc tc (updG M1 i j 99999))) _ := hP
                have hD : va_D _ ([xSim g tc q, xRf (t 3) q rc (rfs rc pp), xRf (t 3) q_1 tc (rfs tc gr_2)] ++ (xGr (t 0) pp rc 4 (row4 F T L Z) ++ xGr (t 0) gr_2 tc tc (updG M1 i j 99999))) := hD
                refine lv_iinc (v := nI (j + 1)) (lv' := [(3, .int (nI (j + 1))), (2, .int (nI i)), (1, .ref q_1), (0, .ref g)]) hx hb dX1_ways_49 hl (k := 0) rfl (x_inc _) (by decide) rfl (fun ls hl => ?_)
                refine lv_goto (tgt := 25) hx hb dX1_ways_52 (by decide) ?_
                exact ih_25 n259 (by omega) (j + 1) (updG M1 i j 99999) (by omega) (by rw [← hfin_25]; simp [gRw, c_3, c_16, c_17]) _ _ hP hD hS _ (lv_sub hl [0, 1, 2, 3] rfl)
              · have c_17 := (nI_eq (a := i) (b := j) (by omega) (by omega)).mp c_17
                refine lv_iconst (v := 0) hx hb dX1_ways_42 (by decide) ?_
                refine lv_goto (tgt := 48) hx hb dX1_ways_43 (by decide) ?_
                refine x_gst (segs := [[xSim g tc q], [xRf (t 3) q rc (rfs rc pp)], [xRf (t 3) q_1 tc (rfs tc gr_2)], xGr (t 0) pp rc 4 (row4 F T L Z), xGr (t 0) gr_2 tc tc M1]) ([[xSim g tc q], [xRf (t 3) q rc (rfs rc pp)], [xRf (t 3) q_1 tc (rfs tc gr_2)], xGr (t 0) pp rc 4 (row4 F T L Z), xGr (t 0) gr_2 tc tc (updG M1 i j 0)]) 4 rfl hx hb hK hP hD hS 0 rfl (i := i) (j := j) (x := 0) rfl (by omega) (by omega) (by omega) dX1_ways_48 (fun H locs hP hD hS => ?_)
                have hP : va_P D vwCl ([xSim g tc q, xRf (t 3) q rc (rfs rc pp), xRf (t 3) q_1 tc (rfs tc gr_2)] ++ (xGr (t 0) pp rc 4 (row4 F T L Z) ++ xGr (t 0) gr_2 tc tc (updG M1 i j 0))) _ := hP
                have hD : va_D _ ([xSim g tc q, xRf (t 3) q rc (rfs rc pp), xRf (t 3) q_1 tc (rfs tc gr_2)] ++ (xGr (t 0) pp rc 4 (row4 F T L Z) ++ xGr (t 0) gr_2 tc tc (updG M1 i j 0))) := hD
                refine lv_iinc (v := nI (j + 1)) (lv' := [(3, .int (nI (j + 1))), (2, .int (nI i)), (1, .ref q_1), (0, .ref g)]) hx hb dX1_ways_49 hl (k := 0) rfl (x_inc _) (by decide) rfl (fun ls hl => ?_)
                refine lv_goto (tgt := 25) hx hb dX1_ways_52 (by decide) ?_
                exact ih_25 n259 (by omega) (j + 1) (updG M1 i j 0) (by omega) (by rw [← hfin_25]; simp [gRw, c_3, c_16, c_17]) _ _ hP hD hS _ (lv_sub hl [0, 1, 2, 3] rfl)
        exact lp_25 tc 0 M0 (by omega) rfl _ _ hP hD hS _ (lv_sub hl [0, 1, 2, 3] rfl)
  exact lp_15 tc 0 (fun _ _ => 0) (by omega) rfl _ _ hP hD hS _ (lv_sub hl [0, 1, 2] rfl)
set_option maxHeartbeats 4000000 in
set_option maxRecDepth 100000 in
theorem c_X1_timesY (l : Launch) (D : va_G) (t : Nat → ClassId) (g tc q rc : Nat) (pp : Nat → Nat) (F T : Nat → Nat) (L : Nat → Int32) (Z : Nat → Bool) (Wy : Nat → Nat → Int32) (sz : Nat) (htc : tc ≤ 12) (hrc : rc ≤ 30) (hF : ∀ r, r < rc → F r < tc ∧ T r < tc) (hW : bfW F T L Z tc rc = some Wy) : Met l yX1_times wsX1_times ({ frames := 1, cells := 14, slots := 168, locals := 28 }) (xMu D (xTy t) xAo [.ref g] ([xSim g tc q, xRf (t 3) q rc (rfs rc pp)] ++ xGr (t 0) pp rc 4 (row4 F T L Z)) sz) (xQm D (fun u : Nat => True) (fun u : Nat => some (.ref u)) ([xSim g tc q, xRf (t 3) q rc (rfs rc pp)] ++ xGr (t 0) pp rc 4 (row4 F T L Z)) (fun u : Nat => [xSim g tc q, xRf (t 3) q rc (rfs rc pp), xArr (t 0) u tc (timS Wy tc)] ++ xGr (t 0) pp rc 4 (row4 F T L Z)) sz) 14 168 (va_A ([xSim g tc q, xRf (t 3) q rc (rfs rc pp)] ++ xGr (t 0) pp rc 4 (row4 F T L Z)) sz) := by
  refine Met.ofW (cc := cX1_times) (maxL := 5) (ret := (some (.array .int))) (by decide) rfl ?_
  intro p e s m args below meth c s₁ hB9 hml hv
  obtain ⟨rfl, hsz, hP, hK, hD0, hXX⟩ := hv
  have hx := hB9.exec
  have hb := hB9.bytes
  have hr := hB9.returns
  have hts := atoms_spec (ws := wsX1_times) hB9.pre
  have hown : s.vm.findClass RX1 = some m.cls := findClass_of_methodNamed hB9.named
  have hlocks := hB9.notSynchronized
  have hin1 : ∀ w ∈ wsX10, w ∈ wsX1_times := fun _ h => List.mem_cons_of_mem _ (List.mem_append_right _ h)
  have fl_18 := hts (.fieldLink RX1 18 "RopeTimesLaw$Sim" "turns" "I") (by decide +kernel)
  have ml_32 := hts (.methodLink RX1 32 Lib.Math.max.name) (by decide +kernel)
  have ms_max := hts (.static Lib.Math.max.name) (by decide +kernel)
  have mc_max := hts (.code Lib.Math.max.name Lib.Math.max.code 2 (some .int)) (by decide +kernel)
  have mi_Math := hts (.initialized "java/lang/Math") (by decide +kernel)
  subst hsz
  have hD := hD0.self (sz := s.heap.size)
  generalize hAe : va_A ([xSim g tc q, xRf (t 3) q rc (rfs rc pp)] ++ xGr (t 0) pp rc 4 (row4 F T L Z)) s.heap.size = A at hD ⊢
  have hA : ∀ q : Nat, s.heap.size ≤ q → A q := fun q h => by rw [← hAe]; exact Or.inr h
  have hS : va_S A s.heap s.heap [] := va_S.rf
  have hP : va_P D vwCl ([xSim g tc q, xRf (t 3) q rc (rfs rc pp)] ++ xGr (t 0) pp rc 4 (row4 F T L Z)) s.heap := hP
  have hD : va_D A ([xSim g tc q, xRf (t 3) q rc (rfs rc pp)] ++ xGr (t 0) pp rc 4 (row4 F T L Z)) := hD
  have hl := lv_entry ([.ref g]) (n := 5) (Nat.le_of_ble_eq_true rfl)
  rw [lg_entry_eq]
  generalize (lg_sl ([.ref g]) ++ List.replicate (5 - (lg_sl ([.ref g])).length) Slot.unset).toArray = ls at hl ⊢
  have hl : lv_has ls 5 [(0, .ref g)] := hl
  have hXA : xAo s := hXX
  refine lv_aload_n hx hb dX1_times_0 rfl (lv_at hl 0 rfl) ?_
  refine xs_V (b := g) (As := []) (rest := []) (segs := [[xSim g tc q], [xRf (t 3) q rc (rfs rc pp)], xGr (t 0) pp rc 4 (row4 F T L Z)]) (segsC := [[xSim g tc q], [xRf (t 3) q rc (rfs rc pp)], xGr (t 0) pp rc 4 (row4 F T L Z)]) (segsR := []) (isC := [0, 1, 2]) (isR := []) ⟨hx, hb, hml, hown, hts⟩ xAo.trav rfl (c_X1_waysY l D t g tc q rc pp F T L Z Wy _ (by omega) (by omega) hF hW) (cwV 0 hts gX1_times_X1_ways rfl rfl rfl hd_X1_ways ⟨Nat.le_of_ble_eq_true rfl, Nat.le_of_ble_eq_true rfl⟩) hK hP hD hS hA (fun U hW hU => hXA.moved hW) (va_recv hK hP (ci := 1) (q0 := 0) rfl rfl) rfl rfl (by decide) rfl hl.1 rfl (Nat.le_of_ble_eq_true rfl) dX1_times_1 ⟨(Nat.le_of_ble_eq_true rfl), (Nat.le_of_ble_eq_true rfl)⟩ (fun u_1 H locs hu hP hD hS hz => ?_)
  have hP : va_P D vwCl ([xSim g tc q, xRf (t 3) q rc (rfs rc pp), xRf (t 3) u_1.1 tc (rfs tc u_1.2)] ++ (xGr (t 0) pp rc 4 (row4 F T L Z) ++ xGr (t 0) u_1.2 tc tc Wy)) _ := xw_P (segs := [[xSim g tc q], [xRf (t 3) q rc (rfs rc pp)], [xRf (t 3) u_1.1 tc (rfs tc u_1.2)], xGr (t 0) pp rc 4 (row4 F T L Z), xGr (t 0) u_1.2 tc tc Wy]) (segs' := [[xSim g tc q], [xRf (t 3) q rc (rfs rc pp)], [xRf (t 3) u_1.1 tc (rfs tc u_1.2)], xGr (t 0) pp rc 4 (row4 F T L Z), xGr (t 0) u_1.2 tc tc Wy]) [0, 1, 2, 3, 4] rfl (xw_appP (a := []) (b := [[xSim g tc q], [xRf (t 3) q rc (rfs rc pp)], [xRf (t 3) u_1.1 tc (rfs tc u_1.2)], xGr (t 0) pp rc 4 (row4 F T L Z), xGr (t 0) u_1.2 tc tc Wy]) hP)
  have hD : va_D _ ([xSim g tc q, xRf (t 3) q rc (rfs rc pp), xRf (t 3) u_1.1 tc (rfs tc u_1.2)] ++ (xGr (t 0) pp rc 4 (row4 F T L Z) ++ xGr (t 0) u_1.2 tc tc Wy)) := xw_D (segs := [[xSim g tc q], [xRf (t 3) q rc (rfs rc pp)], [xRf (t 3) u_1.1 tc (rfs tc u_1.2)], xGr (t 0) pp rc 4 (row4 F T L Z), xGr (t 0) u_1.2 tc tc Wy]) (segs' := [[xSim g tc q], [xRf (t 3) q rc (rfs rc pp)], [xRf (t 3) u_1.1 tc (rfs tc u_1.2)], xGr (t 0) pp rc 4 (row4 F T L Z), xGr (t 0) u_1.2 tc tc Wy]) [0, 1, 2, 3, 4] (by decide) rfl (xw_appD (a := []) (b := [[xSim g tc q], [xRf (t 3) q rc (rfs rc pp)], [xRf (t 3) u_1.1 tc (rfs tc u_1.2)], xGr (t 0) pp rc 4 (row4 F T L Z), xGr (t 0) u_1.2 tc tc Wy]) hD)
  refine lv_astore_n (lv' := [(1, .ref u_1.1), (0, .ref g)]) hx hb dX1_times_4 rfl hl (by decide) rfl (fun ls hl => ?_)
  refine lv_aload_n hx hb dX1_times_5 rfl (lv_at hl 0 rfl) ?_
  refine lv_ifnonnull (tgt := 11) hx hb dX1_times_6 (by decide) ?_
  refine lv_aload_n hx hb dX1_times_11 rfl (lv_at hl 1 rfl) ?_
  refine x1_get (v := .int (nI tc)) hx hb hts hin1 hown hK hP 0 rfl 0 (by decide) fl_18 rfl dX1_times_12 rfl ?_
  refine x_newa (atype := .int) (ty := .int) (a0 := (tc, .inl (fun _ => 0))) (n := nI tc) (N' := tc) (cT := t 0) hx hb (hts (.arrayClass .int) (by decide +kernel)) rfl 0 rfl (by intro C h; cases h) hK hP hD hS hA (fun _ => rfl) (nI_pos (by omega)) (nI_clamp (by omega)) (by show tc * 4 ≤ 536870912; omega) (Nat.le_of_ble_eq_true rfl) (by show _ ≤ 168; omega) dX1_times_15 (fun q_2 H hP hD hS => ?_)
  have hP : va_P D vwCl ([xSim g tc q, xRf (t 3) q rc (rfs rc pp), xRf (t 3) u_1.1 tc (rfs tc u_1.2), xArr (t 0) q_2 tc (fun _ => 0)] ++ (xGr (t 0) pp rc 4 (row4 F T L Z) ++ xGr (t 0) u_1.2 tc tc Wy)) _ := xw_P (segs := [[xSim g tc q], [xRf (t 3) q rc (rfs rc pp)], [xRf (t 3) u_1.1 tc (rfs tc u_1.2)], xGr (t 0) pp rc 4 (row4 F T L Z), xGr (t 0) u_1.2 tc tc Wy, [xArr (t 0) q_2 tc (fun _ => 0)]]) (segs' := [[xSim g tc q], [xRf (t 3) q rc (rfs rc pp)], [xRf (t 3) u_1.1 tc (rfs tc u_1.2)], [xArr (t 0) q_2 tc (fun _ => 0)], xGr (t 0) pp rc 4 (row4 F T L Z), xGr (t 0) u_1.2 tc tc Wy]) [0, 1, 2, 5, 3, 4] rfl (xw_appP (a := [[xSim g tc q], [xRf (t 3) q rc (rfs rc pp)], [xRf (t 3) u_1.1 tc (rfs tc u_1.2)], xGr (t 0) pp rc 4 (row4 F T L Z), xGr (t 0) u_1.2 tc tc Wy]) (b := [[xArr (t 0) q_2 tc (fun _ => 0)]]) hP)
  have hD : va_D _ ([xSim g tc q, xRf (t 3) q rc (rfs rc pp), xRf (t 3) u_1.1 tc (rfs tc u_1.2), xArr (t 0) q_2 tc (fun _ => 0)] ++ (xGr (t 0) pp rc 4 (row4 F T L Z) ++ xGr (t 0) u_1.2 tc tc Wy)) := xw_D (segs := [[xSim g tc q], [xRf (t 3) q rc (rfs rc pp)], [xRf (t 3) u_1.1 tc (rfs tc u_1.2)], xGr (t 0) pp rc 4 (row4 F T L Z), xGr (t 0) u_1.2 tc tc Wy, [xArr (t 0) q_2 tc (fun _ => 0)]]) (segs' := [[xSim g tc q], [xRf (t 3) q rc (rfs rc pp)], [xRf (t 3) u_1.1 tc (rfs tc u_1.2)], [xArr (t 0) q_2 tc (fun _ => 0)], xGr (t 0) pp rc 4 (row4 F T L Z), xGr (t 0) u_1.2 tc tc Wy]) [0, 1, 2, 5, 3, 4] (by decide) rfl (xw_appD (a := [[xSim g tc q], [xRf (t 3) q rc (rfs rc pp)], [xRf (t 3) u_1.1 tc (rfs tc u_1.2)], xGr (t 0) pp rc 4 (row4 F T L Z), xGr (t 0) u_1.2 tc tc Wy]) (b := [[xArr (t 0) q_2 tc (fun _ => 0)]]) hD)
  refine W.widen (k := 14) (n := 168) (by omega) (by omega) ?_
  refine lv_astore_n (lv' := [(2, .ref q_2), (1, .ref u_1.1), (0, .ref g)]) hx hb dX1_times_17 rfl hl (by decide) rfl (fun ls hl => ?_)
  refine lv_iconst (v := 0) hx hb dX1_times_18 (by decide) ?_
  refine lv_istore_n (lv' := [(3, .int 0), (2, .ref q_2), (1, .ref u_1.1), (0, .ref g)]) hx hb dX1_times_19 rfl hl (by decide) rfl (fun ls hl => ?_)
  have lp_20 : ∀ (n20 : Nat) (a : Nat) (E1 : Nat → Int32), a + n20 = tc → tmA Wy tc n20 a E1 = tmA Wy tc tc 0 (fun _ => 0) → ∀ (H : Heap) (locs : List Loc), va_P D vwCl ([xSim g tc q, xRf (t 3) q rc (rfs rc pp), xRf (t 3) u_1.1 tc (rfs tc u_1.2), xArr (t 0) q_2 tc E1] ++ (xGr (t 0) pp rc 4 (row4 F T L Z) ++ xGr (t 0) u_1.2 tc tc Wy)) H → va_D A ([xSim g tc q, xRf (t 3) q rc (rfs rc pp), xRf (t 3) u_1.1 tc (rfs tc u_1.2), xArr (t 0) q_2 tc E1] ++ (xGr (t 0) pp rc 4 (row4 F T L Z) ++ xGr (t 0) u_1.2 tc tc Wy)) → va_S A s.heap H locs → ∀ ls : Array Slot, lv_has ls 5 [(3, .int (nI a)), (2, .ref q_2), (1, .ref u_1.1), (0, .ref g)] → W p l e (headSpec wsX1_times ({ frames := 1, cells := 14, slots := 168, locals := 28 } : Jvm.Room)).room s m (([.ref g] : List Value).toArray) below meth c H locs 14 168 (MQ below (xQm D (fun u : Nat => True) (fun u : Nat => some (.ref u)) ([xSim g tc q, xRf (t 3) q rc (rfs rc pp)] ++ xGr (t 0) pp rc 4 (row4 F T L Z)) (fun u : Nat => [xSim g tc q, xRf (t 3) q rc (rfs rc pp), xArr (t 0) u tc (timS Wy tc)] ++ xGr (t 0) pp rc 4 (row4 F T L Z)) s.heap.size) (([.ref g] : List Value).toArray) s 14 168 A) (F0 m 20 ls []) := by
    intro n20
    induction n20 using Nat.strongRecOn with
    | _ n20 ih_20 =>
      intro a E1 hm_20 hfin_20 H locs hP hD hS ls hl
      refine lv_iload_n hx hb dX1_times_20 rfl (lv_at hl 0 rfl) ?_
      refine lv_aload_n hx hb dX1_times_21 rfl (lv_at hl 3 rfl) ?_
      refine x1_get (v := .int (nI tc)) hx hb hts hin1 hown hK hP 0 rfl 0 (by decide) fl_18 rfl dX1_times_22 rfl ?_
      refine lv_icmp_ge (x := nI a) (y := nI tc) (tgt := 68) hx hb dX1_times_25 (by decide) (fun c_3 => ?_) (fun c_3 => ?_)
      · have c_3 := (nI_leI (a := tc) (b := a) (by omega) (by omega)).mp c_3
        have hn0_20 : n20 = 0 := by omega
        subst hn0_20
        obtain rfl : E1 = tmA Wy tc tc 0 (fun _ => 0) := hfin_20
        refine lv_aload_n hx hb dX1_times_68 rfl (lv_at hl 1 rfl) ?_
        have hP : va_P D vwCl ([xSim g tc q, xRf (t 3) q rc (rfs rc pp), xArr (t 0) q_2 tc (tmA Wy tc tc 0 (fun _ => 0))] ++ xGr (t 0) pp rc 4 (row4 F T L Z)) _ := xw_P (segs := [[xSim g tc q], [xRf (t 3) q rc (rfs rc pp)], [xRf (t 3) u_1.1 tc (rfs tc u_1.2)], [xArr (t 0) q_2 tc (tmA Wy tc tc 0 (fun _ => 0))], xGr (t 0) pp rc 4 (row4 F T L Z), xGr (t 0) u_1.2 tc tc Wy]) (segs' := [[xSim g tc q], [xRf (t 3) q rc (rfs rc pp)], [xArr (t 0) q_2 tc (tmA Wy tc tc 0 (fun _ => 0))], xGr (t 0) pp rc 4 (row4 F T L Z)]) [0, 1, 3, 4] rfl hP
        have hD : va_D _ ([xSim g tc q, xRf (t 3) q rc (rfs rc pp), xArr (t 0) q_2 tc (tmA Wy tc tc 0 (fun _ => 0))] ++ xGr (t 0) pp rc 4 (row4 F T L Z)) := xw_D (segs := [[xSim g tc q], [xRf (t 3) q rc (rfs rc pp)], [xRf (t 3) u_1.1 tc (rfs tc u_1.2)], [xArr (t 0) q_2 tc (tmA Wy tc tc 0 (fun _ => 0))], xGr (t 0) pp rc 4 (row4 F T L Z), xGr (t 0) u_1.2 tc tc Wy]) (segs' := [[xSim g tc q], [xRf (t 3) q rc (rfs rc pp)], [xArr (t 0) q_2 tc (tmA Wy tc tc 0 (fun _ => 0))], xGr (t 0) pp rc 4 (row4 F T L Z)]) [0, 1, 3, 4] (by decide) rfl hD
        subst hAe
        obtain ⟨hq9, hf9⟩ := xm_end (S := Nat) (pu := (fun u : Nat => True)) (r := (fun u : Nat => some (.ref u))) (wc := ([xSim g tc q, xRf (t 3) q rc (rfs rc pp)] ++ xGr (t 0) pp rc 4 (row4 F T L Z))) (w1 := (fun u : Nat => [xSim g tc q, xRf (t 3) q rc (rfs rc pp), xArr (t 0) u tc (timS Wy tc)] ++ xGr (t 0) pp rc 4 (row4 F T L Z))) (o := some (.ref q_2)) (args := ([.ref g] : List Value).toArray) q_2 rfl trivial rfl hP hD hS
        exact W.aret hx hb hr (Or.inr ⟨_, rfl⟩) (Or.inr ⟨_, rfl⟩) hq9 hf9 dX1_times_69 hlocks
      · have c_3 : a < tc := Nat.lt_of_not_le (fun z9 => c_3 ((nI_leI (a := tc) (b := a) (by omega) (by omega)).mpr z9))
        obtain ⟨n209, rfl⟩ : ∃ z, n20 = z + 1 := ⟨n20 - 1, by omega⟩
        refine lv_iconst (v := 0) hx hb dX1_times_28 (by decide) ?_
        refine lv_istore (lv' := [(4, .int 0), (3, .int (nI a)), (2, .ref q_2), (1, .ref u_1.1), (0, .ref g)]) hx hb dX1_times_29 hl (by decide) rfl (fun ls hl => ?_)
        have lp_31 : ∀ (n31 : Nat) (b : Nat) (E2 : Nat → Int32), b + n31 = tc → tmI Wy a n31 b E2 = tmI Wy a tc 0 E1 → ∀ (H : Heap) (locs : List Loc), va_P D vwCl ([xSim g tc q, xRf (t 3) q rc (rfs rc pp), xRf (t 3) u_1.1 tc (rfs tc u_1.2), xArr (t 0) q_2 tc E2] ++ (xGr (t 0) pp rc 4 (row4 F T L Z) ++ xGr (t 0) u_1.2 tc tc Wy)) H → va_D A ([xSim g tc q, xRf (t 3) q rc (rfs rc pp), xRf (t 3) u_1.1 tc (rfs tc u_1.2), xArr (t 0) q_2 tc E2] ++ (xGr (t 0) pp rc 4 (row4 F T L Z) ++ xGr (t 0) u_1.2 tc tc Wy)) → va_S A s.heap H locs → ∀ ls : Array Slot, lv_has ls 5 [(4, .int (nI b)), (3, .int (nI a)), (2, .ref q_2), (1, .ref u_1.1), (0, .ref g)] → W p l e (headSpec wsX1_times ({ frames := 1, cells := 14, slots := 168, locals := 28 } : Jvm.Room)).room s m (([.ref g] : List Value).toArray) below meth c H locs 14 168 (MQ below (xQm D (fun u : Nat => True) (fun u : Nat => some (.ref u)) ([xSim g tc q, xRf (t 3) q rc (rfs rc pp)] ++ xGr (t 0) pp rc 4 (row4 F T L Z)) (fun u : Nat => [xSim g tc q, xRf (t 3) q rc (rfs rc pp), xArr (t 0) u tc (timS Wy tc)] ++ xGr (t 0) pp rc 4 (row4 F T L Z)) s.heap.size) (([.ref g] : List Value).toArray) s 14 168 A) (F0 m 31 ls []) := by
          intro n31
          induction n31 using Nat.strongRecOn with
          | _ n31 ih_31 =>
            intro b E2 hm_31 hfin_31 H locs hP hD hS ls hl
            refine lv_iload hx hb dX1_times_31 (lv_at hl 0 rfl) ?_
            refine lv_aload_n hx hb dX1_times_33 rfl (lv_at hl 4 rfl) ?_
            refine x1_get (v := .int (nI tc)) hx hb hts hin1 hown hK hP 0 rfl 0 (by decide) fl_18 rfl dX1_times_34 rfl ?_
            refine lv_icmp_ge (x := nI b) (y := nI tc) (tgt := 62) hx hb dX1_times_37 (by decide) (fun c_4 => ?_) (fun c_4 => ?_)
            · have c_4 := (nI_leI (a := tc) (b := b) (by omega) (by omega)).mp c_4
              have hn0_31 : n31 = 0 := by omega
              subst hn0_31
              obtain rfl : E2 = tmI Wy a tc 0 E1 := hfin_31
              refine lv_iinc (v := nI (a + 1)) (lv' := [(3, .int (nI (a + 1))), (4, .int (nI b)), (2, .ref q_2), (1, .ref u_1.1), (0, .ref g)]) hx hb dX1_times_62 hl (k := 1) rfl (x_inc _) (by decide) rfl (fun ls hl => ?_)
              refine lv_goto (tgt := 20) hx hb dX1_times_65 (by decide) ?_
              exact ih_20 n209 (by omega) (a + 1) (tmI Wy a tc 0 E1) (by omega) (by rw [← hfin_20]; first | rfl | (simp only [c_3, c_4, Nat.not_lt.mpr c_4]; first | rfl | done)) _ _ hP hD hS _ (lv_sub hl [0, 2, 3, 4] rfl)
            · have c_4 : b < tc := Nat.lt_of_not_le (fun z9 => c_4 ((nI_leI (a := tc) (b := b) (by omega) (by omega)).mpr z9))
              obtain ⟨n319, rfl⟩ : ∃ z, n31 = z + 1 := ⟨n31 - 1, by omega⟩
              refine lv_aload_n hx hb dX1_times_40 rfl (lv_at hl 2 rfl) ?_
              refine lv_iload_n hx hb dX1_times_41 rfl (lv_at hl 1 rfl) ?_
              refine lv_aload_n hx hb dX1_times_42 rfl (lv_at hl 2 rfl) ?_
              refine lv_iload_n hx hb dX1_times_43 rfl (lv_at hl 1 rfl) ?_
              refine x_iald (f := E2) hx hb hK hP 3 0 rfl rfl (k := a) (by omega) (by omega) dX1_times_44 ?_
              refine lv_aload_n hx hb dX1_times_45 rfl (lv_at hl 3 rfl) ?_
              refine lv_iload_n hx hb dX1_times_46 rfl (lv_at hl 1 rfl) ?_
              refine x_aald (v := u_1.2 a) hx hb hK hP 2 2 rfl rfl (k := a) (by omega) (by omega) (rfs_at (by omega)) dX1_times_47 ?_
              refine lv_iload hx hb dX1_times_48 (lv_at hl 0 rfl) ?_
              refine x_gld (segs := [[xSim g tc q], [xRf (t 3) q rc (rfs rc pp)], [xRf (t 3) u_1.1 tc (rfs tc u_1.2)], [xArr (t 0) q_2 tc E2], xGr (t 0) pp rc 4 (row4 F T L Z), xGr (t 0) u_1.2 tc tc Wy]) 5 rfl hx hb hK hP 0 rfl (i := a) (j := b) (by omega) (by omega) (by omega) dX1_times_50 ?_
              refine lv_ineg hx hb dX1_times_51 ?_
              refine va_mmax (x := E2 a) (y := -(Wy a b)) hx hb (hml.trans hl.1.symm) hown ml_32 ms_max mi_Math mc_max (Nat.le_of_ble_eq_true rfl) (Nat.le_of_ble_eq_true rfl) (Nat.le_of_ble_eq_true rfl) (Nat.le_of_ble_eq_true rfl) dX1_times_52 ?_
              refine x_top (w := mxI (E2 a) (-(Wy a b))) rfl ?_
              refine x_iast (x := mxI (E2 a) (-(Wy a b))) (f := E2) hx hb hK hP hD hS 3 0 ([xSim g tc q, xRf (t 3) q rc (rfs rc pp), xRf (t 3) u_1.1 tc (rfs tc u_1.2), xArr (t 0) q_2 tc (upd E2 a (mxI (E2 a) (-(Wy a b))))] ++ (xGr (t 0) pp rc 4 (row4 F T L Z) ++ xGr (t 0) u_1.2 tc tc Wy)) rfl rfl (k := a) rfl (by omega) (by omega) dX1_times_55 (fun H locs hP hD hS => ?_)
              refine lv_iinc (v := nI (b + 1)) (lv' := [(4, .int (nI (b + 1))), (3, .int (nI a)), (2, .ref q_2), (1, .ref u_1.1), (0, .ref g)]) hx hb dX1_times_56 hl (k := 0) rfl (x_inc _) (by decide) rfl (fun ls hl => ?_)
              refine lv_goto (tgt := 31) hx hb dX1_times_59 (by decide) ?_
              exact ih_31 n319 (by omega) (b + 1) (upd E2 a (mxI (E2 a) (-(Wy a b)))) (by omega) (by rw [← hfin_31]; first | rfl | (simp only [c_4]; first | rfl | done)) _ _ hP hD hS _ (lv_sub hl [0, 1, 2, 3, 4] rfl)
        exact lp_31 tc 0 E1 (by omega) rfl _ _ hP hD hS _ (lv_sub hl [0, 1, 2, 3, 4] rfl)
  exact lp_20 tc 0 (fun _ => 0) (by omega) rfl _ _ hP hD hS _ (lv_sub hl [0, 1, 2, 3] rfl)
set_option maxHeartbeats 4000000 in
set_option maxRecDepth 100000 in
theorem c_X1_timesN (l : Launch) (D : va_G) (t : Nat → ClassId) (g tc q rc : Nat) (pp : Nat → Nat) (F T : Nat → Nat) (L : Nat → Int32) (Z : Nat → Bool) (sz : Nat) (htc : tc ≤ 12) (hrc : rc ≤ 30) (hF : ∀ r, r < rc → F r < tc ∧ T r < tc) (hW : bfW F T L Z tc rc = none) : Met l yX1_times wsX1_times ({ frames := 1, cells := 13, slots := 156, locals := 28 }) (xMu D (xTy t) xAo [.ref g] ([xSim g tc q, xRf (t 3) q rc (rfs rc pp)] ++ xGr (t 0) pp rc 4 (row4 F T L Z)) sz) (xQm D (fun u : Unit => True) (fun u : Unit => some (.null)) ([xSim g tc q, xRf (t 3) q rc (rfs rc pp)] ++ xGr (t 0) pp rc 4 (row4 F T L Z)) (fun u : Unit => [xSim g tc q, xRf (t 3) q rc (rfs rc pp)] ++ xGr (t 0) pp rc 4 (row4 F T L Z)) sz) 13 156 (va_A ([xSim g tc q, xRf (t 3) q rc (rfs rc pp)] ++ xGr (t 0) pp rc 4 (row4 F T L Z)) sz) := by
  refine Met.ofW (cc := cX1_times) (maxL := 5) (ret := (some (.array .int))) (by decide) rfl ?_
  intro p e s m args below meth c s₁ hB9 hml hv
  obtain ⟨rfl, hsz, hP, hK, hD0, hXX⟩ := hv
  have hx := hB9.exec
  have hb := hB9.bytes
  have hr := hB9.returns
  have hts := atoms_spec (ws := wsX1_times) hB9.pre
  have hown : s.vm.findClass RX1 = some m.cls := findClass_of_methodNamed hB9.named
  have hlocks := hB9.notSynchronized
  have hin1 : ∀ w ∈ wsX10, w ∈ wsX1_times := fun _ h => List.mem_cons_of_mem _ (List.mem_append_right _ h)
  have fl_18 := hts (.fieldLink RX1 18 "RopeTimesLaw$Sim" "turns" "I") (by decide +kernel)
  have ml_32 := hts (.methodLink RX1 32 Lib.Math.max.name) (by decide +kernel)
  have ms_max := hts (.static Lib.Math.max.name) (by decide +kernel)
  have mc_max := hts (.code Lib.Math.max.name Lib.Math.max.code 2 (some .int)) (by decide +kernel)
  have mi_Math := hts (.initialized "java/lang/Math") (by decide +kernel)
  subst hsz
  have hD := hD0.self (sz := s.heap.size)
  generalize hAe : va_A ([xSim g tc q, xRf (t 3) q rc (rfs rc pp)] ++ xGr (t 0) pp rc 4 (row4 F T L Z)) s.heap.size = A at hD ⊢
  have hA : ∀ q : Nat, s.heap.size ≤ q → A q := fun q h => by rw [← hAe]; exact Or.inr h
  have hS : va_S A s.heap s.heap [] := va_S.rf
  have hP : va_P D vwCl ([xSim g tc q, xRf (t 3) q rc (rfs rc pp)] ++ xGr (t 0) pp rc 4 (row4 F T L Z)) s.heap := hP
  have hD : va_D A ([xSim g tc q, xRf (t 3) q rc (rfs rc pp)] ++ xGr (t 0) pp rc 4 (row4 F T L Z)) := hD
  have hl := lv_entry ([.ref g]) (n := 5) (Nat.le_of_ble_eq_true rfl)
  rw [lg_entry_eq]
  generalize (lg_sl ([.ref g]) ++ List.replicate (5 - (lg_sl ([.ref g])).length) Slot.unset).toArray = ls at hl ⊢
  have hl : lv_has ls 5 [(0, .ref g)] := hl
  have hXA : xAo s := hXX
  refine lv_aload_n hx hb dX1_times_0 rfl (lv_at hl 0 rfl) ?_
  refine xs_V (b := g) (As := []) (rest := []) (segs := [[xSim g tc q], [xRf (t 3) q rc (rfs rc pp)], xGr (t 0) pp rc 4 (row4 F T L Z)]) (segsC := [[xSim g tc q], [xRf (t 3) q rc (rfs rc pp)], xGr (t 0) pp rc 4 (row4 F T L Z)]) (segsR := []) (isC := [0, 1, 2]) (isR := []) ⟨hx, hb, hml, hown, hts⟩ xAo.trav rfl (c_X1_waysN l D t g tc q rc pp F T L Z _ (by omega) (by omega) hF hW) (cwV 0 hts gX1_times_X1_ways rfl rfl rfl hd_X1_ways ⟨Nat.le_of_ble_eq_true rfl, Nat.le_of_ble_eq_true rfl⟩) hK hP hD hS hA (fun U hW hU => hXA.moved hW) (va_recv hK hP (ci := 1) (q0 := 0) rfl rfl) rfl rfl (by decide) rfl hl.1 rfl (Nat.le_of_ble_eq_true rfl) dX1_times_1 ⟨(Nat.le_of_ble_eq_true rfl), (Nat.le_of_ble_eq_true rfl)⟩ (fun u_1 H locs hu hP hD hS hz => ?_)
  have hP : va_P D vwCl ([xSim g tc q, xRf (t 3) q rc (rfs rc pp)] ++ xGr (t 0) pp rc 4 (row4 F T L Z)) _ := xw_P (segs := [[xSim g tc q], [xRf (t 3) q rc (rfs rc pp)], xGr (t 0) pp rc 4 (row4 F T L Z)]) (segs' := [[xSim g tc q], [xRf (t 3) q rc (rfs rc pp)], xGr (t 0) pp rc 4 (row4 F T L Z)]) [0, 1, 2] rfl (xw_appP (a := []) (b := [[xSim g tc q], [xRf (t 3) q rc (rfs rc pp)], xGr (t 0) pp rc 4 (row4 F T L Z)]) hP)
  have hD : va_D _ ([xSim g tc q, xRf (t 3) q rc (rfs rc pp)] ++ xGr (t 0) pp rc 4 (row4 F T L Z)) := xw_D (segs := [[xSim g tc q], [xRf (t 3) q rc (rfs rc pp)], xGr (t 0) pp rc 4 (row4 F T L Z)]) (segs' := [[xSim g tc q], [xRf (t 3) q rc (rfs rc pp)], xGr (t 0) pp rc 4 (row4 F T L Z)]) [0, 1, 2] (by decide) rfl (xw_appD (a := []) (b := [[xSim g tc q], [xRf (t 3) q rc (rfs rc pp)], xGr (t 0) pp rc 4 (row4 F T L Z)]) hD)
  refine lv_astore_nN (lv' := [(1, .null), (0, .ref g)]) hx hb dX1_times_4 rfl hl (by decide) rfl (fun ls hl => ?_)
  refine lv_aload_nN hx hb dX1_times_5 rfl (lv_at hl 0 rfl) ?_
  refine lv_ifnonnullN hx hb dX1_times_6 ?_
  refine lv_null hx hb dX1_times_9 ?_
  subst hAe
  obtain ⟨hq9, hf9⟩ := xm_end (S := Unit) (pu := (fun u : Unit => True)) (r := (fun u : Unit => some (.null))) (wc := ([xSim g tc q, xRf (t 3) q rc (rfs rc pp)] ++ xGr (t 0) pp rc 4 (row4 F T L Z))) (w1 := (fun u : Unit => [xSim g tc q, xRf (t 3) q rc (rfs rc pp)] ++ xGr (t 0) pp rc 4 (row4 F T L Z))) (o := some (.null)) (args := ([.ref g] : List Value).toArray) () rfl trivial rfl hP hD hS
  exact W.aret hx hb hr (Or.inr ⟨_, rfl⟩) (Or.inl rfl) hq9 hf9 dX1_times_10 hlocks
set_option maxHeartbeats 4000000 in
set_option maxRecDepth 100000 in
theorem c_X1_rounds (l : Launch) (D : va_G) (t : Nat → ClassId) (g tc q rc : Nat) (pp : Nat → Nat) (F T : Nat → Nat) (L : Nat → Int32) (Z : Nat → Bool) (sz : Nat) (htc : tc ≤ 12) (hrc : rc ≤ 30) (hF : ∀ r, r < rc → F r < tc ∧ T r < tc) : Met l yX1_rounds wsX1_rounds ({ frames := 0, cells := 1, slots := 12, locals := 0 }) (xMu D (xTy t) xAo [.ref g] ([xSim g tc q, xRf (t 3) q rc (rfs rc pp)] ++ xGr (t 0) pp rc 4 (row4 F T L Z)) sz) (xQm D (fun u : Unit => True) (fun u : Unit => some (.int (rdS F T L Z rc (tc + 1) 0 (fun _ => 0)))) ([xSim g tc q, xRf (t 3) q rc (rfs rc pp)] ++ xGr (t 0) pp rc 4 (row4 F T L Z)) (fun u : Unit => [xSim g tc q, xRf (t 3) q rc (rfs rc pp)] ++ xGr (t 0) pp rc 4 (row4 F T L Z)) sz) 1 12 (va_A ([xSim g tc q, xRf (t 3) q rc (rfs rc pp)] ++ xGr (t 0) pp rc 4 (row4 F T L Z)) sz) := by
  refine Met.ofW (cc := cX1_rounds) (maxL := 8) (ret := (some .int)) (by decide) rfl ?_
  intro p e s m args below meth c s₁ hB9 hml hv
  obtain ⟨rfl, hsz, hP, hK, hD0, hXX⟩ := hv
  have hx := hB9.exec
  have hb := hB9.bytes
  have hr := hB9.returns
  have hts := atoms_spec (ws := wsX1_rounds) hB9.pre
  have hown : s.vm.findClass RX1 = some m.cls := findClass_of_methodNamed hB9.named
  have hlocks := hB9.notSynchronized
  have hin1 : ∀ w ∈ wsX10, w ∈ wsX1_rounds := fun _ h => List.mem_cons_of_mem _ (List.mem_append_right _ h)
  have fl_18 := hts (.fieldLink RX1 18 "RopeTimesLaw$Sim" "turns" "I") (by decide +kernel)
  have fl_11 := hts (.fieldLink RX1 11 "RopeTimesLaw$Sim" "ropes" "[[I") (by decide +kernel)
  subst hsz
  have hD := hD0.self (sz := s.heap.size)
  generalize hAe : va_A ([xSim g tc q, xRf (t 3) q rc (rfs rc pp)] ++ xGr (t 0) pp rc 4 (row4 F T L Z)) s.heap.size = A at hD ⊢
  have hA : ∀ q : Nat, s.heap.size ≤ q → A q := fun q h => by rw [← hAe]; exact Or.inr h
  have hS : va_S A s.heap s.heap [] := va_S.rf
  have hP : va_P D vwCl ([xSim g tc q, xRf (t 3) q rc (rfs rc pp)] ++ xGr (t 0) pp rc 4 (row4 F T L Z)) s.heap := hP
  have hD : va_D A ([xSim g tc q, xRf (t 3) q rc (rfs rc pp)] ++ xGr (t 0) pp rc 4 (row4 F T L Z)) := hD
  have hl := lv_entry ([.ref g]) (n := 8) (Nat.le_of_ble_eq_true rfl)
  rw [lg_entry_eq]
  generalize (lg_sl ([.ref g]) ++ List.replicate (8 - (lg_sl ([.ref g])).length) Slot.unset).toArray = ls at hl ⊢
  have hl : lv_has ls 8 [(0, .ref g)] := hl
  have hXA : xAo s := hXX
  refine lv_aload_n hx hb dX1_rounds_0 rfl (lv_at hl 0 rfl) ?_
  refine x1_get (v := .int (nI tc)) hx hb hts hin1 hown hK hP 0 rfl 0 (by decide) fl_18 rfl dX1_rounds_1 rfl ?_
  refine x_newa (atype := .int) (ty := .int) (a0 := (tc, .inl (fun _ => 0))) (n := nI tc) (N' := tc) (cT := t 0) hx hb (hts (.arrayClass .int) (by decide +kernel)) rfl 0 rfl (by intro C h; cases h) hK hP hD hS hA (fun _ => rfl) (nI_pos (by omega)) (nI_clamp (by omega)) (by show tc * 4 ≤ 536870912; omega) (Nat.le_of_ble_eq_true rfl) (by show _ ≤ 12; omega) dX1_rounds_4 (fun q_1 H hP hD hS => ?_)
  have hP : va_P D vwCl ([xSim g tc q, xRf (t 3) q rc (rfs rc pp), xArr (t 0) q_1 tc (fun _ => 0)] ++ xGr (t 0) pp rc 4 (row4 F T L Z)) _ := xw_P (segs := [[xSim g tc q], [xRf (t 3) q rc (rfs rc pp)], xGr (t 0) pp rc 4 (row4 F T L Z), [xArr (t 0) q_1 tc (fun _ => 0)]]) (segs' := [[xSim g tc q], [xRf (t 3) q rc (rfs rc pp)], [xArr (t 0) q_1 tc (fun _ => 0)], xGr (t 0) pp rc 4 (row4 F T L Z)]) [0, 1, 3, 2] rfl (xw_appP (a := [[xSim g tc q], [xRf (t 3) q rc (rfs rc pp)], xGr (t 0) pp rc 4 (row4 F T L Z)]) (b := [[xArr (t 0) q_1 tc (fun _ => 0)]]) hP)
  have hD : va_D _ ([xSim g tc q, xRf (t 3) q rc (rfs rc pp), xArr (t 0) q_1 tc (fun _ => 0)] ++ xGr (t 0) pp rc 4 (row4 F T L Z)) := xw_D (segs := [[xSim g tc q], [xRf (t 3) q rc (rfs rc pp)], xGr (t 0) pp rc 4 (row4 F T L Z), [xArr (t 0) q_1 tc (fun _ => 0)]]) (segs' := [[xSim g tc q], [xRf (t 3) q rc (rfs rc pp)], [xArr (t 0) q_1 tc (fun _ => 0)], xGr (t 0) pp rc 4 (row4 F T L Z)]) [0, 1, 3, 2] (by decide) rfl (xw_appD (a := [[xSim g tc q], [xRf (t 3) q rc (rfs rc pp)], xGr (t 0) pp rc 4 (row4 F T L Z)]) (b := [[xArr (t 0) q_1 tc (fun _ => 0)]]) hD)
  refine W.widen (k := 1) (n := 12) (by omega) (by omega) ?_
  refine lv_astore_n (lv' := [(1, .ref q_1), (0, .ref g)]) hx hb dX1_rounds_6 rfl hl (by decide) rfl (fun ls hl => ?_)
  refine lv_iconst (v := 0) hx hb dX1_rounds_7 (by decide) ?_
  refine lv_istore_n (lv' := [(2, .int 0), (1, .ref q_1), (0, .ref g)]) hx hb dX1_rounds_8 rfl hl (by decide) rfl (fun ls hl => ?_)
  have lp_9 : ∀ (n9 : Nat) (k : Nat) (E1 : Nat → Int32), k + n9 = tc + 1 → rdS F T L Z rc n9 k E1 = rdS F T L Z rc (tc + 1) 0 (fun _ => 0) → ∀ (H : Heap) (locs : List Loc), va_P D vwCl ([xSim g tc q, xRf (t 3) q rc (rfs rc pp), xArr (t 0) q_1 tc E1] ++ xGr (t 0) pp rc 4 (row4 F T L Z)) H → va_D A ([xSim g tc q, xRf (t 3) q rc (rfs rc pp), xArr (t 0) q_1 tc E1] ++ xGr (t 0) pp rc 4 (row4 F T L Z)) → va_S A s.heap H locs → ∀ ls : Array Slot, lv_has ls 8 [(2, .int (nI k)), (1, .ref q_1), (0, .ref g)] → W p l e (headSpec wsX1_rounds ({ frames := 0, cells := 1, slots := 12, locals := 0 } : Jvm.Room)).room s m (([.ref g] : List Value).toArray) below meth c H locs 1 12 (MQ below (xQm D (fun u : Unit => True) (fun u : Unit => some (.int (rdS F T L Z rc (tc + 1) 0 (fun _ => 0)))) ([xSim g tc q, xRf (t 3) q rc (rfs rc pp)] ++ xGr (t 0) pp rc 4 (row4 F T L Z)) (fun u : Unit => [xSim g tc q, xRf (t 3) q rc (rfs rc pp)] ++ xGr (t 0) pp rc 4 (row4 F T L Z)) s.heap.size) (([.ref g] : List Value).toArray) s 1 12 A) (F0 m 9 ls []) := by
    intro n9
    induction n9 using Nat.strongRecOn with
    | _ n9 ih_9 =>
      intro k E1 hm_9 hfin_9 H locs hP hD hS ls hl
      refine lv_iload_n hx hb dX1_rounds_9 rfl (lv_at hl 0 rfl) ?_
      refine lv_aload_n hx hb dX1_rounds_10 rfl (lv_at hl 2 rfl) ?_
      refine x1_get (v := .int (nI tc)) hx hb hts hin1 hown hK hP 0 rfl 0 (by decide) fl_18 rfl dX1_rounds_11 rfl ?_
      refine lv_icmp_gt (x := nI k) (y := nI tc) (tgt := 116) hx hb dX1_rounds_14 (by decide) (fun c_2 => ?_) (fun c_2 => ?_)
      · have c_2 := (nI_ltI (a := tc) (b := k) (by omega) (by omega)).mp c_2
        have hn0_9 : n9 = 0 := by omega
        subst hn0_9
        refine lv_iconst (v := (-1)) hx hb dX1_rounds_116 (by decide) ?_
        have hP : va_P D vwCl ([xSim g tc q, xRf (t 3) q rc (rfs rc pp)] ++ xGr (t 0) pp rc 4 (row4 F T L Z)) _ := xw_P (segs := [[xSim g tc q], [xRf (t 3) q rc (rfs rc pp)], [xArr (t 0) q_1 tc E1], xGr (t 0) pp rc 4 (row4 F T L Z)]) (segs' := [[xSim g tc q], [xRf (t 3) q rc (rfs rc pp)], xGr (t 0) pp rc 4 (row4 F T L Z)]) [0, 1, 3] rfl hP
        have hD : va_D _ ([xSim g tc q, xRf (t 3) q rc (rfs rc pp)] ++ xGr (t 0) pp rc 4 (row4 F T L Z)) := xw_D (segs := [[xSim g tc q], [xRf (t 3) q rc (rfs rc pp)], [xArr (t 0) q_1 tc E1], xGr (t 0) pp rc 4 (row4 F T L Z)]) (segs' := [[xSim g tc q], [xRf (t 3) q rc (rfs rc pp)], xGr (t 0) pp rc 4 (row4 F T L Z)]) [0, 1, 3] (by decide) rfl hD
        subst hAe
        obtain ⟨hq9, hf9⟩ := xm_end (S := Unit) (pu := (fun u : Unit => True)) (r := (fun u : Unit => some (.int (rdS F T L Z rc (tc + 1) 0 (fun _ => 0))))) (wc := ([xSim g tc q, xRf (t 3) q rc (rfs rc pp)] ++ xGr (t 0) pp rc 4 (row4 F T L Z))) (w1 := (fun u : Unit => [xSim g tc q, xRf (t 3) q rc (rfs rc pp)] ++ xGr (t 0) pp rc 4 (row4 F T L Z))) (o := some (.int (-1))) (args := ([.ref g] : List Value).toArray) () rfl trivial (by rw [← hfin_9]; rfl) hP hD hS
        exact W.iret hx hb hr hq9 hf9 dX1_rounds_117 hlocks
      · have c_2 : k ≤ tc := Nat.le_of_not_lt (fun z9 => c_2 ((nI_ltI (a := tc) (b := k) (by omega) (by omega)).mpr z9))
        obtain ⟨n99, rfl⟩ : ∃ z, n9 = z + 1 := ⟨n9 - 1, by omega⟩
        refine lv_iconst (v := 0) hx hb dX1_rounds_17 (by decide) ?_
        refine lv_istore_n (lv' := [(3, .int 0), (2, .int (nI k)), (1, .ref q_1), (0, .ref g)]) hx hb dX1_rounds_18 rfl hl (by decide) rfl (fun ls hl => ?_)
        refine lv_aload_n hx hb dX1_rounds_19 rfl (lv_at hl 3 rfl) ?_
        refine x1_get (v := .ref q) hx hb hts hin1 hown hK hP 0 rfl 1 (by decide) fl_11 rfl dX1_rounds_20 rfl ?_
        refine lv_astore (lv' := [(4, .ref q), (3, .int 0), (2, .int (nI k)), (1, .ref q_1), (0, .ref g)]) hx hb dX1_rounds_23 hl (by decide) rfl (fun ls hl => ?_)
        refine lv_aload hx hb dX1_rounds_25 (lv_at hl 0 rfl) ?_
        refine va_alen (v := nI rc) hx hb hK hP 1 2 rfl rfl rfl dX1_rounds_27 ?_
        refine lv_istore (lv' := [(5, .int (nI rc)), (4, .ref q), (3, .int 0), (2, .int (nI k)), (1, .ref q_1), (0, .ref g)]) hx hb dX1_rounds_28 hl (by decide) rfl (fun ls hl => ?_)
        refine lv_iconst (v := 0) hx hb dX1_rounds_30 (by decide) ?_
        refine lv_istore (lv' := [(6, .int 0), (5, .int (nI rc)), (4, .ref q), (3, .int 0), (2, .int (nI k)), (1, .ref q_1), (0, .ref g)]) hx hb dX1_rounds_31 hl (by decide) rfl (fun ls hl => ?_)
        have lp_33 : ∀ (n33 : Nat) (r : Nat) (E2 : Nat → Int32) (ch : Bool), r + n33 = rc → psS F T L Z n33 r E2 ch = psS F T L Z rc 0 E1 false → ∀ (H : Heap) (locs : List Loc), va_P D vwCl ([xSim g tc q, xRf (t 3) q rc (rfs rc pp), xArr (t 0) q_1 tc E2] ++ xGr (t 0) pp rc 4 (row4 F T L Z)) H → va_D A ([xSim g tc q, xRf (t 3) q rc (rfs rc pp), xArr (t 0) q_1 tc E2] ++ xGr (t 0) pp rc 4 (row4 F T L Z)) → va_S A s.heap H locs → ∀ ls : Array Slot, lv_has ls 8 [(6, .int (nI r)), (5, .int (nI rc)), (4, .ref q), (3, .int (bI ch)), (2, .int (nI k)), (1, .ref q_1), (0, .ref g)] → W p l e (headSpec wsX1_rounds ({ frames := 0, cells := 1, slots := 12, locals := 0 } : Jvm.Room)).room s m (([.ref g] : List Value).toArray) below meth c H locs 1 12 (MQ below (xQm D (fun u : Unit => True) (fun u : Unit => some (.int (rdS F T L Z rc (tc + 1) 0 (fun _ => 0)))) ([xSim g tc q, xRf (t 3) q rc (rfs rc pp)] ++ xGr (t 0) pp rc 4 (row4 F T L Z)) (fun u : Unit => [xSim g tc q, xRf (t 3) q rc (rfs rc pp)] ++ xGr (t 0) pp rc 4 (row4 F T L Z)) s.heap.size) (([.ref g] : List Value).toArray) s 1 12 A) (F0 m 33 ls []) := by
          intro n33
          induction n33 using Nat.strongRecOn with
          | _ n33 ih_33 =>
            intro r E2 ch hm_33 hfin_33 H locs hP hD hS ls hl
            refine lv_iload hx hb dX1_rounds_33 (lv_at hl 0 rfl) ?_
            refine lv_iload hx hb dX1_rounds_35 (lv_at hl 1 rfl) ?_
            refine lv_icmp_ge (x := nI r) (y := nI rc) (tgt := 102) hx hb dX1_rounds_37 (by decide) (fun c_3 => ?_) (fun c_3 => ?_)
            · have c_3 := (nI_leI (a := rc) (b := r) (by omega) (by omega)).mp c_3
              have hn0_33 : n33 = 0 := by omega
              subst hn0_33
              obtain rfl : E2 = (psS F T L Z rc 0 E1 false).1 := congrArg (fun z => z.1) hfin_33
              obtain rfl : ch = (psS F T L Z rc 0 E1 false).2 := congrArg (fun z => z.2) hfin_33
              refine lv_iload_n hx hb dX1_rounds_102 rfl (lv_at hl 3 rfl) ?_
              refine lv_if_ne (x := bI ((psS F T L Z rc 0 E1 false).2)) (tgt := 110) hx hb dX1_rounds_103 (by decide) (fun c_4 => ?_) (fun c_4 => ?_)
              · have c_4 := bI_n0 c_4
                refine lv_iinc (v := nI (k + 1)) (lv' := [(2, .int (nI (k + 1))), (6, .int (nI r)), (5, .int (nI rc)), (4, .ref q), (3, .int (bI ((psS F T L Z rc 0 E1 false).2))), (1, .ref q_1), (0, .ref g)]) hx hb dX1_rounds_110 hl (k := 4) rfl (x_inc _) (by decide) rfl (fun ls hl => ?_)
                refine lv_goto (tgt := 9) hx hb dX1_rounds_113 (by decide) ?_
                exact ih_9 n99 (by omega) (k + 1) ((psS F T L Z rc 0 E1 false).1) (by omega) (by rw [← hfin_9]; simp [rdS, c_2, Nat.not_lt.mpr c_2, c_3, Nat.not_lt.mpr c_3, c_4]) _ _ hP hD hS _ (lv_sub hl [0, 5, 6] rfl)
              · have c_4 := bI_0 c_4
                refine lv_iload_n hx hb dX1_rounds_106 rfl (lv_at hl 4 rfl) ?_
                refine lv_iconst (v := 1) hx hb dX1_rounds_107 (by decide) ?_
                refine lv_iadd (x := nI k) (y := 1) hx hb dX1_rounds_108 ?_
                refine x_top (w := nI (k + 1)) (nI_add k 1) ?_
                have hP : va_P D vwCl ([xSim g tc q, xRf (t 3) q rc (rfs rc pp)] ++ xGr (t 0) pp rc 4 (row4 F T L Z)) _ := xw_P (segs := [[xSim g tc q], [xRf (t 3) q rc (rfs rc pp)], [xArr (t 0) q_1 tc ((psS F T L Z rc 0 E1 false).1)], xGr (t 0) pp rc 4 (row4 F T L Z)]) (segs' := [[xSim g tc q], [xRf (t 3) q rc (rfs rc pp)], xGr (t 0) pp rc 4 (row4 F T L Z)]) [0, 1, 3] rfl hP
                have hD : va_D _ ([xSim g tc q, xRf (t 3) q rc (rfs rc pp)] ++ xGr (t 0) pp rc 4 (row4 F T L Z)) := xw_D (segs := [[xSim g tc q], [xRf (t 3) q rc (rfs rc pp)], [xArr (t 0) q_1 tc ((psS F T L Z rc 0 E1 false).1)], xGr (t 0) pp rc 4 (row4 F T L Z)]) (segs' := [[xSim g tc q], [xRf (t 3) q rc (rfs rc pp)], xGr (t 0) pp rc 4 (row4 F T L Z)]) [0, 1, 3] (by decide) rfl hD
                subst hAe
                obtain ⟨hq9, hf9⟩ := xm_end (S := Unit) (pu := (fun u : Unit => True)) (r := (fun u : Unit => some (.int (rdS F T L Z rc (tc + 1) 0 (fun _ => 0))))) (wc := ([xSim g tc q, xRf (t 3) q rc (rfs rc pp)] ++ xGr (t 0) pp rc 4 (row4 F T L Z))) (w1 := (fun u : Unit => [xSim g tc q, xRf (t 3) q rc (rfs rc pp)] ++ xGr (t 0) pp rc 4 (row4 F T L Z))) (o := some (.int (nI (k + 1)))) (args := ([.ref g] : List Value).toArray) () rfl trivial (by rw [← hfin_9]; simp [rdS, c_2, Nat.not_lt.mpr c_2, c_3, Nat.not_lt.mpr c_3, c_4]) hP hD hS
                exact W.iret hx hb hr hq9 hf9 dX1_rounds_109 hlocks
            · have c_3 : r < rc := Nat.lt_of_not_le (fun z9 => c_3 ((nI_leI (a := rc) (b := r) (by omega) (by omega)).mpr z9))
              obtain ⟨n339, rfl⟩ : ∃ z, n33 = z + 1 := ⟨n33 - 1, by omega⟩
              refine lv_aload hx hb dX1_rounds_40 (lv_at hl 2 rfl) ?_
              refine lv_iload hx hb dX1_rounds_42 (lv_at hl 0 rfl) ?_
              refine x_aald (v := pp r) hx hb hK hP 1 2 rfl rfl (k := r) (by omega) (by omega) (rfs_at (by omega)) dX1_rounds_44 ?_
              refine lv_astore (lv' := [(7, .ref (pp r)), (6, .int (nI r)), (5, .int (nI rc)), (4, .ref q), (3, .int (bI ch)), (2, .int (nI k)), (1, .ref q_1), (0, .ref g)]) hx hb dX1_rounds_45 hl (by decide) rfl (fun ls hl => ?_)
              refine lv_aload hx hb dX1_rounds_47 (lv_at hl 0 rfl) ?_
              refine lv_iconst (v := 3) hx hb dX1_rounds_49 (by decide) ?_
              refine x_gld (segs := [[xSim g tc q], [xRf (t 3) q rc (rfs rc pp)], [xArr (t 0) q_1 tc E2], xGr (t 0) pp rc 4 (row4 F T L Z)]) 3 rfl hx hb hK hP 0 rfl (i := r) (j := 3) (by omega) (by omega) (by omega) dX1_rounds_50 ?_
              refine x_top (w := bI (Z r)) rfl ?_
              refine lv_if_eq (x := bI (Z r)) (tgt := 96) hx hb dX1_rounds_51 (by decide) (fun c_5 => ?_) (fun c_5 => ?_)
              · have c_5 := bI_0 c_5
                refine lv_iinc (v := nI (r + 1)) (lv' := [(6, .int (nI (r + 1))), (7, .ref (pp r)), (5, .int (nI rc)), (4, .ref q), (3, .int (bI ch)), (2, .int (nI k)), (1, .ref q_1), (0, .ref g)]) hx hb dX1_rounds_96 hl (k := 1) rfl (x_inc _) (by decide) rfl (fun ls hl => ?_)
                refine lv_goto (tgt := 33) hx hb dX1_rounds_99 (by decide) ?_
                exact ih_33 n339 (by omega) (r + 1) E2 ch (by omega) (by rw [← hfin_33]; simp [psS, c_2, Nat.not_lt.mpr c_2, c_3, c_5]) _ _ hP hD hS _ (lv_sub hl [0, 2, 3, 4, 5, 6, 7] rfl)
              · have c_5 := bI_n0 c_5
                refine lv_aload_n hx hb dX1_rounds_54 rfl (lv_at hl 6 rfl) ?_
                refine lv_aload hx hb dX1_rounds_55 (lv_at hl 0 rfl) ?_
                refine lv_iconst (v := 1) hx hb dX1_rounds_57 (by decide) ?_
                refine x_gld (segs := [[xSim g tc q], [xRf (t 3) q rc (rfs rc pp)], [xArr (t 0) q_1 tc E2], xGr (t 0) pp rc 4 (row4 F T L Z)]) 3 rfl hx hb hK hP 0 rfl (i := r) (j := 1) (by omega) (by omega) (by omega) dX1_rounds_58 ?_
                have hf_6 := hF r (by omega)
                refine x_top (w := nI (T r)) rfl ?_
                refine x_iald (f := E2) hx hb hK hP 2 0 rfl rfl (k := T r) (by omega) (by omega) dX1_rounds_59 ?_
                refine lv_aload_n hx hb dX1_rounds_60 rfl (lv_at hl 6 rfl) ?_
                refine lv_aload hx hb dX1_rounds_61 (lv_at hl 0 rfl) ?_
                refine lv_iconst (v := 0) hx hb dX1_rounds_63 (by decide) ?_
                refine x_gld (segs := [[xSim g tc q], [xRf (t 3) q rc (rfs rc pp)], [xArr (t 0) q_1 tc E2], xGr (t 0) pp rc 4 (row4 F T L Z)]) 3 rfl hx hb hK hP 0 rfl (i := r) (j := 0) (by omega) (by omega) (by omega) dX1_rounds_64 ?_
                have hf_7 := hF r (by omega)
                refine x_top (w := nI (F r)) rfl ?_
                refine x_iald (f := E2) hx hb hK hP 2 0 rfl rfl (k := F r) (by omega) (by omega) dX1_rounds_65 ?_
                refine lv_aload hx hb dX1_rounds_66 (lv_at hl 0 rfl) ?_
                refine lv_iconst (v := 2) hx hb dX1_rounds_68 (by decide) ?_
                refine x_gld (segs := [[xSim g tc q], [xRf (t 3) q rc (rfs rc pp)], [xArr (t 0) q_1 tc E2], xGr (t 0) pp rc 4 (row4 F T L Z)]) 3 rfl hx hb hK hP 0 rfl (i := r) (j := 2) (by omega) (by omega) (by omega) dX1_rounds_69 ?_
                refine x_top (w := L r) rfl ?_
                refine lv_iadd (x := E2 (F r)) (y := L r) hx hb dX1_rounds_70 ?_
                refine lv_icmp_gt (x := E2 (T r)) (y := (E2 (F r)) + (L r)) (tgt := 77) hx hb dX1_rounds_71 (by decide) (fun c_8 => ?_) (fun c_8 => ?_)
                · refine lv_aload_n hx hb dX1_rounds_77 rfl (lv_at hl 6 rfl) ?_
                  refine lv_aload hx hb dX1_rounds_78 (lv_at hl 0 rfl) ?_
                  refine lv_iconst (v := 0) hx hb dX1_rounds_80 (by decide) ?_
                  refine x_gld (segs := [[xSim g tc q], [xRf (t 3) q rc (rfs rc pp)], [xArr (t 0) q_1 tc E2], xGr (t 0) pp rc 4 (row4 F T L Z)]) 3 rfl hx hb hK hP 0 rfl (i := r) (j := 0) (by omega) (by omega) (by omega) dX1_rounds_81 ?_
                  have hf_9 := hF r (by omega)
                  refine x_top (w := nI (F r)) rfl ?_
                  refine lv_aload_n hx hb dX1_rounds_82 rfl (lv_at hl 6 rfl) ?_
                  refine lv_aload hx hb dX1_rounds_83 (lv_at hl 0 rfl) ?_
                  refine lv_iconst (v := 1) hx hb dX1_rounds_85 (by decide) ?_
                  refine x_gld (segs := [[xSim g tc q], [xRf (t 3) q rc (rfs rc pp)], [xArr (t 0) q_1 tc E2], xGr (t 0) pp rc 4 (row4 F T L Z)]) 3 rfl hx hb hK hP 0 rfl (i := r) (j := 1) (by omega) (by omega) (by omega) dX1_rounds_86 ?_
                  have hf_10 := hF r (by omega)
                  refine x_top (w := nI (T r)) rfl ?_
                  refine x_iald (f := E2) hx hb hK hP 2 0 rfl rfl (k := T r) (by omega) (by omega) dX1_rounds_87 ?_
                  refine lv_aload hx hb dX1_rounds_88 (lv_at hl 0 rfl) ?_
                  refine lv_iconst (v := 2) hx hb dX1_rounds_90 (by decide) ?_
                  refine x_gld (segs := [[xSim g tc q], [xRf (t 3) q rc (rfs rc pp)], [xArr (t 0) q_1 tc E2], xGr (t 0) pp rc 4 (row4 F T L Z)]) 3 rfl hx hb hK hP 0 rfl (i := r) (j := 2) (by omega) (by omega) (by omega) dX1_rounds_91 ?_
                  refine x_top (w := L r) rfl ?_
                  refine lv_isub (x := E2 (T r)) (y := L r) hx hb dX1_rounds_92 ?_
                  refine x_iast (x := (E2 (T r)) - (L r)) (f := E2) hx hb hK hP hD hS 2 0 ([xSim g tc q, xRf (t 3) q rc (rfs rc pp), xArr (t 0) q_1 tc (upd E2 (F r) ((E2 (T r)) - (L r)))] ++ xGr (t 0) pp rc 4 (row4 F T L Z)) rfl rfl (k := F r) rfl (by omega) (by omega) dX1_rounds_93 (fun H locs hP hD hS => ?_)
                  refine lv_iconst (v := 1) hx hb dX1_rounds_94 (by decide) ?_
                  refine lv_istore_n (lv' := [(3, .int 1), (7, .ref (pp r)), (6, .int (nI r)), (5, .int (nI rc)), (4, .ref q), (2, .int (nI k)), (1, .ref q_1), (0, .ref g)]) hx hb dX1_rounds_95 rfl hl (by decide) rfl (fun ls hl => ?_)
                  refine lv_iinc (v := nI (r + 1)) (lv' := [(6, .int (nI (r + 1))), (3, .int 1), (7, .ref (pp r)), (5, .int (nI rc)), (4, .ref q), (2, .int (nI k)), (1, .ref q_1), (0, .ref g)]) hx hb dX1_rounds_96 hl (k := 2) rfl (x_inc _) (by decide) rfl (fun ls hl => ?_)
                  refine lv_goto (tgt := 33) hx hb dX1_rounds_99 (by decide) ?_
                  exact ih_33 n339 (by omega) (r + 1) (upd E2 (F r) ((E2 (T r)) - (L r))) true (by omega) (by rw [← hfin_33]; simp [psS, c_2, Nat.not_lt.mpr c_2, c_3, c_5, c_8]) _ _ hP hD hS _ (lv_sub hl [0, 3, 4, 1, 5, 6, 7] rfl)
                · refine lv_goto (tgt := 96) hx hb dX1_rounds_74 (by decide) ?_
                  refine lv_iinc (v := nI (r + 1)) (lv' := [(6, .int (nI (r + 1))), (7, .ref (pp r)), (5, .int (nI rc)), (4, .ref q), (3, .int (bI ch)), (2, .int (nI k)), (1, .ref q_1), (0, .ref g)]) hx hb dX1_rounds_96 hl (k := 1) rfl (x_inc _) (by decide) rfl (fun ls hl => ?_)
                  refine lv_goto (tgt := 33) hx hb dX1_rounds_99 (by decide) ?_
                  exact ih_33 n339 (by omega) (r + 1) E2 ch (by omega) (by rw [← hfin_33]; simp [psS, c_2, Nat.not_lt.mpr c_2, c_3, c_5, c_8]) _ _ hP hD hS _ (lv_sub hl [0, 2, 3, 4, 5, 6, 7] rfl)
        exact lp_33 rc 0 E1 false (by omega) rfl _ _ hP hD hS _ (lv_sub hl [0, 1, 2, 3, 4, 5, 6] rfl)
  exact lp_9 (tc + 1) 0 (fun _ => 0) (by omega) rfl _ _ hP hD hS _ (lv_sub hl [0, 1, 2] rfl)
set_option maxHeartbeats 4000000 in
set_option maxRecDepth 100000 in
theorem c_X1_last (l : Launch) (D : va_G) (t : Nat → ClassId) (q n : Nat) (E : Nat → Int32) (hn : n ≤ 12) : Met l yX1_last wsX1_last ({ frames := 1, cells := 0, slots := 0, locals := 21 }) (xRo D (xTy t) [.ref q] [xArr (t 0) q n E]) (xQr (.int (lastF E n 0 0))) 0 0 (fun _ => False) := by
  refine Met.ofW (cc := cX1_last) (maxL := 6) (ret := (some .int)) (by decide) rfl ?_
  intro p e s m args below meth c s₁ hB9 hml hv
  obtain ⟨rfl, hP, hK⟩ := hv
  have hx := hB9.exec
  have hb := hB9.bytes
  have hr := hB9.returns
  have hts := atoms_spec (ws := wsX1_last) hB9.pre
  have hown : s.vm.findClass RX1 = some m.cls := findClass_of_methodNamed hB9.named
  have hlocks := hB9.notSynchronized
  have ml_32 := hts (.methodLink RX1 32 Lib.Math.max.name) (by decide +kernel)
  have ms_max := hts (.static Lib.Math.max.name) (by decide +kernel)
  have mc_max := hts (.code Lib.Math.max.name Lib.Math.max.code 2 (some .int)) (by decide +kernel)
  have mi_Math := hts (.initialized "java/lang/Math") (by decide +kernel)
  have hl := lv_entry ([.ref q]) (n := 6) (Nat.le_of_ble_eq_true rfl)
  rw [lg_entry_eq]
  generalize (lg_sl ([.ref q]) ++ List.replicate (6 - (lg_sl ([.ref q])).length) Slot.unset).toArray = ls at hl ⊢
  have hl : lv_has ls 6 [(0, .ref q)] := hl
  refine lv_iconst (v := 0) hx hb dX1_last_0 (by decide) ?_
  refine lv_istore_n (lv' := [(1, .int 0), (0, .ref q)]) hx hb dX1_last_1 rfl hl (by decide) rfl (fun ls hl => ?_)
  refine lv_aload_n hx hb dX1_last_2 rfl (lv_at hl 1 rfl) ?_
  refine lv_astore_n (lv' := [(2, .ref q), (1, .int 0), (0, .ref q)]) hx hb dX1_last_3 rfl hl (by decide) rfl (fun ls hl => ?_)
  refine lv_aload_n hx hb dX1_last_4 rfl (lv_at hl 0 rfl) ?_
  refine va_alen (v := nI n) hx hb hK hP 0 0 rfl rfl rfl dX1_last_5 ?_
  refine lv_istore_n (lv' := [(3, .int (nI n)), (2, .ref q), (1, .int 0), (0, .ref q)]) hx hb dX1_last_6 rfl hl (by decide) rfl (fun ls hl => ?_)
  refine lv_iconst (v := 0) hx hb dX1_last_7 (by decide) ?_
  refine lv_istore (lv' := [(4, .int 0), (3, .int (nI n)), (2, .ref q), (1, .int 0), (0, .ref q)]) hx hb dX1_last_8 hl (by decide) rfl (fun ls hl => ?_)
  have lp_10 : ∀ (n10 : Nat) (i : Nat) (mx : Int32), i + n10 = n → lastF E n10 i mx = lastF E n 0 0 → ∀ ls : Array Slot, lv_has ls 6 [(4, .int (nI i)), (3, .int (nI n)), (2, .ref q), (1, .int mx)] → W p l e (headSpec wsX1_last ({ frames := 1, cells := 0, slots := 0, locals := 21 } : Jvm.Room)).room s m (([.ref q] : List Value).toArray) below meth c s.heap [] 0 0 (MQ below (xQr (.int (lastF E n 0 0))) (([.ref q] : List Value).toArray) s 0 0 (fun _ => False)) (F0 m 10 ls []) := by
    intro n10
    induction n10 using Nat.strongRecOn with
    | _ n10 ih_10 =>
      intro i mx hm_10 hfin_10 ls hl
      refine lv_iload hx hb dX1_last_10 (lv_at hl 0 rfl) ?_
      refine lv_iload_n hx hb dX1_last_12 rfl (lv_at hl 1 rfl) ?_
      refine lv_icmp_ge (x := nI i) (y := nI n) (tgt := 35) hx hb dX1_last_13 (by decide) (fun c_1 => ?_) (fun c_1 => ?_)
      · have c_1 := (nI_leI (a := n) (b := i) (by omega) (by omega)).mp c_1
        have hn0_10 : n10 = 0 := by omega
        subst hn0_10
        obtain rfl : mx = lastF E n 0 0 := hfin_10
        refine lv_iload_n hx hb dX1_last_35 rfl (lv_at hl 3 rfl) ?_
        exact x_iret (v := lastF E n 0 0) hx hb hr hlocks rfl dX1_last_36
      · have c_1 : i < n := Nat.lt_of_not_le (fun z9 => c_1 ((nI_leI (a := n) (b := i) (by omega) (by omega)).mpr z9))
        obtain ⟨n109, rfl⟩ : ∃ z, n10 = z + 1 := ⟨n10 - 1, by omega⟩
        refine lv_aload_n hx hb dX1_last_16 rfl (lv_at hl 2 rfl) ?_
        refine lv_iload hx hb dX1_last_17 (lv_at hl 0 rfl) ?_
        refine x_iald (f := E) hx hb hK hP 0 0 rfl rfl (k := i) (by omega) (by omega) dX1_last_19 ?_
        refine lv_istore (lv' := [(5, .int (E i)), (4, .int (nI i)), (3, .int (nI n)), (2, .ref q), (1, .int mx)]) hx hb dX1_last_20 hl (by decide) rfl (fun ls hl => ?_)
        refine lv_iload_n hx hb dX1_last_22 rfl (lv_at hl 4 rfl) ?_
        refine lv_iload hx hb dX1_last_23 (lv_at hl 0 rfl) ?_
        refine va_mmax (x := mx) (y := E i) hx hb (hml.trans hl.1.symm) hown ml_32 ms_max mi_Math mc_max (Nat.le_of_ble_eq_true rfl) (Nat.le_of_ble_eq_true rfl) (Nat.le_of_ble_eq_true rfl) (Nat.le_of_ble_eq_true rfl) dX1_last_25 ?_
        refine x_top (w := mxI mx (E i)) rfl ?_
        refine lv_istore_n (lv' := [(1, .int (mxI mx (E i))), (5, .int (E i)), (4, .int (nI i)), (3, .int (nI n)), (2, .ref q)]) hx hb dX1_last_28 rfl hl (by decide) rfl (fun ls hl => ?_)
        refine lv_iinc (v := nI (i + 1)) (lv' := [(4, .int (nI (i + 1))), (1, .int (mxI mx (E i))), (5, .int (E i)), (3, .int (nI n)), (2, .ref q)]) hx hb dX1_last_29 hl (k := 2) rfl (x_inc _) (by decide) rfl (fun ls hl => ?_)
        refine lv_goto (tgt := 10) hx hb dX1_last_32 (by decide) ?_
        exact ih_10 n109 (by omega) (i + 1) (mxI mx (E i)) (by omega) (by rw [← hfin_10]; simp only [lastF, c_1]; first | rfl | done) _ (lv_sub hl [0, 3, 4, 1] rfl)
  exact lp_10 n 0 0 (by omega) rfl _ (lv_sub hl [0, 1, 2, 3] rfl)
set_option maxHeartbeats 4000000 in
set_option maxRecDepth 100000 in
theorem c_X1_ring (l : Launch) (D : va_G) (t : Nat → ClassId) (g tc q rc : Nat) (pp : Nat → Nat) (F T : Nat → Nat) (L : Nat → Int32) (Z : Nat → Bool) (sz : Nat) (htc : tc ≤ 12) (hrc : rc ≤ 30) (hF : ∀ r, r < rc → F r < tc ∧ T r < tc) : Met l yX1_ring wsX1_ring ({ frames := 1, cells := 169, slots := 2028, locals := 21 }) (xMu D (xTy t) xAo [.ref g] ([xSim g tc q, xRf (t 3) q rc (rfs rc pp)] ++ xGr (t 0) pp rc 4 (row4 F T L Z)) sz) (xQm D (fun u : Unit => True) (fun u : Unit => some (.int (nI (rgT F T L Z tc rc tc 1 (gIn tc tc 0 (fun _ _ => 0)))))) ([xSim g tc q, xRf (t 3) q rc (rfs rc pp)] ++ xGr (t 0) pp rc 4 (row4 F T L Z)) (fun u : Unit => [xSim g tc q, xRf (t 3) q rc (rfs rc pp)] ++ xGr (t 0) pp rc 4 (row4 F T L Z)) sz) 169 2028 (va_A ([xSim g tc q, xRf (t 3) q rc (rfs rc pp)] ++ xGr (t 0) pp rc 4 (row4 F T L Z)) sz) := by
  refine Met.ofW (cc := cX1_ring) (maxL := 9) (ret := (some .int)) (by decide) rfl ?_
  intro p e s m args below meth c s₁ hB9 hml hv
  obtain ⟨rfl, hsz, hP, hK, hD0, hXX⟩ := hv
  have hx := hB9.exec
  have hb := hB9.bytes
  have hr := hB9.returns
  have hts := atoms_spec (ws := wsX1_ring) hB9.pre
  have hown : s.vm.findClass RX1 = some m.cls := findClass_of_methodNamed hB9.named
  have hlocks := hB9.notSynchronized
  have hin1 : ∀ w ∈ wsX10, w ∈ wsX1_ring := fun _ h => List.mem_cons_of_mem _ (List.mem_append_right _ h)
  have fl_18 := hts (.fieldLink RX1 18 "RopeTimesLaw$Sim" "turns" "I") (by decide +kernel)
  have kc_27 := hts (.constant RX1 27 (99999)) (by decide +kernel)
  have fl_11 := hts (.fieldLink RX1 11 "RopeTimesLaw$Sim" "ropes" "[[I") (by decide +kernel)
  have ml_38 := hts (.methodLink RX1 38 Lib.Math.min.name) (by decide +kernel)
  have ms_min := hts (.static Lib.Math.min.name) (by decide +kernel)
  have mc_min := hts (.code Lib.Math.min.name Lib.Math.min.code 2 (some .int)) (by decide +kernel)
  have mi_Math := hts (.initialized "java/lang/Math") (by decide +kernel)
  subst hsz
  have hD := hD0.self (sz := s.heap.size)
  generalize hAe : va_A ([xSim g tc q, xRf (t 3) q rc (rfs rc pp)] ++ xGr (t 0) pp rc 4 (row4 F T L Z)) s.heap.size = A at hD ⊢
  have hA : ∀ q : Nat, s.heap.size ≤ q → A q := fun q h => by rw [← hAe]; exact Or.inr h
  have hS : va_S A s.heap s.heap [] := va_S.rf
  have hP : va_P D vwCl ([xSim g tc q, xRf (t 3) q rc (rfs rc pp)] ++ xGr (t 0) pp rc 4 (row4 F T L Z)) s.heap := hP
  have hD : va_D A ([xSim g tc q, xRf (t 3) q rc (rfs rc pp)] ++ xGr (t 0) pp rc 4 (row4 F T L Z)) := hD
  have hl := lv_entry ([.ref g]) (n := 9) (Nat.le_of_ble_eq_true rfl)
  rw [lg_entry_eq]
  generalize (lg_sl ([.ref g]) ++ List.replicate (9 - (lg_sl ([.ref g])).length) Slot.unset).toArray = ls at hl ⊢
  have hl : lv_has ls 9 [(0, .ref g)] := hl
  have hXA : xAo s := hXX
  have hsq : tc * tc ≤ 144 := Nat.mul_le_mul htc htc
  refine lv_aload_n hx hb dX1_ring_0 rfl (lv_at hl 0 rfl) ?_
  refine x1_get (v := .int (nI tc)) hx hb hts hin1 hown hK hP 0 rfl 0 (by decide) fl_18 rfl dX1_ring_1 rfl ?_
  refine lv_aload_n hx hb dX1_ring_4 rfl (lv_at hl 0 rfl) ?_
  refine x1_get (v := .int (nI tc)) hx hb hts hin1 hown hK hP 0 rfl 0 (by decide) fl_18 rfl dX1_ring_5 rfl ?_
  refine x_mna (n := tc) hx hb hown (hts (.classLink RX1 26 "[[I") (by decide +kernel)) hXA.1 (hts (.arrayClass .int) (by decide +kernel)) hK hP hD hS hA (by omega) (by show _ ≤ 169; omega) (by show _ ≤ 2028; omega) dX1_ring_8 (fun q_1 gr_2 H hP hD hS => ?_)
  have hP : va_P D vwCl ([xSim g tc q, xRf (t 3) q rc (rfs rc pp), xRf (t 3) q_1 tc (rfs tc gr_2)] ++ (xGr (t 0) pp rc 4 (row4 F T L Z) ++ xGr (t 0) gr_2 tc tc (fun _ _ => 0))) _ := xw_P (segs := [[xSim g tc q], [xRf (t 3) q rc (rfs rc pp)], xGr (t 0) pp rc 4 (row4 F T L Z), [xRf (t 3) q_1 tc (rfs tc gr_2)], xGr (t 0) gr_2 tc tc (fun _ _ => 0)]) (segs' := [[xSim g tc q], [xRf (t 3) q rc (rfs rc pp)], [xRf (t 3) q_1 tc (rfs tc gr_2)], xGr (t 0) pp rc 4 (row4 F T L Z), xGr (t 0) gr_2 tc tc (fun _ _ => 0)]) [0, 1, 3, 2, 4] rfl (xw_app3P (a := [[xSim g tc q], [xRf (t 3) q rc (rfs rc pp)], xGr (t 0) pp rc 4 (row4 F T L Z)]) (b := [[xRf (t 3) q_1 tc (rfs tc gr_2)]]) (c := [xGr (t 0) gr_2 tc tc (fun _ _ => 0)]) hP)
  have hD : va_D _ ([xSim g tc q, xRf (t 3) q rc (rfs rc pp), xRf (t 3) q_1 tc (rfs tc gr_2)] ++ (xGr (t 0) pp rc 4 (row4 F T L Z) ++ xGr (t 0) gr_2 tc tc (fun _ _ => 0))) := xw_D (segs := [[xSim g tc q], [xRf (t 3) q rc (rfs rc pp)], xGr (t 0) pp rc 4 (row4 F T L Z), [xRf (t 3) q_1 tc (rfs tc gr_2)], xGr (t 0) gr_2 tc tc (fun _ _ => 0)]) (segs' := [[xSim g tc q], [xRf (t 3) q rc (rfs rc pp)], [xRf (t 3) q_1 tc (rfs tc gr_2)], xGr (t 0) pp rc 4 (row4 F T L Z), xGr (t 0) gr_2 tc tc (fun _ _ => 0)]) [0, 1, 3, 2, 4] (by decide) rfl (xw_app3D (a := [[xSim g tc q], [xRf (t 3) q rc (rfs rc pp)], xGr (t 0) pp rc 4 (row4 F T L Z)]) (b := [[xRf (t 3) q_1 tc (rfs tc gr_2)]]) (c := [xGr (t 0) gr_2 tc tc (fun _ _ => 0)]) hD)
  refine W.widen (k := 13) (n := 156) (by omega) (by omega) ?_
  refine lv_astore_n (lv' := [(1, .ref q_1), (0, .ref g)]) hx hb dX1_ring_12 rfl hl (by decide) rfl (fun ls hl => ?_)
  refine lv_iconst (v := 0) hx hb dX1_ring_13 (by decide) ?_
  refine lv_istore_n (lv' := [(2, .int 0), (1, .ref q_1), (0, .ref g)]) hx hb dX1_ring_14 rfl hl (by decide) rfl (fun ls hl => ?_)
  have lp_15 : ∀ (n15 : Nat) (i : Nat) (M0 : Nat → Nat → Int32), i + n15 = tc → gIn tc n15 i M0 = gIn tc tc 0 (fun _ _ => 0) → ∀ (H : Heap) (locs : List Loc), va_P D vwCl ([xSim g tc q, xRf (t 3) q rc (rfs rc pp), xRf (t 3) q_1 tc (rfs tc gr_2)] ++ (xGr (t 0) pp rc 4 (row4 F T L Z) ++ xGr (t 0) gr_2 tc tc M0)) H → va_D A ([xSim g tc q, xRf (t 3) q rc (rfs rc pp), xRf (t 3) q_1 tc (rfs tc gr_2)] ++ (xGr (t 0) pp rc 4 (row4 F T L Z) ++ xGr (t 0) gr_2 tc tc M0)) → va_S A s.heap H locs → ∀ ls : Array Slot, lv_has ls 9 [(2, .int (nI i)), (1, .ref q_1), (0, .ref g)] → W p l e (headSpec wsX1_ring ({ frames := 1, cells := 169, slots := 2028, locals := 21 } : Jvm.Room)).room s m (([.ref g] : List Value).toArray) below meth c H locs 13 156 (MQ below (xQm D (fun u : Unit => True) (fun u : Unit => some (.int (nI (rgT F T L Z tc rc tc 1 (gIn tc tc 0 (fun _ _ => 0)))))) ([xSim g tc q, xRf (t 3) q rc (rfs rc pp)] ++ xGr (t 0) pp rc 4 (row4 F T L Z)) (fun u : Unit => [xSim g tc q, xRf (t 3) q rc (rfs rc pp)] ++ xGr (t 0) pp rc 4 (row4 F T L Z)) s.heap.size) (([.ref g] : List Value).toArray) s 169 2028 A) (F0 m 15 ls []) := by
    intro n15
    induction n15 using Nat.strongRecOn with
    | _ n15 ih_15 =>
      intro i M0 hm_15 hfin_15 H locs hP hD hS ls hl
      refine lv_iload_n hx hb dX1_ring_15 rfl (lv_at hl 0 rfl) ?_
      refine lv_aload_n hx hb dX1_ring_16 rfl (lv_at hl 2 rfl) ?_
      refine x1_get (v := .int (nI tc)) hx hb hts hin1 hown hK hP 0 rfl 0 (by decide) fl_18 rfl dX1_ring_17 rfl ?_
      refine lv_icmp_ge (x := nI i) (y := nI tc) (tgt := 61) hx hb dX1_ring_20 (by decide) (fun c_3 => ?_) (fun c_3 => ?_)
      · have c_3 := (nI_leI (a := tc) (b := i) (by omega) (by omega)).mp c_3
        have hn0_15 : n15 = 0 := by omega
        subst hn0_15
        obtain rfl : M0 = gIn tc tc 0 (fun _ _ => 0) := hfin_15
        refine lv_iconst (v := 1) hx hb dX1_ring_61 (by decide) ?_
        refine lv_istore_n (lv' := [(2, .int 1), (1, .ref q_1), (0, .ref g)]) hx hb dX1_ring_62 rfl hl (by decide) rfl (fun ls hl => ?_)
        have lp_63 : ∀ (n63 : Nat) (many : Nat) (S1 : Nat → Nat → Int32) (sq : Nat) (sr : Nat → Nat), many + n63 = tc + 1 → rgT F T L Z tc rc n63 many S1 = rgT F T L Z tc rc tc 1 (gIn tc tc 0 (fun _ _ => 0)) → ∀ (H : Heap) (locs : List Loc), va_P D vwCl ([xSim g tc q, xRf (t 3) q rc (rfs rc pp), xRf (t 3) sq tc (rfs tc sr)] ++ (xGr (t 0) pp rc 4 (row4 F T L Z) ++ xGr (t 0) sr tc tc S1)) H → va_D A ([xSim g tc q, xRf (t 3) q rc (rfs rc pp), xRf (t 3) sq tc (rfs tc sr)] ++ (xGr (t 0) pp rc 4 (row4 F T L Z) ++ xGr (t 0) sr tc tc S1)) → va_S A s.heap H locs → ∀ ls : Array Slot, lv_has ls 9 [(2, .int (nI many)), (1, .ref sq), (0, .ref g)] → W p l e (headSpec wsX1_ring ({ frames := 1, cells := 169, slots := 2028, locals := 21 } : Jvm.Room)).room s m (([.ref g] : List Value).toArray) below meth c H locs (13 * many) (156 * many) (MQ below (xQm D (fun u : Unit => True) (fun u : Unit => some (.int (nI (rgT F T L Z tc rc tc 1 (gIn tc tc 0 (fun _ _ => 0)))))) ([xSim g tc q, xRf (t 3) q rc (rfs rc pp)] ++ xGr (t 0) pp rc 4 (row4 F T L Z)) (fun u : Unit => [xSim g tc q, xRf (t 3) q rc (rfs rc pp)] ++ xGr (t 0) pp rc 4 (row4 F T L Z)) s.heap.size) (([.ref g] : List Value).toArray) s 169 2028 A) (F0 m 63 ls []) := by
          intro n63
          induction n63 using Nat.strongRecOn with
          | _ n63 ih_63 =>
            intro many S1 sq sr hm_63 hfin_63 H locs hP hD hS ls hl
            refine lv_iload_n hx hb dX1_ring_63 rfl (lv_at hl 0 rfl) ?_
            refine lv_aload_n hx hb dX1_ring_64 rfl (lv_at hl 2 rfl) ?_
            refine x1_get (v := .int (nI tc)) hx hb hts hin1 hown hK hP 0 rfl 0 (by decide) fl_18 rfl dX1_ring_65 rfl ?_
            refine lv_icmp_gt (x := nI many) (y := nI tc) (tgt := 287) hx hb dX1_ring_68 (by decide) (fun c_4 => ?_) (fun c_4 => ?_)
            · have c_4 := (nI_ltI (a := tc) (b := many) (by omega) (by omega)).mp c_4
              have hn0_63 : n63 = 0 := by omega
              subst hn0_63
              refine lv_iconst (v := 0) hx hb dX1_ring_287 (by decide) ?_
              have hP : va_P D vwCl ([xSim g tc q, xRf (t 3) q rc (rfs rc pp)] ++ xGr (t 0) pp rc 4 (row4 F T L Z)) _ := xw_P (segs := [[xSim g tc q], [xRf (t 3) q rc (rfs rc pp)], [xRf (t 3) sq tc (rfs tc sr)], xGr (t 0) pp rc 4 (row4 F T L Z), xGr (t 0) sr tc tc S1]) (segs' := [[xSim g tc q], [xRf (t 3) q rc (rfs rc pp)], xGr (t 0) pp rc 4 (row4 F T L Z)]) [0, 1, 3] rfl hP
              have hD : va_D _ ([xSim g tc q, xRf (t 3) q rc (rfs rc pp)] ++ xGr (t 0) pp rc 4 (row4 F T L Z)) := xw_D (segs := [[xSim g tc q], [xRf (t 3) q rc (rfs rc pp)], [xRf (t 3) sq tc (rfs tc sr)], xGr (t 0) pp rc 4 (row4 F T L Z), xGr (t 0) sr tc tc S1]) (segs' := [[xSim g tc q], [xRf (t 3) q rc (rfs rc pp)], xGr (t 0) pp rc 4 (row4 F T L Z)]) [0, 1, 3] (by decide) rfl hD
              subst hAe
              refine W.widen (k := 169) (n := 2028) (by omega) (by omega) ?_
              obtain ⟨hq9, hf9⟩ := xm_end (S := Unit) (pu := (fun u : Unit => True)) (r := (fun u : Unit => some (.int (nI (rgT F T L Z tc rc tc 1 (gIn tc tc 0 (fun _ _ => 0))))))) (wc := ([xSim g tc q, xRf (t 3) q rc (rfs rc pp)] ++ xGr (t 0) pp rc 4 (row4 F T L Z))) (w1 := (fun u : Unit => [xSim g tc q, xRf (t 3) q rc (rfs rc pp)] ++ xGr (t 0) pp rc 4 (row4 F T L Z))) (o := some (.int 0)) (args := ([.ref g] : List Value).toArray) () rfl trivial (by rw [← hfin_63]; rfl) hP hD hS
              exact W.iret hx hb hr hq9 hf9 dX1_ring_288 hlocks
            · have c_4 : many ≤ tc := Nat.le_of_not_lt (fun z9 => c_4 ((nI_ltI (a := tc) (b := many) (by omega) (by omega)).mpr z9))
              obtain ⟨n639, rfl⟩ : ∃ z, n63 = z + 1 := ⟨n63 - 1, by omega⟩
              refine lv_aload_n hx hb dX1_ring_71 rfl (lv_at hl 2 rfl) ?_
              refine x1_get (v := .int (nI tc)) hx hb hts hin1 hown hK hP 0 rfl 0 (by decide) fl_18 rfl dX1_ring_72 rfl ?_
              refine lv_aload_n hx hb dX1_ring_75 rfl (lv_at hl 2 rfl) ?_
              refine x1_get (v := .int (nI tc)) hx hb hts hin1 hown hK hP 0 rfl 0 (by decide) fl_18 rfl dX1_ring_76 rfl ?_
              refine x_mna (n := tc) hx hb hown (hts (.classLink RX1 26 "[[I") (by decide +kernel)) hXA.1 (hts (.arrayClass .int) (by decide +kernel)) hK hP hD hS hA (by omega) (by show _ ≤ 169; omega) (by show _ ≤ 2028; omega) dX1_ring_79 (fun q_5 gr_6 H hP hD hS => ?_)
              have hP : va_P D vwCl ([xSim g tc q, xRf (t 3) q rc (rfs rc pp), xRf (t 3) sq tc (rfs tc sr), xRf (t 3) q_5 tc (rfs tc gr_6)] ++ (xGr (t 0) pp rc 4 (row4 F T L Z) ++ (xGr (t 0) sr tc tc S1 ++ xGr (t 0) gr_6 tc tc (fun _ _ => 0)))) _ := xw_P (segs := [[xSim g tc q], [xRf (t 3) q rc (rfs rc pp)], [xRf (t 3) sq tc (rfs tc sr)], xGr (t 0) pp rc 4 (row4 F T L Z), xGr (t 0) sr tc tc S1, [xRf (t 3) q_5 tc (rfs tc gr_6)], xGr (t 0) gr_6 tc tc (fun _ _ => 0)]) (segs' := [[xSim g tc q], [xRf (t 3) q rc (rfs rc pp)], [xRf (t 3) sq tc (rfs tc sr)], [xRf (t 3) q_5 tc (rfs tc gr_6)], xGr (t 0) pp rc 4 (row4 F T L Z), xGr (t 0) sr tc tc S1, xGr (t 0) gr_6 tc tc (fun _ _ => 0)]) [0, 1, 2, 5, 3, 4, 6] rfl (xw_app3P (a := [[xSim g tc q], [xRf (t 3) q rc (rfs rc pp)], [xRf (t 3) sq tc (rfs tc sr)], xGr (t 0) pp rc 4 (row4 F T L Z), xGr (t 0) sr tc tc S1]) (b := [[xRf (t 3) q_5 tc (rfs tc gr_6)]]) (c := [xGr (t 0) gr_6 tc tc (fun _ _ => 0)]) hP)
              have hD : va_D _ ([xSim g tc q, xRf (t 3) q rc (rfs rc pp), xRf (t 3) sq tc (rfs tc sr), xRf (t 3) q_5 tc (rfs tc gr_6)] ++ (xGr (t 0) pp rc 4 (row4 F T L Z) ++ (xGr (t 0) sr tc tc S1 ++ xGr (t 0) gr_6 tc tc (fun _ _ => 0)))) := xw_D (segs := [[xSim g tc q], [xRf (t 3) q rc (rfs rc pp)], [xRf (t 3) sq tc (rfs tc sr)], xGr (t 0) pp rc 4 (row4 F T L Z), xGr (t 0) sr tc tc S1, [xRf (t 3) q_5 tc (rfs tc gr_6)], xGr (t 0) gr_6 tc tc (fun _ _ => 0)]) (segs' := [[xSim g tc q], [xRf (t 3) q rc (rfs rc pp)], [xRf (t 3) sq tc (rfs tc sr)], [xRf (t 3) q_5 tc (rfs tc gr_6)], xGr (t 0) pp rc 4 (row4 F T L Z), xGr (t 0) sr tc tc S1, xGr (t 0) gr_6 tc tc (fun _ _ => 0)]) [0, 1, 2, 5, 3, 4, 6] (by decide) rfl (xw_app3D (a := [[xSim g tc q], [xRf (t 3) q rc (rfs rc pp)], [xRf (t 3) sq tc (rfs tc sr)], xGr (t 0) pp rc 4 (row4 F T L Z), xGr (t 0) sr tc tc S1]) (b := [[xRf (t 3) q_5 tc (rfs tc gr_6)]]) (c := [xGr (t 0) gr_6 tc tc (fun _ _ => 0)]) hD)
              refine W.widen (k := 13 * many + 13) (n := 156 * many + 156) (by omega) (by omega) ?_
              refine lv_astore_n (lv' := [(3, .ref q_5), (2, .int (nI many)), (1, .ref sq), (0, .ref g)]) hx hb dX1_ring_83 rfl hl (by decide) rfl (fun ls hl => ?_)
              refine lv_aload_n hx hb dX1_ring_84 rfl (lv_at hl 0 rfl) ?_
              refine lv_astore (lv' := [(4, .ref q_5), (3, .ref q_5), (2, .int (nI many)), (1, .ref sq), (0, .ref g)]) hx hb dX1_ring_85 hl (by decide) rfl (fun ls hl => ?_)
              refine lv_aload hx hb dX1_ring_87 (lv_at hl 0 rfl) ?_
              refine va_alen (v := nI tc) hx hb hK hP 3 2 rfl rfl rfl dX1_ring_89 ?_
              refine lv_istore (lv' := [(5, .int (nI tc)), (4, .ref q_5), (3, .ref q_5), (2, .int (nI many)), (1, .ref sq), (0, .ref g)]) hx hb dX1_ring_90 hl (by decide) rfl (fun ls hl => ?_)
              refine lv_iconst (v := 0) hx hb dX1_ring_92 (by decide) ?_
              refine lv_istore (lv' := [(6, .int 0), (5, .int (nI tc)), (4, .ref q_5), (3, .ref q_5), (2, .int (nI many)), (1, .ref sq), (0, .ref g)]) hx hb dX1_ring_93 hl (by decide) rfl (fun ls hl => ?_)
              have lp_95 : ∀ (n95 : Nat) (x : Nat) (N1 : Nat → Nat → Int32), x + n95 = tc → gFA tc n95 x N1 = gFA tc tc 0 (fun _ _ => 0) → ∀ (H : Heap) (locs : List Loc), va_P D vwCl ([xSim g tc q, xRf (t 3) q rc (rfs rc pp), xRf (t 3) sq tc (rfs tc sr), xRf (t 3) q_5 tc (rfs tc gr_6)] ++ (xGr (t 0) pp rc 4 (row4 F T L Z) ++ (xGr (t 0) sr tc tc S1 ++ xGr (t 0) gr_6 tc tc N1))) H → va_D A ([xSim g tc q, xRf (t 3) q rc (rfs rc pp), xRf (t 3) sq tc (rfs tc sr), xRf (t 3) q_5 tc (rfs tc gr_6)] ++ (xGr (t 0) pp rc 4 (row4 F T L Z) ++ (xGr (t 0) sr tc tc S1 ++ xGr (t 0) gr_6 tc tc N1))) → va_S A s.heap H locs → ∀ ls : Array Slot, lv_has ls 9 [(6, .int (nI x)), (5, .int (nI tc)), (4, .ref q_5), (3, .ref q_5), (2, .int (nI many)), (1, .ref sq), (0, .ref g)] → W p l e (headSpec wsX1_ring ({ frames := 1, cells := 169, slots := 2028, locals := 21 } : Jvm.Room)).room s m (([.ref g] : List Value).toArray) below meth c H locs (13 * many + 13) (156 * many + 156) (MQ below (xQm D (fun u : Unit => True) (fun u : Unit => some (.int (nI (rgT F T L Z tc rc tc 1 (gIn tc tc 0 (fun _ _ => 0)))))) ([xSim g tc q, xRf (t 3) q rc (rfs rc pp)] ++ xGr (t 0) pp rc 4 (row4 F T L Z)) (fun u : Unit => [xSim g tc q, xRf (t 3) q rc (rfs rc pp)] ++ xGr (t 0) pp rc 4 (row4 F T L Z)) s.heap.size) (([.ref g] : List Value).toArray) s 169 2028 A) (F0 m 95 ls []) := by
                intro n95
                induction n95 using Nat.strongRecOn with
                | _ n95 ih_95 =>
                  intro x N1 hm_95 hfin_95 H locs hP hD hS ls hl
                  refine lv_iload hx hb dX1_ring_95 (lv_at hl 0 rfl) ?_
                  refine lv_iload hx hb dX1_ring_97 (lv_at hl 1 rfl) ?_
                  refine lv_icmp_ge (x := nI x) (y := nI tc) (tgt := 140) hx hb dX1_ring_99 (by decide) (fun c_7 => ?_) (fun c_7 => ?_)
                  · have c_7 := (nI_leI (a := tc) (b := x) (by omega) (by omega)).mp c_7
                    have hn0_95 : n95 = 0 := by omega
                    subst hn0_95
                    obtain rfl : N1 = gFA tc tc 0 (fun _ _ => 0) := hfin_95
                    refine lv_iconst (v := 0) hx hb dX1_ring_140 (by decide) ?_
                    refine lv_istore (lv' := [(4, .int 0), (6, .int (nI x)), (5, .int (nI tc)), (3, .ref q_5), (2, .int (nI many)), (1, .ref sq), (0, .ref g)]) hx hb dX1_ring_141 hl (by decide) rfl (fun ls hl => ?_)
                    have lp_143 : ∀ (n143 : Nat) (a : Nat) (N3 : Nat → Nat → Int32), a + n143 = tc → rgG F T L Z S1 rc n143 a N3 = rgG F T L Z S1 rc tc 0 (gFA tc tc 0 (fun _ _ => 0)) → ∀ (H : Heap) (locs : List Loc), va_P D vwCl ([xSim g tc q, xRf (t 3) q rc (rfs rc pp), xRf (t 3) sq tc (rfs tc sr), xRf (t 3) q_5 tc (rfs tc gr_6)] ++ (xGr (t 0) pp rc 4 (row4 F T L Z) ++ (xGr (t 0) sr tc tc S1 ++ xGr (t 0) gr_6 tc tc N3))) H → va_D A ([xSim g tc q, xRf (t 3) q rc (rfs rc pp), xRf (t 3) sq tc (rfs tc sr), xRf (t 3) q_5 tc (rfs tc gr_6)] ++ (xGr (t 0) pp rc 4 (row4 F T L Z) ++ (xGr (t 0) sr tc tc S1 ++ xGr (t 0) gr_6 tc tc N3))) → va_S A s.heap H locs → ∀ ls : Array Slot, lv_has ls 9 [(4, .int (nI a)), (3, .ref q_5), (2, .int (nI many)), (1, .ref sq), (0, .ref g)] → W p l e (headSpec wsX1_ring ({ frames := 1, cells := 169, slots := 2028, locals := 21 } : Jvm.Room)).room s m (([.ref g] : List Value).toArray) below meth c H locs (13 * many + 13) (156 * many + 156) (MQ below (xQm D (fun u : Unit => True) (fun u : Unit => some (.int (nI (rgT F T L Z tc rc tc 1 (gIn tc tc 0 (fun _ _ => 0)))))) ([xSim g tc q, xRf (t 3) q rc (rfs rc pp)] ++ xGr (t 0) pp rc 4 (row4 F T L Z)) (fun u : Unit => [xSim g tc q, xRf (t 3) q rc (rfs rc pp)] ++ xGr (t 0) pp rc 4 (row4 F T L Z)) s.heap.size) (([.ref g] : List Value).toArray) s 169 2028 A) (F0 m 143 ls []) := by
                      intro n143
                      induction n143 using Nat.strongRecOn with
                      | _ n143 ih_143 =>
                        intro a N3 hm_143 hfin_143 H locs hP hD hS ls hl
                        refine lv_iload hx hb dX1_ring_143 (lv_at hl 0 rfl) ?_
                        refine lv_aload_n hx hb dX1_ring_145 rfl (lv_at hl 4 rfl) ?_
                        refine x1_get (v := .int (nI tc)) hx hb hts hin1 hown hK hP 0 rfl 0 (by decide) fl_18 rfl dX1_ring_146 rfl ?_
                        refine lv_icmp_ge (x := nI a) (y := nI tc) (tgt := 249) hx hb dX1_ring_149 (by decide) (fun c_8 => ?_) (fun c_8 => ?_)
                        · have c_8 := (nI_leI (a := tc) (b := a) (by omega) (by omega)).mp c_8
                          have hn0_143 : n143 = 0 := by omega
                          subst hn0_143
                          obtain rfl : N3 = rgG F T L Z S1 rc tc 0 (gFA tc tc 0 (fun _ _ => 0)) := hfin_143
                          refine lv_aload_n hx hb dX1_ring_249 rfl (lv_at hl 1 rfl) ?_
                          refine lv_astore_n (lv' := [(1, .ref q_5), (4, .int (nI a)), (3, .ref q_5), (2, .int (nI many)), (0, .ref g)]) hx hb dX1_ring_250 rfl hl (by decide) rfl (fun ls hl => ?_)
                          have hP : va_P D vwCl ([xSim g tc q, xRf (t 3) q rc (rfs rc pp), xRf (t 3) q_5 tc (rfs tc gr_6)] ++ (xGr (t 0) pp rc 4 (row4 F T L Z) ++ xGr (t 0) gr_6 tc tc (rgG F T L Z S1 rc tc 0 (gFA tc tc 0 (fun _ _ => 0))))) _ := xw_P (segs := [[xSim g tc q], [xRf (t 3) q rc (rfs rc pp)], [xRf (t 3) sq tc (rfs tc sr)], [xRf (t 3) q_5 tc (rfs tc gr_6)], xGr (t 0) pp rc 4 (row4 F T L Z), xGr (t 0) sr tc tc S1, xGr (t 0) gr_6 tc tc (rgG F T L Z S1 rc tc 0 (gFA tc tc 0 (fun _ _ => 0)))]) (segs' := [[xSim g tc q], [xRf (t 3) q rc (rfs rc pp)], [xRf (t 3) q_5 tc (rfs tc gr_6)], xGr (t 0) pp rc 4 (row4 F T L Z), xGr (t 0) gr_6 tc tc (rgG F T L Z S1 rc tc 0 (gFA tc tc 0 (fun _ _ => 0)))]) [0, 1, 3, 4, 6] rfl hP
                          have hD : va_D _ ([xSim g tc q, xRf (t 3) q rc (rfs rc pp), xRf (t 3) q_5 tc (rfs tc gr_6)] ++ (xGr (t 0) pp rc 4 (row4 F T L Z) ++ xGr (t 0) gr_6 tc tc (rgG F T L Z S1 rc tc 0 (gFA tc tc 0 (fun _ _ => 0))))) := xw_D (segs := [[xSim g tc q], [xRf (t 3) q rc (rfs rc pp)], [xRf (t 3) sq tc (rfs tc sr)], [xRf (t 3) q_5 tc (rfs tc gr_6)], xGr (t 0) pp rc 4 (row4 F T L Z), xGr (t 0) sr tc tc S1, xGr (t 0) gr_6 tc tc (rgG F T L Z S1 rc tc 0 (gFA tc tc 0 (fun _ _ => 0)))]) (segs' := [[xSim g tc q], [xRf (t 3) q rc (rfs rc pp)], [xRf (t 3) q_5 tc (rfs tc gr_6)], xGr (t 0) pp rc 4 (row4 F T L Z), xGr (t 0) gr_6 tc tc (rgG F T L Z S1 rc tc 0 (gFA tc tc 0 (fun _ _ => 0)))]) [0, 1, 3, 4, 6] (by decide) rfl hD
                          refine lv_iconst (v := 0) hx hb dX1_ring_251 (by decide) ?_
                          refine lv_istore (lv' := [(4, .int 0), (1, .ref q_5), (3, .ref q_5), (2, .int (nI many)), (0, .ref g)]) hx hb dX1_ring_252 hl (by decide) rfl (fun ls hl => ?_)
                          have lp_254 : ∀ (n254 : Nat) (a2 : Nat), a2 + n254 = tc → ngA (rgG F T L Z S1 rc tc 0 (gFA tc tc 0 (fun _ _ => 0))) n254 a2 = ngA (rgG F T L Z S1 rc tc 0 (gFA tc tc 0 (fun _ _ => 0))) tc 0 → ∀ (H : Heap) (locs : List Loc), va_P D vwCl ([xSim g tc q, xRf (t 3) q rc (rfs rc pp), xRf (t 3) q_5 tc (rfs tc gr_6)] ++ (xGr (t 0) pp rc 4 (row4 F T L Z) ++ xGr (t 0) gr_6 tc tc (rgG F T L Z S1 rc tc 0 (gFA tc tc 0 (fun _ _ => 0))))) H → va_D A ([xSim g tc q, xRf (t 3) q rc (rfs rc pp), xRf (t 3) q_5 tc (rfs tc gr_6)] ++ (xGr (t 0) pp rc 4 (row4 F T L Z) ++ xGr (t 0) gr_6 tc tc (rgG F T L Z S1 rc tc 0 (gFA tc tc 0 (fun _ _ => 0))))) → va_S A s.heap H locs → ∀ ls : Array Slot, lv_has ls 9 [(4, .int (nI a2)), (1, .ref q_5), (2, .int (nI many)), (0, .ref g)] → W p l e (headSpec wsX1_ring ({ frames := 1, cells := 169, slots := 2028, locals := 21 } : Jvm.Room)).room s m (([.ref g] : List Value).toArray) below meth c H locs (13 * many + 13) (156 * many + 156) (MQ below (xQm D (fun u : Unit => True) (fun u : Unit => some (.int (nI (rgT F T L Z tc rc tc 1 (gIn tc tc 0 (fun _ _ => 0)))))) ([xSim g tc q, xRf (t 3) q rc (rfs rc pp)] ++ xGr (t 0) pp rc 4 (row4 F T L Z)) (fun u : Unit => [xSim g tc q, xRf (t 3) q rc (rfs rc pp)] ++ xGr (t 0) pp rc 4 (row4 F T L Z)) s.heap.size) (([.ref g] : List Value).toArray) s 169 2028 A) (F0 m 254 ls []) := by
                            intro n254
                            induction n254 using Nat.strongRecOn with
                            | _ n254 ih_254 =>
                              intro a2 hm_254 hfin_254 H locs hP hD hS ls hl
                              refine lv_iload hx hb dX1_ring_254 (lv_at hl 0 rfl) ?_
                              refine lv_aload_n hx hb dX1_ring_256 rfl (lv_at hl 3 rfl) ?_
                              refine x1_get (v := .int (nI tc)) hx hb hts hin1 hown hK hP 0 rfl 0 (by decide) fl_18 rfl dX1_ring_257 rfl ?_
                              refine lv_icmp_ge (x := nI a2) (y := nI tc) (tgt := 281) hx hb dX1_ring_260 (by decide) (fun c_9 => ?_) (fun c_9 => ?_)
                              · have c_9 := (nI_leI (a := tc) (b := a2) (by omega) (by omega)).mp c_9
                                have hn0_254 : n254 = 0 := by omega
                                subst hn0_254
                                have hng_10 : ngA (rgG F T L Z S1 rc tc 0 (gFA tc tc 0 (fun _ _ => 0))) tc 0 = false := hfin_254.symm
                                refine lv_iinc (v := nI (many + 1)) (lv' := [(2, .int (nI (many + 1))), (4, .int (nI a2)), (1, .ref q_5), (0, .ref g)]) hx hb dX1_ring_281 hl (k := 2) rfl (x_inc _) (by decide) rfl (fun ls hl => ?_)
                                refine lv_goto (tgt := 63) hx hb dX1_ring_284 (by decide) ?_
                                refine W.widen (k := 13 * (many + 1)) (n := 156 * (many + 1)) (by omega) (by omega) ?_
                                exact ih_63 n639 (by omega) (many + 1) (rgG F T L Z S1 rc tc 0 (gFA tc tc 0 (fun _ _ => 0))) q_5 gr_6 (by omega) (by rw [← hfin_63]; simp [rgT, nxG, c_3, Nat.not_lt.mpr c_3, c_4, Nat.not_lt.mpr c_4, c_7, Nat.not_lt.mpr c_7, c_8, Nat.not_lt.mpr c_8, c_9, Nat.not_lt.mpr c_9, hng_10]) _ _ hP hD hS _ (lv_sub hl [0, 2, 3] rfl)
                              · have c_9 : a2 < tc := Nat.lt_of_not_le (fun z9 => c_9 ((nI_leI (a := tc) (b := a2) (by omega) (by omega)).mpr z9))
                                obtain ⟨n2549, rfl⟩ : ∃ z, n254 = z + 1 := ⟨n254 - 1, by omega⟩
                                refine lv_aload_n hx hb dX1_ring_263 rfl (lv_at hl 1 rfl) ?_
                                refine lv_iload hx hb dX1_ring_264 (lv_at hl 0 rfl) ?_
                                refine x_aald (v := gr_6 a2) hx hb hK hP 2 2 rfl rfl (k := a2) (by omega) (by omega) (rfs_at (by omega)) dX1_ring_266 ?_
                                refine lv_iload hx hb dX1_ring_267 (lv_at hl 0 rfl) ?_
                                refine x_gld (segs := [[xSim g tc q], [xRf (t 3) q rc (rfs rc pp)], [xRf (t 3) q_5 tc (rfs tc gr_6)], xGr (t 0) pp rc 4 (row4 F T L Z), xGr (t 0) gr_6 tc tc (rgG F T L Z S1 rc tc 0 (gFA tc tc 0 (fun _ _ => 0)))]) 4 rfl hx hb hK hP 0 rfl (i := a2) (j := a2) (by omega) (by omega) (by omega) dX1_ring_269 ?_
                                refine lv_if_ge (x := (rgG F T L Z S1 rc tc 0 (gFA tc tc 0 (fun _ _ => 0))) a2 a2) (tgt := 275) hx hb dX1_ring_270 (by decide) (fun c_11 => ?_) (fun c_11 => ?_)
                                · have c_11 := Int32.not_lt.mpr c_11
                                  refine lv_iinc (v := nI (a2 + 1)) (lv' := [(4, .int (nI (a2 + 1))), (1, .ref q_5), (2, .int (nI many)), (0, .ref g)]) hx hb dX1_ring_275 hl (k := 0) rfl (x_inc _) (by decide) rfl (fun ls hl => ?_)
                                  refine lv_goto (tgt := 254) hx hb dX1_ring_278 (by decide) ?_
                                  exact ih_254 n2549 (by omega) (a2 + 1) (by omega) (by rw [← hfin_254]; simp [ngA, c_3, Nat.not_lt.mpr c_3, c_4, Nat.not_lt.mpr c_4, c_7, Nat.not_lt.mpr c_7, c_8, Nat.not_lt.mpr c_8, c_9, c_11]) _ _ hP hD hS _ (lv_sub hl [0, 1, 2, 3] rfl)
                                · have c_11 := Int32.not_le.mp c_11
                                  refine lv_iload_n hx hb dX1_ring_273 rfl (lv_at hl 2 rfl) ?_
                                  have hP : va_P D vwCl ([xSim g tc q, xRf (t 3) q rc (rfs rc pp)] ++ xGr (t 0) pp rc 4 (row4 F T L Z)) _ := xw_P (segs := [[xSim g tc q], [xRf (t 3) q rc (rfs rc pp)], [xRf (t 3) q_5 tc (rfs tc gr_6)], xGr (t 0) pp rc 4 (row4 F T L Z), xGr (t 0) gr_6 tc tc (rgG F T L Z S1 rc tc 0 (gFA tc tc 0 (fun _ _ => 0)))]) (segs' := [[xSim g tc q], [xRf (t 3) q rc (rfs rc pp)], xGr (t 0) pp rc 4 (row4 F T L Z)]) [0, 1, 3] rfl hP
                                  have hD : va_D _ ([xSim g tc q, xRf (t 3) q rc (rfs rc pp)] ++ xGr (t 0) pp rc 4 (row4 F T L Z)) := xw_D (segs := [[xSim g tc q], [xRf (t 3) q rc (rfs rc pp)], [xRf (t 3) q_5 tc (rfs tc gr_6)], xGr (t 0) pp rc 4 (row4 F T L Z), xGr (t 0) gr_6 tc tc (rgG F T L Z S1 rc tc 0 (gFA tc tc 0 (fun _ _ => 0)))]) (segs' := [[xSim g tc q], [xRf (t 3) q rc (rfs rc pp)], xGr (t 0) pp rc 4 (row4 F T L Z)]) [0, 1, 3] (by decide) rfl hD
                                  have hg9 : ngA (rgG F T L Z S1 rc tc 0 (gFA tc tc 0 (fun _ _ => 0))) tc 0 = true := by rw [← hfin_254]; simp [ngA, c_3, Nat.not_lt.mpr c_3, c_4, Nat.not_lt.mpr c_4, c_7, Nat.not_lt.mpr c_7, c_8, Nat.not_lt.mpr c_8, c_9, c_11]
                                  subst hAe
                                  refine W.widen (k := 169) (n := 2028) (by omega) (by omega) ?_
                                  obtain ⟨hq9, hf9⟩ := xm_end (S := Unit) (pu := (fun u : Unit => True)) (r := (fun u : Unit => some (.int (nI (rgT F T L Z tc rc tc 1 (gIn tc tc 0 (fun _ _ => 0))))))) (wc := ([xSim g tc q, xRf (t 3) q rc (rfs rc pp)] ++ xGr (t 0) pp rc 4 (row4 F T L Z))) (w1 := (fun u : Unit => [xSim g tc q, xRf (t 3) q rc (rfs rc pp)] ++ xGr (t 0) pp rc 4 (row4 F T L Z))) (o := some (.int (nI many))) (args := ([.ref g] : List Value).toArray) () rfl trivial (by rw [← hfin_63]; simp [rgT, nxG, hg9]) hP hD hS
                                  exact W.iret hx hb hr hq9 hf9 dX1_ring_274 hlocks
                          exact lp_254 tc 0 (by omega) rfl _ _ hP hD hS _ (lv_sub hl [0, 1, 3, 4] rfl)
                        · have c_8 : a < tc := Nat.lt_of_not_le (fun z9 => c_8 ((nI_leI (a := tc) (b := a) (by omega) (by omega)).mpr z9))
                          obtain ⟨n1439, rfl⟩ : ∃ z, n143 = z + 1 := ⟨n143 - 1, by omega⟩
                          refine lv_aload_n hx hb dX1_ring_152 rfl (lv_at hl 4 rfl) ?_
                          refine x1_get (v := .ref q) hx hb hts hin1 hown hK hP 0 rfl 1 (by decide) fl_11 rfl dX1_ring_153 rfl ?_
                          refine lv_astore (lv' := [(5, .ref q), (4, .int (nI a)), (3, .ref q_5), (2, .int (nI many)), (1, .ref sq), (0, .ref g)]) hx hb dX1_ring_156 hl (by decide) rfl (fun ls hl => ?_)
                          refine lv_aload hx hb dX1_ring_158 (lv_at hl 0 rfl) ?_
                          refine va_alen (v := nI rc) hx hb hK hP 1 2 rfl rfl rfl dX1_ring_160 ?_
                          refine lv_istore (lv' := [(6, .int (nI rc)), (5, .ref q), (4, .int (nI a)), (3, .ref q_5), (2, .int (nI many)), (1, .ref sq), (0, .ref g)]) hx hb dX1_ring_161 hl (by decide) rfl (fun ls hl => ?_)
                          refine lv_iconst (v := 0) hx hb dX1_ring_163 (by decide) ?_
                          refine lv_istore (lv' := [(7, .int 0), (6, .int (nI rc)), (5, .ref q), (4, .int (nI a)), (3, .ref q_5), (2, .int (nI many)), (1, .ref sq), (0, .ref g)]) hx hb dX1_ring_164 hl (by decide) rfl (fun ls hl => ?_)
                          have lp_166 : ∀ (n166 : Nat) (r : Nat) (N4 : Nat → Nat → Int32), r + n166 = rc → rgI F T L Z S1 a n166 r N4 = rgI F T L Z S1 a rc 0 N3 → ∀ (H : Heap) (locs : List Loc), va_P D vwCl ([xSim g tc q, xRf (t 3) q rc (rfs rc pp), xRf (t 3) sq tc (rfs tc sr), xRf (t 3) q_5 tc (rfs tc gr_6)] ++ (xGr (t 0) pp rc 4 (row4 F T L Z) ++ (xGr (t 0) sr tc tc S1 ++ xGr (t 0) gr_6 tc tc N4))) H → va_D A ([xSim g tc q, xRf (t 3) q rc (rfs rc pp), xRf (t 3) sq tc (rfs tc sr), xRf (t 3) q_5 tc (rfs tc gr_6)] ++ (xGr (t 0) pp rc 4 (row4 F T L Z) ++ (xGr (t 0) sr tc tc S1 ++ xGr (t 0) gr_6 tc tc N4))) → va_S A s.heap H locs → ∀ ls : Array Slot, lv_has ls 9 [(7, .int (nI r)), (6, .int (nI rc)), (5, .ref q), (4, .int (nI a)), (3, .ref q_5), (2, .int (nI many)), (1, .ref sq), (0, .ref g)] → W p l e (headSpec wsX1_ring ({ frames := 1, cells := 169, slots := 2028, locals := 21 } : Jvm.Room)).room s m (([.ref g] : List Value).toArray) below meth c H locs (13 * many + 13) (156 * many + 156) (MQ below (xQm D (fun u : Unit => True) (fun u : Unit => some (.int (nI (rgT F T L Z tc rc tc 1 (gIn tc tc 0 (fun _ _ => 0)))))) ([xSim g tc q, xRf (t 3) q rc (rfs rc pp)] ++ xGr (t 0) pp rc 4 (row4 F T L Z)) (fun u : Unit => [xSim g tc q, xRf (t 3) q rc (rfs rc pp)] ++ xGr (t 0) pp rc 4 (row4 F T L Z)) s.heap.size) (([.ref g] : List Value).toArray) s 169 2028 A) (F0 m 166 ls []) := by
                            intro n166
                            induction n166 using Nat.strongRecOn with
                            | _ n166 ih_166 =>
                              intro r N4 hm_166 hfin_166 H locs hP hD hS ls hl
                              refine lv_iload hx hb dX1_ring_166 (lv_at hl 0 rfl) ?_
                              refine lv_iload hx hb dX1_ring_168 (lv_at hl 1 rfl) ?_
                              refine lv_icmp_ge (x := nI r) (y := nI rc) (tgt := 243) hx hb dX1_ring_170 (by decide) (fun c_12 => ?_) (fun c_12 => ?_)
                              · have c_12 := (nI_leI (a := rc) (b := r) (by omega) (by omega)).mp c_12
                                have hn0_166 : n166 = 0 := by omega
                                subst hn0_166
                                obtain rfl : N4 = rgI F T L Z S1 a rc 0 N3 := hfin_166
                                refine lv_iinc (v := nI (a + 1)) (lv' := [(4, .int (nI (a + 1))), (7, .int (nI r)), (6, .int (nI rc)), (5, .ref q), (3, .ref q_5), (2, .int (nI many)), (1, .ref sq), (0, .ref g)]) hx hb dX1_ring_243 hl (k := 3) rfl (x_inc _) (by decide) rfl (fun ls hl => ?_)
                                refine lv_goto (tgt := 143) hx hb dX1_ring_246 (by decide) ?_
                                exact ih_143 n1439 (by omega) (a + 1) (rgI F T L Z S1 a rc 0 N3) (by omega) (by rw [← hfin_143]; first | rfl | (simp only [c_8, c_12, Nat.not_lt.mpr c_12]; first | rfl | done)) _ _ hP hD hS _ (lv_sub hl [0, 4, 5, 6, 7] rfl)
                              · have c_12 : r < rc := Nat.lt_of_not_le (fun z9 => c_12 ((nI_leI (a := rc) (b := r) (by omega) (by omega)).mpr z9))
                                obtain ⟨n1669, rfl⟩ : ∃ z, n166 = z + 1 := ⟨n166 - 1, by omega⟩
                                refine lv_aload hx hb dX1_ring_173 (lv_at hl 2 rfl) ?_
                                refine lv_iload hx hb dX1_ring_175 (lv_at hl 0 rfl) ?_
                                refine x_aald (v := pp r) hx hb hK hP 1 2 rfl rfl (k := r) (by omega) (by omega) (rfs_at (by omega)) dX1_ring_177 ?_
                                refine lv_astore (lv' := [(8, .ref (pp r)), (7, .int (nI r)), (6, .int (nI rc)), (5, .ref q), (4, .int (nI a)), (3, .ref q_5), (2, .int (nI many)), (1, .ref sq), (0, .ref g)]) hx hb dX1_ring_178 hl (by decide) rfl (fun ls hl => ?_)
                                refine lv_aload hx hb dX1_ring_180 (lv_at hl 0 rfl) ?_
                                refine lv_iconst (v := 3) hx hb dX1_ring_182 (by decide) ?_
                                refine x_gld (segs := [[xSim g tc q], [xRf (t 3) q rc (rfs rc pp)], [xRf (t 3) sq tc (rfs tc sr)], [xRf (t 3) q_5 tc (rfs tc gr_6)], xGr (t 0) pp rc 4 (row4 F T L Z), xGr (t 0) sr tc tc S1, xGr (t 0) gr_6 tc tc N4]) 4 rfl hx hb hK hP 0 rfl (i := r) (j := 3) (by omega) (by omega) (by omega) dX1_ring_183 ?_
                                refine x_top (w := bI (Z r)) rfl ?_
                                refine lv_iconst (v := 1) hx hb dX1_ring_184 (by decide) ?_
                                refine lv_icmp_ne (x := bI (Z r)) (y := 1) (tgt := 237) hx hb dX1_ring_185 (by decide) (fun c_13 => ?_) (fun c_13 => ?_)
                                · have c_13 := bI_n1 c_13
                                  refine lv_iinc (v := nI (r + 1)) (lv' := [(7, .int (nI (r + 1))), (8, .ref (pp r)), (6, .int (nI rc)), (5, .ref q), (4, .int (nI a)), (3, .ref q_5), (2, .int (nI many)), (1, .ref sq), (0, .ref g)]) hx hb dX1_ring_237 hl (k := 1) rfl (x_inc _) (by decide) rfl (fun ls hl => ?_)
                                  refine lv_goto (tgt := 166) hx hb dX1_ring_240 (by decide) ?_
                                  exact ih_166 n1669 (by omega) (r + 1) N4 (by omega) (by rw [← hfin_166]; simp [rgI, c_3, Nat.not_lt.mpr c_3, c_4, Nat.not_lt.mpr c_4, c_7, Nat.not_lt.mpr c_7, c_8, c_12, c_13]) _ _ hP hD hS _ (lv_sub hl [0, 2, 3, 4, 5, 6, 7, 8] rfl)
                                · have c_13 := bI_1 c_13
                                  refine lv_aload_n hx hb dX1_ring_188 rfl (lv_at hl 7 rfl) ?_
                                  refine lv_iload hx hb dX1_ring_189 (lv_at hl 4 rfl) ?_
                                  refine x_aald (v := sr a) hx hb hK hP 2 2 rfl rfl (k := a) (by omega) (by omega) (rfs_at (by omega)) dX1_ring_191 ?_
                                  refine lv_aload hx hb dX1_ring_192 (lv_at hl 0 rfl) ?_
                                  refine lv_iconst (v := 0) hx hb dX1_ring_194 (by decide) ?_
                                  refine x_gld (segs := [[xSim g tc q], [xRf (t 3) q rc (rfs rc pp)], [xRf (t 3) sq tc (rfs tc sr)], [xRf (t 3) q_5 tc (rfs tc gr_6)], xGr (t 0) pp rc 4 (row4 F T L Z), xGr (t 0) sr tc tc S1, xGr (t 0) gr_6 tc tc N4]) 4 rfl hx hb hK hP 0 rfl (i := r) (j := 0) (by omega) (by omega) (by omega) dX1_ring_195 ?_
                                  have hf_14 := hF r (by omega)
                                  refine x_top (w := nI (F r)) rfl ?_
                                  refine x_gld (segs := [[xSim g tc q], [xRf (t 3) q rc (rfs rc pp)], [xRf (t 3) sq tc (rfs tc sr)], [xRf (t 3) q_5 tc (rfs tc gr_6)], xGr (t 0) pp rc 4 (row4 F T L Z), xGr (t 0) sr tc tc S1, xGr (t 0) gr_6 tc tc N4]) 5 rfl hx hb hK hP 0 rfl (i := a) (j := F r) (by omega) (by omega) (by omega) dX1_ring_196 ?_
                                  refine lv_ldc (v := 99999) hx hb hown kc_27 dX1_ring_197 ?_
                                  refine lv_icmp_eq (x := S1 a (F r)) (y := 99999) (tgt := 237) hx hb dX1_ring_199 (by decide) (fun c_15 => ?_) (fun c_15 => ?_)
                                  · refine lv_iinc (v := nI (r + 1)) (lv' := [(7, .int (nI (r + 1))), (8, .ref (pp r)), (6, .int (nI rc)), (5, .ref q), (4, .int (nI a)), (3, .ref q_5), (2, .int (nI many)), (1, .ref sq), (0, .ref g)]) hx hb dX1_ring_237 hl (k := 1) rfl (x_inc _) (by decide) rfl (fun ls hl => ?_)
                                    refine lv_goto (tgt := 166) hx hb dX1_ring_240 (by decide) ?_
                                    exact ih_166 n1669 (by omega) (r + 1) N4 (by omega) (by rw [← hfin_166]; simp [rgI, c_3, Nat.not_lt.mpr c_3, c_4, Nat.not_lt.mpr c_4, c_7, Nat.not_lt.mpr c_7, c_8, c_12, c_13, c_15]) _ _ hP hD hS _ (lv_sub hl [0, 2, 3, 4, 5, 6, 7, 8] rfl)
                                  · refine lv_aload_n hx hb dX1_ring_202 rfl (lv_at hl 5 rfl) ?_
                                    refine lv_iload hx hb dX1_ring_203 (lv_at hl 4 rfl) ?_
                                    refine x_aald (v := gr_6 a) hx hb hK hP 3 2 rfl rfl (k := a) (by omega) (by omega) (rfs_at (by omega)) dX1_ring_205 ?_
                                    refine lv_aload hx hb dX1_ring_206 (lv_at hl 0 rfl) ?_
                                    refine lv_iconst (v := 1) hx hb dX1_ring_208 (by decide) ?_
                                    refine x_gld (segs := [[xSim g tc q], [xRf (t 3) q rc (rfs rc pp)], [xRf (t 3) sq tc (rfs tc sr)], [xRf (t 3) q_5 tc (rfs tc gr_6)], xGr (t 0) pp rc 4 (row4 F T L Z), xGr (t 0) sr tc tc S1, xGr (t 0) gr_6 tc tc N4]) 4 rfl hx hb hK hP 0 rfl (i := r) (j := 1) (by omega) (by omega) (by omega) dX1_ring_209 ?_
                                    have hf_16 := hF r (by omega)
                                    refine x_top (w := nI (T r)) rfl ?_
                                    refine lv_aload_n hx hb dX1_ring_210 rfl (lv_at hl 5 rfl) ?_
                                    refine lv_iload hx hb dX1_ring_211 (lv_at hl 4 rfl) ?_
                                    refine x_aald (v := gr_6 a) hx hb hK hP 3 2 rfl rfl (k := a) (by omega) (by omega) (rfs_at (by omega)) dX1_ring_213 ?_
                                    refine lv_aload hx hb dX1_ring_214 (lv_at hl 0 rfl) ?_
                                    refine lv_iconst (v := 1) hx hb dX1_ring_216 (by decide) ?_
                                    refine x_gld (segs := [[xSim g tc q], [xRf (t 3) q rc (rfs rc pp)], [xRf (t 3) sq tc (rfs tc sr)], [xRf (t 3) q_5 tc (rfs tc gr_6)], xGr (t 0) pp rc 4 (row4 F T L Z), xGr (t 0) sr tc tc S1, xGr (t 0) gr_6 tc tc N4]) 4 rfl hx hb hK hP 0 rfl (i := r) (j := 1) (by omega) (by omega) (by omega) dX1_ring_217 ?_
                                    have hf_17 := hF r (by omega)
                                    refine x_top (w := nI (T r)) rfl ?_
                                    refine x_gld (segs := [[xSim g tc q], [xRf (t 3) q rc (rfs rc pp)], [xRf (t 3) sq tc (rfs tc sr)], [xRf (t 3) q_5 tc (rfs tc gr_6)], xGr (t 0) pp rc 4 (row4 F T L Z), xGr (t 0) sr tc tc S1, xGr (t 0) gr_6 tc tc N4]) 6 rfl hx hb hK hP 0 rfl (i := a) (j := T r) (by omega) (by omega) (by omega) dX1_ring_218 ?_
                                    refine lv_aload_n hx hb dX1_ring_219 rfl (lv_at hl 7 rfl) ?_
                                    refine lv_iload hx hb dX1_ring_220 (lv_at hl 4 rfl) ?_
                                    refine x_aald (v := sr a) hx hb hK hP 2 2 rfl rfl (k := a) (by omega) (by omega) (rfs_at (by omega)) dX1_ring_222 ?_
                                    refine lv_aload hx hb dX1_ring_223 (lv_at hl 0 rfl) ?_
                                    refine lv_iconst (v := 0) hx hb dX1_ring_225 (by decide) ?_
                                    refine x_gld (segs := [[xSim g tc q], [xRf (t 3) q rc (rfs rc pp)], [xRf (t 3) sq tc (rfs tc sr)], [xRf (t 3) q_5 tc (rfs tc gr_6)], xGr (t 0) pp rc 4 (row4 F T L Z), xGr (t 0) sr tc tc S1, xGr (t 0) gr_6 tc tc N4]) 4 rfl hx hb hK hP 0 rfl (i := r) (j := 0) (by omega) (by omega) (by omega) dX1_ring_226 ?_
                                    have hf_18 := hF r (by omega)
                                    refine x_top (w := nI (F r)) rfl ?_
                                    refine x_gld (segs := [[xSim g tc q], [xRf (t 3) q rc (rfs rc pp)], [xRf (t 3) sq tc (rfs tc sr)], [xRf (t 3) q_5 tc (rfs tc gr_6)], xGr (t 0) pp rc 4 (row4 F T L Z), xGr (t 0) sr tc tc S1, xGr (t 0) gr_6 tc tc N4]) 5 rfl hx hb hK hP 0 rfl (i := a) (j := F r) (by omega) (by omega) (by omega) dX1_ring_227 ?_
                                    refine lv_aload hx hb dX1_ring_228 (lv_at hl 0 rfl) ?_
                                    refine lv_iconst (v := 2) hx hb dX1_ring_230 (by decide) ?_
                                    refine x_gld (segs := [[xSim g tc q], [xRf (t 3) q rc (rfs rc pp)], [xRf (t 3) sq tc (rfs tc sr)], [xRf (t 3) q_5 tc (rfs tc gr_6)], xGr (t 0) pp rc 4 (row4 F T L Z), xGr (t 0) sr tc tc S1, xGr (t 0) gr_6 tc tc N4]) 4 rfl hx hb hK hP 0 rfl (i := r) (j := 2) (by omega) (by omega) (by omega) dX1_ring_231 ?_
                                    refine x_top (w := L r) rfl ?_
                                    refine lv_iadd (x := S1 a (F r)) (y := L r) hx hb dX1_ring_232 ?_
                                    refine va_mmin (x := N4 a (T r)) (y := (S1 a (F r)) + (L r)) hx hb (hml.trans hl.1.symm) hown ml_38 ms_min mi_Math mc_min (Nat.le_of_ble_eq_true rfl) (Nat.le_of_ble_eq_true rfl) (by show _ ≤ 169; omega) (by show _ ≤ 2028; omega) dX1_ring_233 ?_
                                    refine x_top (w := mnI (N4 a (T r)) ((S1 a (F r)) + (L r))) rfl ?_
                                    refine x_gst (segs := [[xSim g tc q], [xRf (t 3) q rc (rfs rc pp)], [xRf (t 3) sq tc (rfs tc sr)], [xRf (t 3) q_5 tc (rfs tc gr_6)], xGr (t 0) pp rc 4 (row4 F T L Z), xGr (t 0) sr tc tc S1, xGr (t 0) gr_6 tc tc N4]) ([[xSim g tc q], [xRf (t 3) q rc (rfs rc pp)], [xRf (t 3) sq tc (rfs tc sr)], [xRf (t 3) q_5 tc (rfs tc gr_6)], xGr (t 0) pp rc 4 (row4 F T L Z), xGr (t 0) sr tc tc S1, xGr (t 0) gr_6 tc tc (updG N4 a (T r) (mnI (N4 a (T r)) ((S1 a (F r)) + (L r))))]) 6 rfl hx hb hK hP hD hS 0 rfl (i := a) (j := T r) (x := mnI (N4 a (T r)) ((S1 a (F r)) + (L r))) rfl (by omega) (by omega) (by omega) dX1_ring_236 (fun H locs hP hD hS => ?_)
                                    have hP : va_P D vwCl ([xSim g tc q, xRf (t 3) q rc (rfs rc pp), xRf (t 3) sq tc (rfs tc sr), xRf (t 3) q_5 tc (rfs tc gr_6)] ++ (xGr (t 0) pp rc 4 (row4 F T L Z) ++ (xGr (t 0) sr tc tc S1 ++ xGr (t 0) gr_6 tc tc (updG N4 a (T r) (mnI (N4 a (T r)) ((S1 a (F r)) + (L r))))))) _ := hP
                                    have hD : va_D _ ([xSim g tc q, xRf (t 3) q rc (rfs rc pp), xRf (t 3) sq tc (rfs tc sr), xRf (t 3) q_5 tc (rfs tc gr_6)] ++ (xGr (t 0) pp rc 4 (row4 F T L Z) ++ (xGr (t 0) sr tc tc S1 ++ xGr (t 0) gr_6 tc tc (updG N4 a (T r) (mnI (N4 a (T r)) ((S1 a (F r)) + (L r))))))) := hD
                                    refine lv_iinc (v := nI (r + 1)) (lv' := [(7, .int (nI (r + 1))), (8, .ref (pp r)), (6, .int (nI rc)), (5, .ref q), (4, .int (nI a)), (3, .ref q_5), (2, .int (nI many)), (1, .ref sq), (0, .ref g)]) hx hb dX1_ring_237 hl (k := 1) rfl (x_inc _) (by decide) rfl (fun ls hl => ?_)
                                    refine lv_goto (tgt := 166) hx hb dX1_ring_240 (by decide) ?_
                                    exact ih_166 n1669 (by omega) (r + 1) (updG N4 a (T r) (mnI (N4 a (T r)) ((S1 a (F r)) + (L r)))) (by omega) (by rw [← hfin_166]; simp [rgI, c_3, Nat.not_lt.mpr c_3, c_4, Nat.not_lt.mpr c_4, c_7, Nat.not_lt.mpr c_7, c_8, c_12, c_13, c_15]) _ _ hP hD hS _ (lv_sub hl [0, 2, 3, 4, 5, 6, 7, 8] rfl)
                          exact lp_166 rc 0 N3 (by omega) rfl _ _ hP hD hS _ (lv_sub hl [0, 1, 2, 3, 4, 5, 6, 7] rfl)
                    exact lp_143 tc 0 (gFA tc tc 0 (fun _ _ => 0)) (by omega) rfl _ _ hP hD hS _ (lv_sub hl [0, 3, 4, 5, 6] rfl)
                  · have c_7 : x < tc := Nat.lt_of_not_le (fun z9 => c_7 ((nI_leI (a := tc) (b := x) (by omega) (by omega)).mpr z9))
                    obtain ⟨n959, rfl⟩ : ∃ z, n95 = z + 1 := ⟨n95 - 1, by omega⟩
                    refine lv_aload hx hb dX1_ring_102 (lv_at hl 2 rfl) ?_
                    refine lv_iload hx hb dX1_ring_104 (lv_at hl 0 rfl) ?_
                    refine x_aald (v := gr_6 x) hx hb hK hP 3 2 rfl rfl (k := x) (by omega) (by omega) (rfs_at (by omega)) dX1_ring_106 ?_
                    refine lv_astore (lv' := [(7, .ref (gr_6 x)), (6, .int (nI x)), (5, .int (nI tc)), (4, .ref q_5), (3, .ref q_5), (2, .int (nI many)), (1, .ref sq), (0, .ref g)]) hx hb dX1_ring_107 hl (by decide) rfl (fun ls hl => ?_)
                    refine lv_iconst (v := 0) hx hb dX1_ring_109 (by decide) ?_
                    refine lv_istore (lv' := [(8, .int 0), (7, .ref (gr_6 x)), (6, .int (nI x)), (5, .int (nI tc)), (4, .ref q_5), (3, .ref q_5), (2, .int (nI many)), (1, .ref sq), (0, .ref g)]) hx hb dX1_ring_110 hl (by decide) rfl (fun ls hl => ?_)
                    have lp_112 : ∀ (n112 : Nat) (b : Nat) (N2 : Nat → Nat → Int32), b + n112 = tc → gF1 x n112 b N2 = gF1 x tc 0 N1 → ∀ (H : Heap) (locs : List Loc), va_P D vwCl ([xSim g tc q, xRf (t 3) q rc (rfs rc pp), xRf (t 3) sq tc (rfs tc sr), xRf (t 3) q_5 tc (rfs tc gr_6)] ++ (xGr (t 0) pp rc 4 (row4 F T L Z) ++ (xGr (t 0) sr tc tc S1 ++ xGr (t 0) gr_6 tc tc N2))) H → va_D A ([xSim g tc q, xRf (t 3) q rc (rfs rc pp), xRf (t 3) sq tc (rfs tc sr), xRf (t 3) q_5 tc (rfs tc gr_6)] ++ (xGr (t 0) pp rc 4 (row4 F T L Z) ++ (xGr (t 0) sr tc tc S1 ++ xGr (t 0) gr_6 tc tc N2))) → va_S A s.heap H locs → ∀ ls : Array Slot, lv_has ls 9 [(8, .int (nI b)), (7, .ref (gr_6 x)), (6, .int (nI x)), (5, .int (nI tc)), (4, .ref q_5), (3, .ref q_5), (2, .int (nI many)), (1, .ref sq), (0, .ref g)] → W p l e (headSpec wsX1_ring ({ frames := 1, cells := 169, slots := 2028, locals := 21 } : Jvm.Room)).room s m (([.ref g] : List Value).toArray) below meth c H locs (13 * many + 13) (156 * many + 156) (MQ below (xQm D (fun u : Unit => True) (fun u : Unit => some (.int (nI (rgT F T L Z tc rc tc 1 (gIn tc tc 0 (fun _ _ => 0)))))) ([xSim g tc q, xRf (t 3) q rc (rfs rc pp)] ++ xGr (t 0) pp rc 4 (row4 F T L Z)) (fun u : Unit => [xSim g tc q, xRf (t 3) q rc (rfs rc pp)] ++ xGr (t 0) pp rc 4 (row4 F T L Z)) s.heap.size) (([.ref g] : List Value).toArray) s 169 2028 A) (F0 m 112 ls []) := by
                      intro n112
                      induction n112 using Nat.strongRecOn with
                      | _ n112 ih_112 =>
                        intro b N2 hm_112 hfin_112 H locs hP hD hS ls hl
                        refine lv_iload hx hb dX1_ring_112 (lv_at hl 0 rfl) ?_
                        refine lv_aload_n hx hb dX1_ring_114 rfl (lv_at hl 8 rfl) ?_
                        refine x1_get (v := .int (nI tc)) hx hb hts hin1 hown hK hP 0 rfl 0 (by decide) fl_18 rfl dX1_ring_115 rfl ?_
                        refine lv_icmp_ge (x := nI b) (y := nI tc) (tgt := 134) hx hb dX1_ring_118 (by decide) (fun c_19 => ?_) (fun c_19 => ?_)
                        · have c_19 := (nI_leI (a := tc) (b := b) (by omega) (by omega)).mp c_19
                          have hn0_112 : n112 = 0 := by omega
                          subst hn0_112
                          obtain rfl : N2 = gF1 x tc 0 N1 := hfin_112
                          refine lv_iinc (v := nI (x + 1)) (lv' := [(6, .int (nI (x + 1))), (8, .int (nI b)), (7, .ref (gr_6 x)), (5, .int (nI tc)), (4, .ref q_5), (3, .ref q_5), (2, .int (nI many)), (1, .ref sq), (0, .ref g)]) hx hb dX1_ring_134 hl (k := 2) rfl (x_inc _) (by decide) rfl (fun ls hl => ?_)
                          refine lv_goto (tgt := 95) hx hb dX1_ring_137 (by decide) ?_
                          exact ih_95 n959 (by omega) (x + 1) (gF1 x tc 0 N1) (by omega) (by rw [← hfin_95]; first | rfl | (simp only [c_7, c_19, Nat.not_lt.mpr c_19]; first | rfl | done)) _ _ hP hD hS _ (lv_sub hl [0, 3, 4, 5, 6, 7, 8] rfl)
                        · have c_19 : b < tc := Nat.lt_of_not_le (fun z9 => c_19 ((nI_leI (a := tc) (b := b) (by omega) (by omega)).mpr z9))
                          obtain ⟨n1129, rfl⟩ : ∃ z, n112 = z + 1 := ⟨n112 - 1, by omega⟩
                          refine lv_aload hx hb dX1_ring_121 (lv_at hl 1 rfl) ?_
                          refine lv_iload hx hb dX1_ring_123 (lv_at hl 0 rfl) ?_
                          refine lv_ldc (v := 99999) hx hb hown kc_27 dX1_ring_125 ?_
                          refine x_gst (segs := [[xSim g tc q], [xRf (t 3) q rc (rfs rc pp)], [xRf (t 3) sq tc (rfs tc sr)], [xRf (t 3) q_5 tc (rfs tc gr_6)], xGr (t 0) pp rc 4 (row4 F T L Z), xGr (t 0) sr tc tc S1, xGr (t 0) gr_6 tc tc N2]) ([[xSim g tc q], [xRf (t 3) q rc (rfs rc pp)], [xRf (t 3) sq tc (rfs tc sr)], [xRf (t 3) q_5 tc (rfs tc gr_6)], xGr (t 0) pp rc 4 (row4 F T L Z), xGr (t 0) sr tc tc S1, xGr (t 0) gr_6 tc tc (updG N2 x b 99999)]) 6 rfl hx hb hK hP hD hS 0 rfl (i := x) (j := b) (x := 99999) rfl (by omega) (by omega) (by omega) dX1_ring_127 (fun H locs hP hD hS => ?_)
                          have hP : va_P D vwCl ([xSim g tc q, xRf (t 3) q rc (rfs rc pp), xRf (t 3) sq tc (rfs tc sr), xRf (t 3) q_5 tc (rfs tc gr_6)] ++ (xGr (t 0) pp rc 4 (row4 F T L Z) ++ (xGr (t 0) sr tc tc S1 ++ xGr (t 0) gr_6 tc tc (updG N2 x b 99999)))) _ := hP
                          have hD : va_D _ ([xSim g tc q, xRf (t 3) q rc (rfs rc pp), xRf (t 3) sq tc (rfs tc sr), xRf (t 3) q_5 tc (rfs tc gr_6)] ++ (xGr (t 0) pp rc 4 (row4 F T L Z) ++ (xGr (t 0) sr tc tc S1 ++ xGr (t 0) gr_6 tc tc (updG N2 x b 99999)))) := hD
                          refine lv_iinc (v := nI (b + 1)) (lv' := [(8, .int (nI (b + 1))), (7, .ref (gr_6 x)), (6, .int (nI x)), (5, .int (nI tc)), (4, .ref q_5), (3, .ref q_5), (2, .int (nI many)), (1, .ref sq), (0, .ref g)]) hx hb dX1_ring_128 hl (k := 0) rfl (x_inc _) (by decide) rfl (fun ls hl => ?_)
                          refine lv_goto (tgt := 112) hx hb dX1_ring_131 (by decide) ?_
                          exact ih_112 n1129 (by omega) (b + 1) (updG N2 x b 99999) (by omega) (by rw [← hfin_112]; first | rfl | (simp only [c_19]; first | rfl | done)) _ _ hP hD hS _ (lv_sub hl [0, 1, 2, 3, 4, 5, 6, 7, 8] rfl)
                    exact lp_112 tc 0 N1 (by omega) rfl _ _ hP hD hS _ (lv_sub hl [0, 1, 2, 3, 4, 5, 6, 7, 8] rfl)
              exact lp_95 tc 0 (fun _ _ => 0) (by omega) rfl _ _ hP hD hS _ (lv_sub hl [0, 1, 2, 3, 4, 5, 6] rfl)
        refine W.widen (k := 13 * 1) (n := 156 * 1) (by omega) (by omega) ?_
        exact lp_63 tc 1 (gIn tc tc 0 (fun _ _ => 0)) q_1 gr_2 (by omega) rfl _ _ hP hD hS _ (lv_sub hl [0, 1, 2] rfl)
      · have c_3 : i < tc := Nat.lt_of_not_le (fun z9 => c_3 ((nI_leI (a := tc) (b := i) (by omega) (by omega)).mpr z9))
        obtain ⟨n159, rfl⟩ : ∃ z, n15 = z + 1 := ⟨n15 - 1, by omega⟩
        refine lv_iconst (v := 0) hx hb dX1_ring_23 (by decide) ?_
        refine lv_istore_n (lv' := [(3, .int 0), (2, .int (nI i)), (1, .ref q_1), (0, .ref g)]) hx hb dX1_ring_24 rfl hl (by decide) rfl (fun ls hl => ?_)
        have lp_25 : ∀ (n25 : Nat) (j : Nat) (M1 : Nat → Nat → Int32), j + n25 = tc → gRw i n25 j M1 = gRw i tc 0 M0 → ∀ (H : Heap) (locs : List Loc), va_P D vwCl ([xSim g tc q, xRf (t 3) q rc (rfs rc pp), xRf (t 3) q_1 tc (rfs tc gr_2)] ++ (xGr (t 0) pp rc 4 (row4 F T L Z) ++ xGr (t 0) gr_2 tc tc M1)) H → va_D A ([xSim g tc q, xRf (t 3) q rc (rfs rc pp), xRf (t 3) q_1 tc (rfs tc gr_2)] ++ (xGr (t 0) pp rc 4 (row4 F T L Z) ++ xGr (t 0) gr_2 tc tc M1)) → va_S A s.heap H locs → ∀ ls : Array Slot, lv_has ls 9 [(3, .int (nI j)), (2, .int (nI i)), (1, .ref q_1), (0, .ref g)] → W p l e (headSpec wsX1_ring ({ frames := 1, cells := 169, slots := 2028, locals := 21 } : Jvm.Room)).room s m (([.ref g] : List Value).toArray) below meth c H locs 13 156 (MQ below (xQm D (fun u : Unit => True) (fun u : Unit => some (.int (nI (rgT F T L Z tc rc tc 1 (gIn tc tc 0 (fun _ _ => 0)))))) ([xSim g tc q, xRf (t 3) q rc (rfs rc pp)] ++ xGr (t 0) pp rc 4 (row4 F T L Z)) (fun u : Unit => [xSim g tc q, xRf (t 3) q rc (rfs rc pp)] ++ xGr (t 0) pp rc 4 (row4 F T L Z)) s.heap.size) (([.ref g] : List Value).toArray) s 169 2028 A) (F0 m 25 ls []) := by
          intro n25
          induction n25 using Nat.strongRecOn with
          | _ n25 ih_25 =>
            intro j M1 hm_25 hfin_25 H locs hP hD hS ls hl
            refine lv_iload_n hx hb dX1_ring_25 rfl (lv_at hl 0 rfl) ?_
            refine lv_aload_n hx hb dX1_ring_26 rfl (lv_at hl 3 rfl) ?_
            refine x1_get (v := .int (nI tc)) hx hb hts hin1 hown hK hP 0 rfl 0 (by decide) fl_18 rfl dX1_ring_27 rfl ?_
            refine lv_icmp_ge (x := nI j) (y := nI tc) (tgt := 55) hx hb dX1_ring_30 (by decide) (fun c_20 => ?_) (fun c_20 => ?_)
            · have c_20 := (nI_leI (a := tc) (b := j) (by omega) (by omega)).mp c_20
              have hn0_25 : n25 = 0 := by omega
              subst hn0_25
              obtain rfl : M1 = gRw i tc 0 M0 := hfin_25
              refine lv_iinc (v := nI (i + 1)) (lv' := [(2, .int (nI (i + 1))), (3, .int (nI j)), (1, .ref q_1), (0, .ref g)]) hx hb dX1_ring_55 hl (k := 1) rfl (x_inc _) (by decide) rfl (fun ls hl => ?_)
              refine lv_goto (tgt := 15) hx hb dX1_ring_58 (by decide) ?_
              exact ih_15 n159 (by omega) (i + 1) (gRw i tc 0 M0) (by omega) (by rw [← hfin_15]; first | rfl | (simp only [c_3, c_20, Nat.not_lt.mpr c_20]; first | rfl | done)) _ _ hP hD hS _ (lv_sub hl [0, 2, 3] rfl)
            · have c_20 : j < tc := Nat.lt_of_not_le (fun z9 => c_20 ((nI_leI (a := tc) (b := j) (by omega) (by omega)).mpr z9))
              obtain ⟨n259, rfl⟩ : ∃ z, n25 = z + 1 := ⟨n25 - 1, by omega⟩
              refine lv_aload_n hx hb dX1_ring_33 rfl (lv_at hl 2 rfl) ?_
              refine lv_iload_n hx hb dX1_ring_34 rfl (lv_at hl 1 rfl) ?_
              refine x_aald (v := gr_2 i) hx hb hK hP 2 2 rfl rfl (k := i) (by omega) (by omega) (rfs_at (by omega)) dX1_ring_35 ?_
              refine lv_iload_n hx hb dX1_ring_36 rfl (lv_at hl 0 rfl) ?_
              refine lv_iload_n hx hb dX1_ring_37 rfl (lv_at hl 1 rfl) ?_
              refine lv_iload_n hx hb dX1_ring_38 rfl (lv_at hl 0 rfl) ?_
              refine lv_icmp_ne (x := nI i) (y := nI j) (tgt := 46) hx hb dX1_ring_39 (by decide) (fun c_21 => ?_) (fun c_21 => ?_)
              · have c_21 : ¬ i = j := fun z9 => c_21 ((nI_eq (a := i) (b := j) (by omega) (by omega)).mpr z9)
                refine lv_ldc (v := 99999) hx hb hown kc_27 dX1_ring_46 ?_
                refine x_gst (segs := [[xSim g tc q], [xRf (t 3) q rc (rfs rc pp)], [xRf (t 3) q_1 tc (rfs tc gr_2)], xGr (t 0) pp rc 4 (row4 F T L Z), xGr (t 0) gr_2 tc tc M1]) ([[xSim g tc q], [xRf (t 3) q rc (rfs rc pp)], [xRf (t 3) q_1 tc (rfs tc gr_2)], xGr (t 0) pp rc 4 (row4 F T L Z), xGr (t 0) gr_2 tc tc (updG M1 i j 99999)]) 4 rfl hx hb hK hP hD hS 0 rfl (i := i) (j := j) (x := 99999) rfl (by omega) (by omega) (by omega) dX1_ring_48 (fun H locs hP hD hS => ?_)
                have hP : va_P D vwCl ([xSim g tc q, xRf (t 3) q rc (rfs rc pp), xRf (t 3) q_1 tc (rfs tc gr_2)] ++ (xGr (t 0) pp rc 4 (row4 F T L Z) ++ xGr (t 0) gr_2 tc tc (updG M1 i j 99999))) _ := hP
                have hD : va_D _ ([xSim g tc q, xRf (t 3) q rc (rfs rc pp), xRf (t 3) q_1 tc (rfs tc gr_2)] ++ (xGr (t 0) pp rc 4 (row4 F T L Z) ++ xGr (t 0) gr_2 tc tc (updG M1 i j 99999))) := hD
                refine lv_iinc (v := nI (j + 1)) (lv' := [(3, .int (nI (j + 1))), (2, .int (nI i)), (1, .ref q_1), (0, .ref g)]) hx hb dX1_ring_49 hl (k := 0) rfl (x_inc _) (by decide) rfl (fun ls hl => ?_)
                refine lv_goto (tgt := 25) hx hb dX1_ring_52 (by decide) ?_
                exact ih_25 n259 (by omega) (j + 1) (updG M1 i j 99999) (by omega) (by rw [← hfin_25]; simp [gRw, c_3, c_20, c_21]) _ _ hP hD hS _ (lv_sub hl [0, 1, 2, 3] rfl)
              · have c_21 := (nI_eq (a := i) (b := j) (by omega) (by omega)).mp c_21
                refine lv_iconst (v := 0) hx hb dX1_ring_42 (by decide) ?_
                refine lv_goto (tgt := 48) hx hb dX1_ring_43 (by decide) ?_
                refine x_gst (segs := [[xSim g tc q], [xRf (t 3) q rc (rfs rc pp)], [xRf (t 3) q_1 tc (rfs tc gr_2)], xGr (t 0) pp rc 4 (row4 F T L Z), xGr (t 0) gr_2 tc tc M1]) ([[xSim g tc q], [xRf (t 3) q rc (rfs rc pp)], [xRf (t 3) q_1 tc (rfs tc gr_2)], xGr (t 0) pp rc 4 (row4 F T L Z), xGr (t 0) gr_2 tc tc (updG M1 i j 0)]) 4 rfl hx hb hK hP hD hS 0 rfl (i := i) (j := j) (x := 0) rfl (by omega) (by omega) (by omega) dX1_ring_48 (fun H locs hP hD hS => ?_)
                have hP : va_P D vwCl ([xSim g tc q, xRf (t 3) q rc (rfs rc pp), xRf (t 3) q_1 tc (rfs tc gr_2)] ++ (xGr (t 0) pp rc 4 (row4 F T L Z) ++ xGr (t 0) gr_2 tc tc (updG M1 i j 0))) _ := hP
                have hD : va_D _ ([xSim g tc q, xRf (t 3) q rc (rfs rc pp), xRf (t 3) q_1 tc (rfs tc gr_2)] ++ (xGr (t 0) pp rc 4 (row4 F T L Z) ++ xGr (t 0) gr_2 tc tc (updG M1 i j 0))) := hD
                refine lv_iinc (v := nI (j + 1)) (lv' := [(3, .int (nI (j + 1))), (2, .int (nI i)), (1, .ref q_1), (0, .ref g)]) hx hb dX1_ring_49 hl (k := 0) rfl (x_inc _) (by decide) rfl (fun ls hl => ?_)
                refine lv_goto (tgt := 25) hx hb dX1_ring_52 (by decide) ?_
                exact ih_25 n259 (by omega) (j + 1) (updG M1 i j 0) (by omega) (by rw [← hfin_25]; simp [gRw, c_3, c_20, c_21]) _ _ hP hD hS _ (lv_sub hl [0, 1, 2, 3] rfl)
        exact lp_25 tc 0 M0 (by omega) rfl _ _ hP hD hS _ (lv_sub hl [0, 1, 2, 3] rfl)
  exact lp_15 tc 0 (fun _ _ => 0) (by omega) rfl _ _ hP hD hS _ (lv_sub hl [0, 1, 2] rfl)
set_option maxHeartbeats 4000000 in
set_option maxRecDepth 100000 in
theorem c_X1_room (l : Launch) (D : va_G) (t : Nat → ClassId) (g tc q rc : Nat) (pp : Nat → Nat) (F T : Nat → Nat) (L : Nat → Int32) (Z : Nat → Bool) (Wy : Nat → Nat → Int32) (r : Nat) (sz : Nat) (htc : tc ≤ 12) (hrc : rc ≤ 30) (hF : ∀ r, r < rc → F r < tc ∧ T r < tc) (hr9 : r < rc) (hW : bfW F T L (updB Z r false) tc rc = some Wy) : Met l yX1_room wsX1_room ({ frames := 3, cells := 46, slots := 308, locals := 54 }) (xMu D (xTy t) xAo [.ref g, .int (nI r)] ([xSim g tc q, xRf (t 3) q rc (rfs rc pp)] ++ xGr (t 0) pp rc 4 (row4 F T L Z)) sz) (xQm D (fun u : Unit => True) (fun u : Unit => some (.int (rmV Wy (F r) (T r)))) ([xSim g tc q, xRf (t 3) q rc (rfs rc pp)] ++ xGr (t 0) pp rc 4 (row4 F T L Z)) (fun u : Unit => [xSim g tc q, xRf (t 3) q rc (rfs rc pp)] ++ xGr (t 0) pp rc 4 (row4 F T L Z)) sz) 46 308 (va_A ([xSim g tc q, xRf (t 3) q rc (rfs rc pp)] ++ xGr (t 0) pp rc 4 (row4 F T L Z)) sz) := by
  refine Met.ofW (cc := cX1_room) (maxL := 4) (ret := (some .int)) (by decide) rfl ?_
  intro p e s m args below meth c s₁ hB9 hml hv
  obtain ⟨rfl, hsz, hP, hK, hD0, hXX⟩ := hv
  have hx := hB9.exec
  have hb := hB9.bytes
  have hr := hB9.returns
  have hts := atoms_spec (ws := wsX1_room) hB9.pre
  have hown : s.vm.findClass RX1 = some m.cls := findClass_of_methodNamed hB9.named
  have hlocks := hB9.notSynchronized
  have hin1 : ∀ w ∈ wsX10, w ∈ wsX1_room := fun _ h => List.mem_cons_of_mem _ (List.mem_append_right _ h)
  have fl_11 := hts (.fieldLink RX1 11 "RopeTimesLaw$Sim" "ropes" "[[I") (by decide +kernel)
  have kc_27 := hts (.constant RX1 27 (99999)) (by decide +kernel)
  subst hsz
  have hD := hD0.self (sz := s.heap.size)
  generalize hAe : va_A ([xSim g tc q, xRf (t 3) q rc (rfs rc pp)] ++ xGr (t 0) pp rc 4 (row4 F T L Z)) s.heap.size = A at hD ⊢
  have hA : ∀ q : Nat, s.heap.size ≤ q → A q := fun q h => by rw [← hAe]; exact Or.inr h
  have hS : va_S A s.heap s.heap [] := va_S.rf
  have hP : va_P D vwCl ([xSim g tc q, xRf (t 3) q rc (rfs rc pp)] ++ xGr (t 0) pp rc 4 (row4 F T L Z)) s.heap := hP
  have hD : va_D A ([xSim g tc q, xRf (t 3) q rc (rfs rc pp)] ++ xGr (t 0) pp rc 4 (row4 F T L Z)) := hD
  have hl := lv_entry ([.ref g, .int (nI r)]) (n := 4) (Nat.le_of_ble_eq_true rfl)
  rw [lg_entry_eq]
  generalize (lg_sl ([.ref g, .int (nI r)]) ++ List.replicate (4 - (lg_sl ([.ref g, .int (nI r)])).length) Slot.unset).toArray = ls at hl ⊢
  have hl : lv_has ls 4 [(0, .ref g), (1, .int (nI r))] := hl
  have hXA : xAo s := hXX
  refine lv_aload_n hx hb dX1_room_0 rfl (lv_at hl 0 rfl) ?_
  refine xs_V (b := g) (As := []) (rest := []) (segs := [[xSim g tc q], [xRf (t 3) q rc (rfs rc pp)], xGr (t 0) pp rc 4 (row4 F T L Z)]) (segsC := [[xSim g tc q], [xRf (t 3) q rc (rfs rc pp)], xGr (t 0) pp rc 4 (row4 F T L Z)]) (segsR := []) (isC := [0, 1, 2]) (isR := []) ⟨hx, hb, hml, hown, hts⟩ xAo.trav rfl (c_X1_copy l D t g tc q rc pp F T L Z _ (by omega) (by omega) hF) (cwV 0 hts gX1_room_X1_copy rfl rfl rfl hd_X1_copy ⟨Nat.le_of_ble_eq_true rfl, Nat.le_of_ble_eq_true rfl⟩) hK hP hD hS hA (fun U hW hU => hXA.moved hW) (va_recv hK hP (ci := 1) (q0 := 0) rfl rfl) rfl rfl (by decide) rfl hl.1 rfl (Nat.le_of_ble_eq_true rfl) dX1_room_1 ⟨(Nat.le_of_ble_eq_true rfl), (Nat.le_of_ble_eq_true rfl)⟩ (fun u_1 H locs hu hP hD hS hz => ?_)
  have hP : va_P D vwCl ([xSim g tc q, xRf (t 3) q rc (rfs rc pp), xSim u_1.1 tc u_1.2.1, xRf (t 3) u_1.2.1 rc (rfs rc u_1.2.2)] ++ (xGr (t 0) pp rc 4 (row4 F T L Z) ++ xGr (t 0) u_1.2.2 rc 4 (row4 F T L Z))) _ := xw_P (segs := [[xSim g tc q], [xRf (t 3) q rc (rfs rc pp)], [xSim u_1.1 tc u_1.2.1], [xRf (t 3) u_1.2.1 rc (rfs rc u_1.2.2)], xGr (t 0) pp rc 4 (row4 F T L Z), xGr (t 0) u_1.2.2 rc 4 (row4 F T L Z)]) (segs' := [[xSim g tc q], [xRf (t 3) q rc (rfs rc pp)], [xSim u_1.1 tc u_1.2.1], [xRf (t 3) u_1.2.1 rc (rfs rc u_1.2.2)], xGr (t 0) pp rc 4 (row4 F T L Z), xGr (t 0) u_1.2.2 rc 4 (row4 F T L Z)]) [0, 1, 2, 3, 4, 5] rfl (xw_appP (a := []) (b := [[xSim g tc q], [xRf (t 3) q rc (rfs rc pp)], [xSim u_1.1 tc u_1.2.1], [xRf (t 3) u_1.2.1 rc (rfs rc u_1.2.2)], xGr (t 0) pp rc 4 (row4 F T L Z), xGr (t 0) u_1.2.2 rc 4 (row4 F T L Z)]) hP)
  have hD : va_D _ ([xSim g tc q, xRf (t 3) q rc (rfs rc pp), xSim u_1.1 tc u_1.2.1, xRf (t 3) u_1.2.1 rc (rfs rc u_1.2.2)] ++ (xGr (t 0) pp rc 4 (row4 F T L Z) ++ xGr (t 0) u_1.2.2 rc 4 (row4 F T L Z))) := xw_D (segs := [[xSim g tc q], [xRf (t 3) q rc (rfs rc pp)], [xSim u_1.1 tc u_1.2.1], [xRf (t 3) u_1.2.1 rc (rfs rc u_1.2.2)], xGr (t 0) pp rc 4 (row4 F T L Z), xGr (t 0) u_1.2.2 rc 4 (row4 F T L Z)]) (segs' := [[xSim g tc q], [xRf (t 3) q rc (rfs rc pp)], [xSim u_1.1 tc u_1.2.1], [xRf (t 3) u_1.2.1 rc (rfs rc u_1.2.2)], xGr (t 0) pp rc 4 (row4 F T L Z), xGr (t 0) u_1.2.2 rc 4 (row4 F T L Z)]) [0, 1, 2, 3, 4, 5] (by decide) rfl (xw_appD (a := []) (b := [[xSim g tc q], [xRf (t 3) q rc (rfs rc pp)], [xSim u_1.1 tc u_1.2.1], [xRf (t 3) u_1.2.1 rc (rfs rc u_1.2.2)], xGr (t 0) pp rc 4 (row4 F T L Z), xGr (t 0) u_1.2.2 rc 4 (row4 F T L Z)]) hD)
  refine lv_astore_n (lv' := [(2, .ref u_1.1), (0, .ref g), (1, .int (nI r))]) hx hb dX1_room_4 rfl hl (by decide) rfl (fun ls hl => ?_)
  refine lv_aload_n hx hb dX1_room_5 rfl (lv_at hl 0 rfl) ?_
  refine x1_get (v := .ref u_1.2.1) hx hb hts hin1 hown hK hP 2 rfl 1 (by decide) fl_11 rfl dX1_room_6 rfl ?_
  refine lv_iload_n hx hb dX1_room_9 rfl (lv_at hl 2 rfl) ?_
  refine x_aald (v := u_1.2.2 r) hx hb hK hP 3 2 rfl rfl (k := r) (by omega) (by omega) (rfs_at (by omega)) dX1_room_10 ?_
  refine lv_iconst (v := 3) hx hb dX1_room_11 (by decide) ?_
  refine lv_iconst (v := 0) hx hb dX1_room_12 (by decide) ?_
  refine x_top (w := bI false) rfl ?_
  refine x_gst (segs := [[xSim g tc q], [xRf (t 3) q rc (rfs rc pp)], [xSim u_1.1 tc u_1.2.1], [xRf (t 3) u_1.2.1 rc (rfs rc u_1.2.2)], xGr (t 0) pp rc 4 (row4 F T L Z), xGr (t 0) u_1.2.2 rc 4 (row4 F T L Z)]) ([[xSim g tc q], [xRf (t 3) q rc (rfs rc pp)], [xSim u_1.1 tc u_1.2.1], [xRf (t 3) u_1.2.1 rc (rfs rc u_1.2.2)], xGr (t 0) pp rc 4 (row4 F T L Z), xGr (t 0) u_1.2.2 rc 4 (row4 F T L (updB Z r false))]) 5 rfl hx hb hK hP hD hS 0 rfl (i := r) (j := 3) (x := bI false) (by rw [row4_Z]; rfl) (by omega) (by omega) (by omega) dX1_room_13 (fun H locs hP hD hS => ?_)
  have hP : va_P D vwCl ([xSim g tc q, xRf (t 3) q rc (rfs rc pp), xSim u_1.1 tc u_1.2.1, xRf (t 3) u_1.2.1 rc (rfs rc u_1.2.2)] ++ (xGr (t 0) pp rc 4 (row4 F T L Z) ++ xGr (t 0) u_1.2.2 rc 4 (row4 F T L (updB Z r false)))) _ := hP
  have hD : va_D _ ([xSim g tc q, xRf (t 3) q rc (rfs rc pp), xSim u_1.1 tc u_1.2.1, xRf (t 3) u_1.2.1 rc (rfs rc u_1.2.2)] ++ (xGr (t 0) pp rc 4 (row4 F T L Z) ++ xGr (t 0) u_1.2.2 rc 4 (row4 F T L (updB Z r false)))) := hD
  refine lv_aload_n hx hb dX1_room_14 rfl (lv_at hl 0 rfl) ?_
  refine xs_V (b := u_1.1) (As := []) (rest := []) (segs := [[xSim g tc q], [xRf (t 3) q rc (rfs rc pp)], [xSim u_1.1 tc u_1.2.1], [xRf (t 3) u_1.2.1 rc (rfs rc u_1.2.2)], xGr (t 0) pp rc 4 (row4 F T L Z), xGr (t 0) u_1.2.2 rc 4 (row4 F T L (updB Z r false))]) (segsC := [[xSim u_1.1 tc u_1.2.1], [xRf (t 3) u_1.2.1 rc (rfs rc u_1.2.2)], xGr (t 0) u_1.2.2 rc 4 (row4 F T L (updB Z r false))]) (segsR := [[xSim g tc q], [xRf (t 3) q rc (rfs rc pp)], xGr (t 0) pp rc 4 (row4 F T L Z)]) (isC := [2, 3, 5]) (isR := [0, 1, 4]) ⟨hx, hb, hml, hown, hts⟩ xAo.trav rfl (c_X1_waysY l D t u_1.1 tc u_1.2.1 rc u_1.2.2 F T L (updB Z r false) Wy _ (by omega) (by omega) hF hW) (cwV 0 hts gX1_room_X1_ways rfl rfl rfl hd_X1_ways ⟨Nat.le_of_ble_eq_true rfl, Nat.le_of_ble_eq_true rfl⟩) hK hP hD hS hA (fun U hW hU => hXA.moved hW) (va_recv hK hP (ci := 1) (q0 := 2) rfl rfl) rfl rfl (by decide) rfl hl.1 rfl (Nat.le_of_ble_eq_true rfl) dX1_room_15 ⟨(Nat.le_of_ble_eq_true rfl), (Nat.le_of_ble_eq_true rfl)⟩ (fun u_2 H locs hu hP hD hS hz => ?_)
  have hP : va_P D vwCl ([xSim g tc q, xRf (t 3) q rc (rfs rc pp), xSim u_1.1 tc u_1.2.1, xRf (t 3) u_1.2.1 rc (rfs rc u_1.2.2), xRf (t 3) u_2.1 tc (rfs tc u_2.2)] ++ (xGr (t 0) pp rc 4 (row4 F T L Z) ++ (xGr (t 0) u_1.2.2 rc 4 (row4 F T L (updB Z r false)) ++ xGr (t 0) u_2.2 tc tc Wy))) _ := xw_P (segs := [[xSim g tc q], [xRf (t 3) q rc (rfs rc pp)], xGr (t 0) pp rc 4 (row4 F T L Z), [xSim u_1.1 tc u_1.2.1], [xRf (t 3) u_1.2.1 rc (rfs rc u_1.2.2)], [xRf (t 3) u_2.1 tc (rfs tc u_2.2)], xGr (t 0) u_1.2.2 rc 4 (row4 F T L (updB Z r false)), xGr (t 0) u_2.2 tc tc Wy]) (segs' := [[xSim g tc q], [xRf (t 3) q rc (rfs rc pp)], [xSim u_1.1 tc u_1.2.1], [xRf (t 3) u_1.2.1 rc (rfs rc u_1.2.2)], [xRf (t 3) u_2.1 tc (rfs tc u_2.2)], xGr (t 0) pp rc 4 (row4 F T L Z), xGr (t 0) u_1.2.2 rc 4 (row4 F T L (updB Z r false)), xGr (t 0) u_2.2 tc tc Wy]) [0, 1, 3, 4, 5, 2, 6, 7] rfl (xw_appP (a := [[xSim g tc q], [xRf (t 3) q rc (rfs rc pp)], xGr (t 0) pp rc 4 (row4 F T L Z)]) (b := [[xSim u_1.1 tc u_1.2.1], [xRf (t 3) u_1.2.1 rc (rfs rc u_1.2.2)], [xRf (t 3) u_2.1 tc (rfs tc u_2.2)], xGr (t 0) u_1.2.2 rc 4 (row4 F T L (updB Z r false)), xGr (t 0) u_2.2 tc tc Wy]) hP)
  have hD : va_D _ ([xSim g tc q, xRf (t 3) q rc (rfs rc pp), xSim u_1.1 tc u_1.2.1, xRf (t 3) u_1.2.1 rc (rfs rc u_1.2.2), xRf (t 3) u_2.1 tc (rfs tc u_2.2)] ++ (xGr (t 0) pp rc 4 (row4 F T L Z) ++ (xGr (t 0) u_1.2.2 rc 4 (row4 F T L (updB Z r false)) ++ xGr (t 0) u_2.2 tc tc Wy))) := xw_D (segs := [[xSim g tc q], [xRf (t 3) q rc (rfs rc pp)], xGr (t 0) pp rc 4 (row4 F T L Z), [xSim u_1.1 tc u_1.2.1], [xRf (t 3) u_1.2.1 rc (rfs rc u_1.2.2)], [xRf (t 3) u_2.1 tc (rfs tc u_2.2)], xGr (t 0) u_1.2.2 rc 4 (row4 F T L (updB Z r false)), xGr (t 0) u_2.2 tc tc Wy]) (segs' := [[xSim g tc q], [xRf (t 3) q rc (rfs rc pp)], [xSim u_1.1 tc u_1.2.1], [xRf (t 3) u_1.2.1 rc (rfs rc u_1.2.2)], [xRf (t 3) u_2.1 tc (rfs tc u_2.2)], xGr (t 0) pp rc 4 (row4 F T L Z), xGr (t 0) u_1.2.2 rc 4 (row4 F T L (updB Z r false)), xGr (t 0) u_2.2 tc tc Wy]) [0, 1, 3, 4, 5, 2, 6, 7] (by decide) rfl (xw_appD (a := [[xSim g tc q], [xRf (t 3) q rc (rfs rc pp)], xGr (t 0) pp rc 4 (row4 F T L Z)]) (b := [[xSim u_1.1 tc u_1.2.1], [xRf (t 3) u_1.2.1 rc (rfs rc u_1.2.2)], [xRf (t 3) u_2.1 tc (rfs tc u_2.2)], xGr (t 0) u_1.2.2 rc 4 (row4 F T L (updB Z r false)), xGr (t 0) u_2.2 tc tc Wy]) hD)
  refine lv_aload_n hx hb dX1_room_18 rfl (lv_at hl 1 rfl) ?_
  refine x1_get (v := .ref q) hx hb hts hin1 hown hK hP 0 rfl 1 (by decide) fl_11 rfl dX1_room_19 rfl ?_
  refine lv_iload_n hx hb dX1_room_22 rfl (lv_at hl 2 rfl) ?_
  refine x_aald (v := pp r) hx hb hK hP 1 2 rfl rfl (k := r) (by omega) (by omega) (rfs_at (by omega)) dX1_room_23 ?_
  refine lv_iconst (v := 1) hx hb dX1_room_24 (by decide) ?_
  refine x_gld (segs := [[xSim g tc q], [xRf (t 3) q rc (rfs rc pp)], [xSim u_1.1 tc u_1.2.1], [xRf (t 3) u_1.2.1 rc (rfs rc u_1.2.2)], [xRf (t 3) u_2.1 tc (rfs tc u_2.2)], xGr (t 0) pp rc 4 (row4 F T L Z), xGr (t 0) u_1.2.2 rc 4 (row4 F T L (updB Z r false)), xGr (t 0) u_2.2 tc tc Wy]) 5 rfl hx hb hK hP 0 rfl (i := r) (j := 1) (by omega) (by omega) (by omega) dX1_room_25 ?_
  have hf_3 := hF r (by omega)
  refine x_top (w := nI (T r)) rfl ?_
  refine x_aald (v := u_2.2 (T r)) hx hb hK hP 4 2 rfl rfl (k := T r) (by omega) (by omega) (rfs_at (by omega)) dX1_room_26 ?_
  refine lv_aload_n hx hb dX1_room_27 rfl (lv_at hl 1 rfl) ?_
  refine x1_get (v := .ref q) hx hb hts hin1 hown hK hP 0 rfl 1 (by decide) fl_11 rfl dX1_room_28 rfl ?_
  refine lv_iload_n hx hb dX1_room_31 rfl (lv_at hl 2 rfl) ?_
  refine x_aald (v := pp r) hx hb hK hP 1 2 rfl rfl (k := r) (by omega) (by omega) (rfs_at (by omega)) dX1_room_32 ?_
  refine lv_iconst (v := 0) hx hb dX1_room_33 (by decide) ?_
  refine x_gld (segs := [[xSim g tc q], [xRf (t 3) q rc (rfs rc pp)], [xSim u_1.1 tc u_1.2.1], [xRf (t 3) u_1.2.1 rc (rfs rc u_1.2.2)], [xRf (t 3) u_2.1 tc (rfs tc u_2.2)], xGr (t 0) pp rc 4 (row4 F T L Z), xGr (t 0) u_1.2.2 rc 4 (row4 F T L (updB Z r false)), xGr (t 0) u_2.2 tc tc Wy]) 5 rfl hx hb hK hP 0 rfl (i := r) (j := 0) (by omega) (by omega) (by omega) dX1_room_34 ?_
  have hf_4 := hF r (by omega)
  refine x_top (w := nI (F r)) rfl ?_
  refine x_gld (segs := [[xSim g tc q], [xRf (t 3) q rc (rfs rc pp)], [xSim u_1.1 tc u_1.2.1], [xRf (t 3) u_1.2.1 rc (rfs rc u_1.2.2)], [xRf (t 3) u_2.1 tc (rfs tc u_2.2)], xGr (t 0) pp rc 4 (row4 F T L Z), xGr (t 0) u_1.2.2 rc 4 (row4 F T L (updB Z r false)), xGr (t 0) u_2.2 tc tc Wy]) 7 rfl hx hb hK hP 0 rfl (i := T r) (j := F r) (by omega) (by omega) (by omega) dX1_room_35 ?_
  refine lv_istore_n (lv' := [(3, .int (Wy (T r) (F r))), (2, .ref u_1.1), (0, .ref g), (1, .int (nI r))]) hx hb dX1_room_36 rfl hl (by decide) rfl (fun ls hl => ?_)
  refine lv_iload_n hx hb dX1_room_37 rfl (lv_at hl 0 rfl) ?_
  refine lv_ldc (v := 99999) hx hb hown kc_27 dX1_room_38 ?_
  refine lv_icmp_eq (x := Wy (T r) (F r)) (y := 99999) (tgt := 49) hx hb dX1_room_40 (by decide) (fun c_5 => ?_) (fun c_5 => ?_)
  · refine lv_bipush (v := (-99)) hx hb dX1_room_49 (by decide) ?_
    refine lv_goto (tgt := 56) hx hb dX1_room_51 (by decide) ?_
    have hP : va_P D vwCl ([xSim g tc q, xRf (t 3) q rc (rfs rc pp)] ++ xGr (t 0) pp rc 4 (row4 F T L Z)) _ := xw_P (segs := [[xSim g tc q], [xRf (t 3) q rc (rfs rc pp)], [xSim u_1.1 tc u_1.2.1], [xRf (t 3) u_1.2.1 rc (rfs rc u_1.2.2)], [xRf (t 3) u_2.1 tc (rfs tc u_2.2)], xGr (t 0) pp rc 4 (row4 F T L Z), xGr (t 0) u_1.2.2 rc 4 (row4 F T L (updB Z r false)), xGr (t 0) u_2.2 tc tc Wy]) (segs' := [[xSim g tc q], [xRf (t 3) q rc (rfs rc pp)], xGr (t 0) pp rc 4 (row4 F T L Z)]) [0, 1, 5] rfl hP
    have hD : va_D _ ([xSim g tc q, xRf (t 3) q rc (rfs rc pp)] ++ xGr (t 0) pp rc 4 (row4 F T L Z)) := xw_D (segs := [[xSim g tc q], [xRf (t 3) q rc (rfs rc pp)], [xSim u_1.1 tc u_1.2.1], [xRf (t 3) u_1.2.1 rc (rfs rc u_1.2.2)], [xRf (t 3) u_2.1 tc (rfs tc u_2.2)], xGr (t 0) pp rc 4 (row4 F T L Z), xGr (t 0) u_1.2.2 rc 4 (row4 F T L (updB Z r false)), xGr (t 0) u_2.2 tc tc Wy]) (segs' := [[xSim g tc q], [xRf (t 3) q rc (rfs rc pp)], xGr (t 0) pp rc 4 (row4 F T L Z)]) [0, 1, 5] (by decide) rfl hD
    subst hAe
    obtain ⟨hq9, hf9⟩ := xm_end (S := Unit) (pu := (fun u : Unit => True)) (r := (fun u : Unit => some (.int (rmV Wy (F r) (T r))))) (wc := ([xSim g tc q, xRf (t 3) q rc (rfs rc pp)] ++ xGr (t 0) pp rc 4 (row4 F T L Z))) (w1 := (fun u : Unit => [xSim g tc q, xRf (t 3) q rc (rfs rc pp)] ++ xGr (t 0) pp rc 4 (row4 F T L Z))) (o := some (.int (-99))) (args := ([.ref g, .int (nI r)] : List Value).toArray) () rfl trivial (by simp [rmV, c_5]) hP hD hS
    exact W.iret hx hb hr hq9 hf9 dX1_room_56 hlocks
  · refine lv_iload_n hx hb dX1_room_43 rfl (lv_at hl 0 rfl) ?_
    refine lv_bipush (v := 99) hx hb dX1_room_44 (by decide) ?_
    refine lv_icmp_le (x := Wy (T r) (F r)) (y := 99) (tgt := 54) hx hb dX1_room_46 (by decide) (fun c_6 => ?_) (fun c_6 => ?_)
    · have c_6 := Int32.not_lt.mpr c_6
      refine lv_iload_n hx hb dX1_room_54 rfl (lv_at hl 0 rfl) ?_
      refine lv_ineg hx hb dX1_room_55 ?_
      have hP : va_P D vwCl ([xSim g tc q, xRf (t 3) q rc (rfs rc pp)] ++ xGr (t 0) pp rc 4 (row4 F T L Z)) _ := xw_P (segs := [[xSim g tc q], [xRf (t 3) q rc (rfs rc pp)], [xSim u_1.1 tc u_1.2.1], [xRf (t 3) u_1.2.1 rc (rfs rc u_1.2.2)], [xRf (t 3) u_2.1 tc (rfs tc u_2.2)], xGr (t 0) pp rc 4 (row4 F T L Z), xGr (t 0) u_1.2.2 rc 4 (row4 F T L (updB Z r false)), xGr (t 0) u_2.2 tc tc Wy]) (segs' := [[xSim g tc q], [xRf (t 3) q rc (rfs rc pp)], xGr (t 0) pp rc 4 (row4 F T L Z)]) [0, 1, 5] rfl hP
      have hD : va_D _ ([xSim g tc q, xRf (t 3) q rc (rfs rc pp)] ++ xGr (t 0) pp rc 4 (row4 F T L Z)) := xw_D (segs := [[xSim g tc q], [xRf (t 3) q rc (rfs rc pp)], [xSim u_1.1 tc u_1.2.1], [xRf (t 3) u_1.2.1 rc (rfs rc u_1.2.2)], [xRf (t 3) u_2.1 tc (rfs tc u_2.2)], xGr (t 0) pp rc 4 (row4 F T L Z), xGr (t 0) u_1.2.2 rc 4 (row4 F T L (updB Z r false)), xGr (t 0) u_2.2 tc tc Wy]) (segs' := [[xSim g tc q], [xRf (t 3) q rc (rfs rc pp)], xGr (t 0) pp rc 4 (row4 F T L Z)]) [0, 1, 5] (by decide) rfl hD
      subst hAe
      obtain ⟨hq9, hf9⟩ := xm_end (S := Unit) (pu := (fun u : Unit => True)) (r := (fun u : Unit => some (.int (rmV Wy (F r) (T r))))) (wc := ([xSim g tc q, xRf (t 3) q rc (rfs rc pp)] ++ xGr (t 0) pp rc 4 (row4 F T L Z))) (w1 := (fun u : Unit => [xSim g tc q, xRf (t 3) q rc (rfs rc pp)] ++ xGr (t 0) pp rc 4 (row4 F T L Z))) (o := some (.int (-(Wy (T r) (F r))))) (args := ([.ref g, .int (nI r)] : List Value).toArray) () rfl trivial (by simp [rmV, c_5, c_6]) hP hD hS
      exact W.iret hx hb hr hq9 hf9 dX1_room_56 hlocks
    · have c_6 := Int32.not_le.mp c_6
      refine lv_bipush (v := (-99)) hx hb dX1_room_49 (by decide) ?_
      refine lv_goto (tgt := 56) hx hb dX1_room_51 (by decide) ?_
      have hP : va_P D vwCl ([xSim g tc q, xRf (t 3) q rc (rfs rc pp)] ++ xGr (t 0) pp rc 4 (row4 F T L Z)) _ := xw_P (segs := [[xSim g tc q], [xRf (t 3) q rc (rfs rc pp)], [xSim u_1.1 tc u_1.2.1], [xRf (t 3) u_1.2.1 rc (rfs rc u_1.2.2)], [xRf (t 3) u_2.1 tc (rfs tc u_2.2)], xGr (t 0) pp rc 4 (row4 F T L Z), xGr (t 0) u_1.2.2 rc 4 (row4 F T L (updB Z r false)), xGr (t 0) u_2.2 tc tc Wy]) (segs' := [[xSim g tc q], [xRf (t 3) q rc (rfs rc pp)], xGr (t 0) pp rc 4 (row4 F T L Z)]) [0, 1, 5] rfl hP
      have hD : va_D _ ([xSim g tc q, xRf (t 3) q rc (rfs rc pp)] ++ xGr (t 0) pp rc 4 (row4 F T L Z)) := xw_D (segs := [[xSim g tc q], [xRf (t 3) q rc (rfs rc pp)], [xSim u_1.1 tc u_1.2.1], [xRf (t 3) u_1.2.1 rc (rfs rc u_1.2.2)], [xRf (t 3) u_2.1 tc (rfs tc u_2.2)], xGr (t 0) pp rc 4 (row4 F T L Z), xGr (t 0) u_1.2.2 rc 4 (row4 F T L (updB Z r false)), xGr (t 0) u_2.2 tc tc Wy]) (segs' := [[xSim g tc q], [xRf (t 3) q rc (rfs rc pp)], xGr (t 0) pp rc 4 (row4 F T L Z)]) [0, 1, 5] (by decide) rfl hD
      subst hAe
      obtain ⟨hq9, hf9⟩ := xm_end (S := Unit) (pu := (fun u : Unit => True)) (r := (fun u : Unit => some (.int (rmV Wy (F r) (T r))))) (wc := ([xSim g tc q, xRf (t 3) q rc (rfs rc pp)] ++ xGr (t 0) pp rc 4 (row4 F T L Z))) (w1 := (fun u : Unit => [xSim g tc q, xRf (t 3) q rc (rfs rc pp)] ++ xGr (t 0) pp rc 4 (row4 F T L Z))) (o := some (.int (-99))) (args := ([.ref g, .int (nI r)] : List Value).toArray) () rfl trivial (by simp [rmV, c_5, c_6]) hP hD hS
      exact W.iret hx hb hr hq9 hf9 dX1_room_56 hlocks
