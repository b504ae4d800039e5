theorem hd_X0_checkTurn : yX0_checkTurn.cls = RX0 ∧ yX0_checkTurn.cls ≠ "java/lang/invoke/MethodHandle" ∧ yX0_checkTurn.cls ≠ "java/lang/invoke/VarHandle" ∧ (parseMethodDescriptor yX0_checkTurn.desc).map (fun d => d.parameters.length) = some 1 := by decide +kernel
theorem hd_X0_checkRope : yX0_checkRope.cls = RX0 ∧ yX0_checkRope.cls ≠ "java/lang/invoke/MethodHandle" ∧ yX0_checkRope.cls ≠ "java/lang/invoke/VarHandle" ∧ (parseMethodDescriptor yX0_checkRope.desc).map (fun d => d.parameters.length) = some 1 := by decide +kernel
theorem hd_X0_checkKind : yX0_checkKind.cls ≠ "java/lang/invoke/MethodHandle" ∧ yX0_checkKind.cls ≠ "java/lang/invoke/VarHandle" ∧ (parseMethodDescriptor yX0_checkKind.desc).map (fun d => d.parameters.length) = some 2 := by decide +kernel
theorem hd_X0_checkTwoTurns : yX0_checkTwoTurns.cls ≠ "java/lang/invoke/MethodHandle" ∧ yX0_checkTwoTurns.cls ≠ "java/lang/invoke/VarHandle" ∧ (parseMethodDescriptor yX0_checkTwoTurns.desc).map (fun d => d.parameters.length) = some 2 := by decide +kernel
theorem hd_X0_checkLength : yX0_checkLength.cls ≠ "java/lang/invoke/MethodHandle" ∧ yX0_checkLength.cls ≠ "java/lang/invoke/VarHandle" ∧ (parseMethodDescriptor yX0_checkLength.desc).map (fun d => d.parameters.length) = some 1 := by decide +kernel
theorem hd_X0_checkPossible : yX0_checkPossible.cls = RX0 ∧ yX0_checkPossible.cls ≠ "java/lang/invoke/MethodHandle" ∧ yX0_checkPossible.cls ≠ "java/lang/invoke/VarHandle" ∧ (parseMethodDescriptor yX0_checkPossible.desc).map (fun d => d.parameters.length) = some 0 := by decide +kernel
theorem hd_X0_holds : yX0_holds.cls = RX0 ∧ yX0_holds.cls ≠ "java/lang/invoke/MethodHandle" ∧ yX0_holds.cls ≠ "java/lang/invoke/VarHandle" ∧ (parseMethodDescriptor yX0_holds.desc).map (fun d => d.parameters.length) = some 0 := by decide +kernel
theorem hd_X0_most : yX0_most.cls = RX0 ∧ yX0_most.cls ≠ "java/lang/invoke/MethodHandle" ∧ yX0_most.cls ≠ "java/lang/invoke/VarHandle" ∧ (parseMethodDescriptor yX0_most.desc).map (fun d => d.parameters.length) = some 2 := by decide +kernel
theorem hd_X0_room : yX0_room.cls = RX0 ∧ yX0_room.cls ≠ "java/lang/invoke/MethodHandle" ∧ yX0_room.cls ≠ "java/lang/invoke/VarHandle" ∧ (parseMethodDescriptor yX0_room.desc).map (fun d => d.parameters.length) = some 1 := by decide +kernel
theorem hd_X0_late : yX0_late.cls = RX0 ∧ yX0_late.cls ≠ "java/lang/invoke/MethodHandle" ∧ yX0_late.cls ≠ "java/lang/invoke/VarHandle" ∧ (parseMethodDescriptor yX0_late.desc).map (fun d => d.parameters.length) = some 2 := by decide +kernel
theorem hd_X0_told : yX0_told.cls = RX0 ∧ yX0_told.cls ≠ "java/lang/invoke/MethodHandle" ∧ yX0_told.cls ≠ "java/lang/invoke/VarHandle" ∧ (parseMethodDescriptor yX0_told.desc).map (fun d => d.parameters.length) = some 2 := by decide +kernel
theorem hd_X0_about : yX0_about.cls = RX0 ∧ yX0_about.cls ≠ "java/lang/invoke/MethodHandle" ∧ yX0_about.cls ≠ "java/lang/invoke/VarHandle" ∧ (parseMethodDescriptor yX0_about.desc).map (fun d => d.parameters.length) = some 2 := by decide +kernel
set_option maxHeartbeats 4000000 in
set_option maxRecDepth 100000 in
theorem c_X0_checkTurn (l : Launch) (hfl : l.stackTraces = false) (D : va_G) (t : Nat → ClassId) (a : Nat → Nat) (tc rc : Nat) (ro : Int32) (x : Int32) (N0 : Nat) (sa : Nat → Nat) (htc : tc ≤ 12) : vx_Met l yX0_checkTurn wsX0_checkTurn ({ frames := 6, cells := 1, slots := 6, locals := 92 }) (xRt D (xTy t) N0 sa [.ref (a 0), .int x] [xObj a tc rc ro]) (xQt none (inB x tc = true)) (xXt (fun E7 => E7 = eIO ∧ inB x tc = false)) 1 6 (fun _ => False) := by
  refine vx_ofW (cc := cX0_checkTurn) (maxL := 2) (ret := none) (by decide) rfl ?_
  intro p e s m args below meth c s₁ hB9 hml hte hv
  obtain ⟨rfl, hP, hK, hXX⟩ := hv
  have hx := hB9.exec
  have hb := hB9.bytes
  have hr := hB9.returns
  have hts := atoms_spec (ws := wsX0_checkTurn) hB9.pre
  have hown : s.vm.findClass RX0 = some m.cls := findClass_of_methodNamed hB9.named
  have hlocks := hB9.notSynchronized
  have hin : ∀ w ∈ wsX00, w ∈ wsX0_checkTurn := fun _ h => List.mem_cons_of_mem _ (List.mem_append_left _ (List.mem_append_right _ h))
  have fl_41 := hts (.fieldLink RX0 41 "RopeTimes" "turnCount" "I") (by decide +kernel)
  have hl := lv_entry ([.ref (a 0), .int x]) (n := 2) (Nat.le_of_ble_eq_true rfl)
  rw [lg_entry_eq]
  generalize (lg_sl ([.ref (a 0), .int x]) ++ List.replicate (2 - (lg_sl ([.ref (a 0), .int x])).length) Slot.unset).toArray = ls at hl ⊢
  have hl : lv_has ls 2 [(0, .ref (a 0)), (1, .int x)] := hl
  refine lv_iload_n hx hb dX0_checkTurn_0 rfl (lv_at hl 1 rfl) ?_
  refine lv_if_lt (x := x) (tgt := 12) hx hb dX0_checkTurn_1 (by decide) (fun c_1 => ?_) (fun c_1 => ?_)
  · exact xt_throw (E := eIO) (text := (xSi 6).2) hx hb hfl hown (by decide +kernel) (hts (.classLink RX0 132 eIO) (by decide +kernel)) (hts (.initialized eIO) (by decide +kernel)) hXX (hXX.2.2.2 6) (xat_136 (fun w hw => hts w (List.mem_cons_of_mem _ (List.mem_append_right _ hw))) hXX) xgd_136 (hl.1.trans hml.symm) dX0_checkTurn_12 dX0_checkTurn_15 dX0_checkTurn_16 dX0_checkTurn_18 dX0_checkTurn_21 hte (Nat.le_of_ble_eq_true rfl) (Nat.le_of_ble_eq_true rfl) (Nat.le_of_ble_eq_true rfl) (Nat.le_of_ble_eq_true rfl) hlocks ⟨rfl, by simp [inB, c_1]⟩ (fun _ h => nomatch h) (Nat.le_of_ble_eq_true rfl) (Nat.le_of_ble_eq_true rfl) rfl
  · refine lv_iload_n hx hb dX0_checkTurn_4 rfl (lv_at hl 1 rfl) ?_
    refine lv_aload_n hx hb dX0_checkTurn_5 rfl (lv_at hl 0 rfl) ?_
    refine x0_get (v := .int (nI tc)) hx hb hts hin hown hK hP 0 rfl 0 (by decide) fl_41 rfl dX0_checkTurn_6 rfl ?_
    refine lv_icmp_lt (x := x) (y := nI tc) (tgt := 22) hx hb dX0_checkTurn_9 (by decide) (fun c_2 => ?_) (fun c_2 => ?_)
    · refine W.widen (k := 1) (n := 6) (Nat.le_of_ble_eq_true rfl) (Nat.le_of_ble_eq_true rfl) ?_
      exact xt_vret hx hb hr hlocks (by simp [inB, c_1, c_2]) dX0_checkTurn_22
    · exact xt_throw (E := eIO) (text := (xSi 6).2) hx hb hfl hown (by decide +kernel) (hts (.classLink RX0 132 eIO) (by decide +kernel)) (hts (.initialized eIO) (by decide +kernel)) hXX (hXX.2.2.2 6) (xat_136 (fun w hw => hts w (List.mem_cons_of_mem _ (List.mem_append_right _ hw))) hXX) xgd_136 (hl.1.trans hml.symm) dX0_checkTurn_12 dX0_checkTurn_15 dX0_checkTurn_16 dX0_checkTurn_18 dX0_checkTurn_21 hte (Nat.le_of_ble_eq_true rfl) (Nat.le_of_ble_eq_true rfl) (Nat.le_of_ble_eq_true rfl) (Nat.le_of_ble_eq_true rfl) hlocks ⟨rfl, by simp [inB, c_1, c_2]⟩ (fun _ h => nomatch h) (Nat.le_of_ble_eq_true rfl) (Nat.le_of_ble_eq_true rfl) rfl
set_option maxHeartbeats 4000000 in
set_option maxRecDepth 100000 in
theorem c_X0_checkRope (l : Launch) (hfl : l.stackTraces = false) (D : va_G) (t : Nat → ClassId) (a : Nat → Nat) (tc rc : Nat) (ro : Int32) (x : Int32) (N0 : Nat) (sa : Nat → Nat) (hrc : rc ≤ 30) : vx_Met l yX0_checkRope wsX0_checkRope ({ frames := 6, cells := 1, slots := 6, locals := 92 }) (xRt D (xTy t) N0 sa [.ref (a 0), .int x] [xObj a tc rc ro]) (xQt none (inB x rc = true)) (xXt (fun E7 => E7 = eIO ∧ inB x rc = false)) 1 6 (fun _ => False) := by
  refine vx_ofW (cc := cX0_checkRope) (maxL := 2) (ret := none) (by decide) rfl ?_
  intro p e s m args below meth c s₁ hB9 hml hte hv
  obtain ⟨rfl, hP, hK, hXX⟩ := hv
  have hx := hB9.exec
  have hb := hB9.bytes
  have hr := hB9.returns
  have hts := atoms_spec (ws := wsX0_checkRope) hB9.pre
  have hown : s.vm.findClass RX0 = some m.cls := findClass_of_methodNamed hB9.named
  have hlocks := hB9.notSynchronized
  have hin : ∀ w ∈ wsX00, w ∈ wsX0_checkRope := fun _ h => List.mem_cons_of_mem _ (List.mem_append_left _ (List.mem_append_right _ h))
  have fl_63 := hts (.fieldLink RX0 63 "RopeTimes" "ropeCount" "I") (by decide +kernel)
  have hl := lv_entry ([.ref (a 0), .int x]) (n := 2) (Nat.le_of_ble_eq_true rfl)
  rw [lg_entry_eq]
  generalize (lg_sl ([.ref (a 0), .int x]) ++ List.replicate (2 - (lg_sl ([.ref (a 0), .int x])).length) Slot.unset).toArray = ls at hl ⊢
  have hl : lv_has ls 2 [(0, .ref (a 0)), (1, .int x)] := hl
  refine lv_iload_n hx hb dX0_checkRope_0 rfl (lv_at hl 1 rfl) ?_
  refine lv_if_lt (x := x) (tgt := 12) hx hb dX0_checkRope_1 (by decide) (fun c_1 => ?_) (fun c_1 => ?_)
  · exact xt_throw (E := eIO) (text := (xSi 7).2) hx hb hfl hown (by decide +kernel) (hts (.classLink RX0 132 eIO) (by decide +kernel)) (hts (.initialized eIO) (by decide +kernel)) hXX (hXX.2.2.2 7) (xat_136 (fun w hw => hts w (List.mem_cons_of_mem _ (List.mem_append_right _ hw))) hXX) xgd_136 (hl.1.trans hml.symm) dX0_checkRope_12 dX0_checkRope_15 dX0_checkRope_16 dX0_checkRope_18 dX0_checkRope_21 hte (Nat.le_of_ble_eq_true rfl) (Nat.le_of_ble_eq_true rfl) (Nat.le_of_ble_eq_true rfl) (Nat.le_of_ble_eq_true rfl) hlocks ⟨rfl, by simp [inB, c_1]⟩ (fun _ h => nomatch h) (Nat.le_of_ble_eq_true rfl) (Nat.le_of_ble_eq_true rfl) rfl
  · refine lv_iload_n hx hb dX0_checkRope_4 rfl (lv_at hl 1 rfl) ?_
    refine lv_aload_n hx hb dX0_checkRope_5 rfl (lv_at hl 0 rfl) ?_
    refine x0_get (v := .int (nI rc)) hx hb hts hin hown hK hP 0 rfl 1 (by decide) fl_63 rfl dX0_checkRope_6 rfl ?_
    refine lv_icmp_lt (x := x) (y := nI rc) (tgt := 22) hx hb dX0_checkRope_9 (by decide) (fun c_2 => ?_) (fun c_2 => ?_)
    · refine W.widen (k := 1) (n := 6) (Nat.le_of_ble_eq_true rfl) (Nat.le_of_ble_eq_true rfl) ?_
      exact xt_vret hx hb hr hlocks (by simp [inB, c_1, c_2]) dX0_checkRope_22
    · exact xt_throw (E := eIO) (text := (xSi 7).2) hx hb hfl hown (by decide +kernel) (hts (.classLink RX0 132 eIO) (by decide +kernel)) (hts (.initialized eIO) (by decide +kernel)) hXX (hXX.2.2.2 7) (xat_136 (fun w hw => hts w (List.mem_cons_of_mem _ (List.mem_append_right _ hw))) hXX) xgd_136 (hl.1.trans hml.symm) dX0_checkRope_12 dX0_checkRope_15 dX0_checkRope_16 dX0_checkRope_18 dX0_checkRope_21 hte (Nat.le_of_ble_eq_true rfl) (Nat.le_of_ble_eq_true rfl) (Nat.le_of_ble_eq_true rfl) (Nat.le_of_ble_eq_true rfl) hlocks ⟨rfl, by simp [inB, c_1, c_2]⟩ (fun _ h => nomatch h) (Nat.le_of_ble_eq_true rfl) (Nat.le_of_ble_eq_true rfl) rfl
set_option maxHeartbeats 4000000 in
set_option maxRecDepth 100000 in
theorem c_X0_checkKind (l : Launch) (hfl : l.stackTraces = false) (D : va_G) (t : Nat → ClassId) (x : Int32) (n : Nat) (N0 : Nat) (sa : Nat → Nat) : vx_Met l yX0_checkKind wsX0_checkKind ({ frames := 6, cells := 1, slots := 6, locals := 92 }) (xRt D (xTy t) N0 sa [.int x, .int (nI n)] []) (xQt none (inB x n = true)) (xXt (fun E7 => E7 = eIO ∧ inB x n = false)) 1 6 (fun _ => False) := by
  refine vx_ofW (cc := cX0_checkKind) (maxL := 2) (ret := none) (by decide) rfl ?_
  intro p e s m args below meth c s₁ hB9 hml hte hv
  obtain ⟨rfl, hP, hK, hXX⟩ := hv
  have hx := hB9.exec
  have hb := hB9.bytes
  have hr := hB9.returns
  have hts := atoms_spec (ws := wsX0_checkKind) hB9.pre
  have hown : s.vm.findClass RX0 = some m.cls := findClass_of_methodNamed hB9.named
  have hlocks := hB9.notSynchronized
  have hl := lv_entry ([.int x, .int (nI n)]) (n := 2) (Nat.le_of_ble_eq_true rfl)
  rw [lg_entry_eq]
  generalize (lg_sl ([.int x, .int (nI n)]) ++ List.replicate (2 - (lg_sl ([.int x, .int (nI n)])).length) Slot.unset).toArray = ls at hl ⊢
  have hl : lv_has ls 2 [(0, .int x), (1, .int (nI n))] := hl
  refine lv_iload_n hx hb dX0_checkKind_0 rfl (lv_at hl 0 rfl) ?_
  refine lv_if_lt (x := x) (tgt := 9) hx hb dX0_checkKind_1 (by decide) (fun c_1 => ?_) (fun c_1 => ?_)
  · exact xt_throw (E := eIO) (text := (xSi 8).2) hx hb hfl hown (by decide +kernel) (hts (.classLink RX0 132 eIO) (by decide +kernel)) (hts (.initialized eIO) (by decide +kernel)) hXX (hXX.2.2.2 8) (xat_136 (fun w hw => hts w (List.mem_cons_of_mem _ (List.mem_append_right _ hw))) hXX) xgd_136 (hl.1.trans hml.symm) dX0_checkKind_9 dX0_checkKind_12 dX0_checkKind_13 dX0_checkKind_15 dX0_checkKind_18 hte (Nat.le_of_ble_eq_true rfl) (Nat.le_of_ble_eq_true rfl) (Nat.le_of_ble_eq_true rfl) (Nat.le_of_ble_eq_true rfl) hlocks ⟨rfl, by simp [inB, c_1]⟩ (fun _ h => nomatch h) (Nat.le_of_ble_eq_true rfl) (Nat.le_of_ble_eq_true rfl) rfl
  · refine lv_iload_n hx hb dX0_checkKind_4 rfl (lv_at hl 0 rfl) ?_
    refine lv_iload_n hx hb dX0_checkKind_5 rfl (lv_at hl 1 rfl) ?_
    refine lv_icmp_lt (x := x) (y := nI n) (tgt := 19) hx hb dX0_checkKind_6 (by decide) (fun c_2 => ?_) (fun c_2 => ?_)
    · refine W.widen (k := 1) (n := 6) (Nat.le_of_ble_eq_true rfl) (Nat.le_of_ble_eq_true rfl) ?_
      exact xt_vret hx hb hr hlocks (by simp [inB, c_1, c_2]) dX0_checkKind_19
    · exact xt_throw (E := eIO) (text := (xSi 8).2) hx hb hfl hown (by decide +kernel) (hts (.classLink RX0 132 eIO) (by decide +kernel)) (hts (.initialized eIO) (by decide +kernel)) hXX (hXX.2.2.2 8) (xat_136 (fun w hw => hts w (List.mem_cons_of_mem _ (List.mem_append_right _ hw))) hXX) xgd_136 (hl.1.trans hml.symm) dX0_checkKind_9 dX0_checkKind_12 dX0_checkKind_13 dX0_checkKind_15 dX0_checkKind_18 hte (Nat.le_of_ble_eq_true rfl) (Nat.le_of_ble_eq_true rfl) (Nat.le_of_ble_eq_true rfl) (Nat.le_of_ble_eq_true rfl) hlocks ⟨rfl, by simp [inB, c_1, c_2]⟩ (fun _ h => nomatch h) (Nat.le_of_ble_eq_true rfl) (Nat.le_of_ble_eq_true rfl) rfl
set_option maxHeartbeats 4000000 in
set_option maxRecDepth 100000 in
theorem c_X0_checkTwoTurns (l : Launch) (hfl : l.stackTraces = false) (D : va_G) (t : Nat → ClassId) (x y : Int32) (N0 : Nat) (sa : Nat → Nat) : vx_Met l yX0_checkTwoTurns wsX0_checkTwoTurns ({ frames := 6, cells := 1, slots := 6, locals := 92 }) (xRt D (xTy t) N0 sa [.int x, .int y] []) (xQt none (¬ x = y)) (xXt (fun E7 => E7 = eIA ∧ x = y)) 1 6 (fun _ => False) := by
  refine vx_ofW (cc := cX0_checkTwoTurns) (maxL := 2) (ret := none) (by decide) rfl ?_
  intro p e s m args below meth c s₁ hB9 hml hte hv
  obtain ⟨rfl, hP, hK, hXX⟩ := hv
  have hx := hB9.exec
  have hb := hB9.bytes
  have hr := hB9.returns
  have hts := atoms_spec (ws := wsX0_checkTwoTurns) hB9.pre
  have hown : s.vm.findClass RX0 = some m.cls := findClass_of_methodNamed hB9.named
  have hlocks := hB9.notSynchronized
  have hl := lv_entry ([.int x, .int y]) (n := 2) (Nat.le_of_ble_eq_true rfl)
  rw [lg_entry_eq]
  generalize (lg_sl ([.int x, .int y]) ++ List.replicate (2 - (lg_sl ([.int x, .int y])).length) Slot.unset).toArray = ls at hl ⊢
  have hl : lv_has ls 2 [(0, .int x), (1, .int y)] := hl
  refine lv_iload_n hx hb dX0_checkTwoTurns_0 rfl (lv_at hl 0 rfl) ?_
  refine lv_iload_n hx hb dX0_checkTwoTurns_1 rfl (lv_at hl 1 rfl) ?_
  refine lv_icmp_ne (x := x) (y := y) (tgt := 15) hx hb dX0_checkTwoTurns_2 (by decide) (fun c_1 => ?_) (fun c_1 => ?_)
  · refine W.widen (k := 1) (n := 6) (Nat.le_of_ble_eq_true rfl) (Nat.le_of_ble_eq_true rfl) ?_
    exact xt_vret hx hb hr hlocks (by simp [c_1]) dX0_checkTwoTurns_15
  · exact xt_throw (E := eIA) (text := (xSi 9).2) hx hb hfl hown (by decide +kernel) (hts (.classLink RX0 107 eIA) (by decide +kernel)) (hts (.initialized eIA) (by decide +kernel)) hXX (hXX.2.2.2 9) (xat_111 (fun w hw => hts w (List.mem_cons_of_mem _ (List.mem_append_right _ hw))) hXX) xgd_111 (hl.1.trans hml.symm) dX0_checkTwoTurns_5 dX0_checkTwoTurns_8 dX0_checkTwoTurns_9 dX0_checkTwoTurns_11 dX0_checkTwoTurns_14 hte (Nat.le_of_ble_eq_true rfl) (Nat.le_of_ble_eq_true rfl) (Nat.le_of_ble_eq_true rfl) (Nat.le_of_ble_eq_true rfl) hlocks ⟨rfl, by simp [c_1]⟩ (fun _ h => nomatch h) (Nat.le_of_ble_eq_true rfl) (Nat.le_of_ble_eq_true rfl) rfl
set_option maxHeartbeats 4000000 in
set_option maxRecDepth 100000 in
theorem c_X0_checkLength (l : Launch) (hfl : l.stackTraces = false) (D : va_G) (t : Nat → ClassId) (x : Int32) (N0 : Nat) (sa : Nat → Nat) : vx_Met l yX0_checkLength wsX0_checkLength ({ frames := 6, cells := 1, slots := 6, locals := 92 }) (xRt D (xTy t) N0 sa [.int x] []) (xQt none (lenB x = true)) (xXt (fun E7 => E7 = eIA ∧ lenB x = false)) 1 6 (fun _ => False) := by
  refine vx_ofW (cc := cX0_checkLength) (maxL := 1) (ret := none) (by decide) rfl ?_
  intro p e s m args below meth c s₁ hB9 hml hte hv
  obtain ⟨rfl, hP, hK, hXX⟩ := hv
  have hx := hB9.exec
  have hb := hB9.bytes
  have hr := hB9.returns
  have hts := atoms_spec (ws := wsX0_checkLength) hB9.pre
  have hown : s.vm.findClass RX0 = some m.cls := findClass_of_methodNamed hB9.named
  have hlocks := hB9.notSynchronized
  have hl := lv_entry ([.int x]) (n := 1) (Nat.le_of_ble_eq_true rfl)
  rw [lg_entry_eq]
  generalize (lg_sl ([.int x]) ++ List.replicate (1 - (lg_sl ([.int x])).length) Slot.unset).toArray = ls at hl ⊢
  have hl : lv_has ls 1 [(0, .int x)] := hl
  refine lv_iload_n hx hb dX0_checkLength_0 rfl (lv_at hl 0 rfl) ?_
  refine lv_bipush (v := (-99)) hx hb dX0_checkLength_1 (by decide) ?_
  refine lv_icmp_lt (x := x) (y := (-99)) (tgt := 12) hx hb dX0_checkLength_3 (by decide) (fun c_1 => ?_) (fun c_1 => ?_)
  · exact xt_throw (E := eIA) (text := (xSi 10).2) hx hb hfl hown (by decide +kernel) (hts (.classLink RX0 107 eIA) (by decide +kernel)) (hts (.initialized eIA) (by decide +kernel)) hXX (hXX.2.2.2 10) (xat_111 (fun w hw => hts w (List.mem_cons_of_mem _ (List.mem_append_right _ hw))) hXX) xgd_111 (hl.1.trans hml.symm) dX0_checkLength_12 dX0_checkLength_15 dX0_checkLength_16 dX0_checkLength_18 dX0_checkLength_21 hte (Nat.le_of_ble_eq_true rfl) (Nat.le_of_ble_eq_true rfl) (Nat.le_of_ble_eq_true rfl) (Nat.le_of_ble_eq_true rfl) hlocks ⟨rfl, by simp [lenB, c_1]⟩ (fun _ h => nomatch h) (Nat.le_of_ble_eq_true rfl) (Nat.le_of_ble_eq_true rfl) rfl
  · refine lv_iload_n hx hb dX0_checkLength_6 rfl (lv_at hl 0 rfl) ?_
    refine lv_bipush (v := 99) hx hb dX0_checkLength_7 (by decide) ?_
    refine lv_icmp_le (x := x) (y := 99) (tgt := 22) hx hb dX0_checkLength_9 (by decide) (fun c_2 => ?_) (fun c_2 => ?_)
    · have c_2 := Int32.not_lt.mpr c_2
      refine W.widen (k := 1) (n := 6) (Nat.le_of_ble_eq_true rfl) (Nat.le_of_ble_eq_true rfl) ?_
      exact xt_vret hx hb hr hlocks (by simp [lenB, c_1, c_2]) dX0_checkLength_22
    · have c_2 := Int32.not_le.mp c_2
      exact xt_throw (E := eIA) (text := (xSi 10).2) hx hb hfl hown (by decide +kernel) (hts (.classLink RX0 107 eIA) (by decide +kernel)) (hts (.initialized eIA) (by decide +kernel)) hXX (hXX.2.2.2 10) (xat_111 (fun w hw => hts w (List.mem_cons_of_mem _ (List.mem_append_right _ hw))) hXX) xgd_111 (hl.1.trans hml.symm) dX0_checkLength_12 dX0_checkLength_15 dX0_checkLength_16 dX0_checkLength_18 dX0_checkLength_21 hte (Nat.le_of_ble_eq_true rfl) (Nat.le_of_ble_eq_true rfl) (Nat.le_of_ble_eq_true rfl) (Nat.le_of_ble_eq_true rfl) hlocks ⟨rfl, by simp [lenB, c_1, c_2]⟩ (fun _ h => nomatch h) (Nat.le_of_ble_eq_true rfl) (Nat.le_of_ble_eq_true rfl) rfl
set_option maxHeartbeats 4000000 in
set_option maxRecDepth 100000 in
theorem c_X0_checkPossible (l : Launch) (hfl : l.stackTraces = false) (D : va_G) (t : Nat → ClassId) (a : Nat → Nat) (tc rc : Nat) (ro : Int32) (N0 : Nat) (sa : Nat → Nat) : vx_Met l yX0_checkPossible wsX0_checkPossible ({ frames := 6, cells := 1, slots := 6, locals := 92 }) (xRt D (xTy t) N0 sa [.ref (a 0)] [xObj a tc rc ro]) (xQt none (¬ ro = -1)) (xXt (fun E7 => E7 = eIS ∧ ro = -1)) 1 6 (fun _ => False) := by
  refine vx_ofW (cc := cX0_checkPossible) (maxL := 1) (ret := none) (by decide) rfl ?_
  intro p e s m args below meth c s₁ hB9 hml hte hv
  obtain ⟨rfl, hP, hK, hXX⟩ := hv
  have hx := hB9.exec
  have hb := hB9.bytes
  have hr := hB9.returns
  have hts := atoms_spec (ws := wsX0_checkPossible) hB9.pre
  have hown : s.vm.findClass RX0 = some m.cls := findClass_of_methodNamed hB9.named
  have hlocks := hB9.notSynchronized
  have hin : ∀ w ∈ wsX00, w ∈ wsX0_checkPossible := fun _ h => List.mem_cons_of_mem _ (List.mem_append_left _ (List.mem_append_right _ h))
  have hl := lv_entry ([.ref (a 0)]) (n := 1) (Nat.le_of_ble_eq_true rfl)
  rw [lg_entry_eq]
  generalize (lg_sl ([.ref (a 0)]) ++ List.replicate (1 - (lg_sl ([.ref (a 0)])).length) Slot.unset).toArray = ls at hl ⊢
  have hl : lv_has ls 1 [(0, .ref (a 0))] := hl
  refine lv_aload_n hx hb dX0_checkPossible_0 rfl (lv_at hl 0 rfl) ?_
  refine xr_V (b := a 0) (As := []) (rest := []) ⟨hx, hb, hml, hown, hts⟩ (c_X0_isPossible l D t a tc rc ro) (cwV 0 hts gX0_checkPossible_X0_isPossible rfl rfl rfl hd_X0_isPossible ⟨Nat.le_of_ble_eq_true rfl, Nat.le_of_ble_eq_true rfl⟩) hK hP (va_recv hK hP (ci := 0) (q0 := 0) rfl rfl) [0] rfl rfl hl.1 rfl (Nat.le_of_ble_eq_true rfl) dX0_checkPossible_1 ⟨(Nat.le_of_ble_eq_true rfl), (Nat.le_of_ble_eq_true rfl)⟩ ?_
  refine lv_if_ne (x := bI (decide (¬ ro = -1))) (tgt := 17) hx hb dX0_checkPossible_4 (by decide) (fun c_1 => ?_) (fun c_1 => ?_)
  · have c_1 := of_decide_eq_true (bI_n0 c_1)
    refine W.widen (k := 1) (n := 6) (Nat.le_of_ble_eq_true rfl) (Nat.le_of_ble_eq_true rfl) ?_
    exact xt_vret hx hb hr hlocks (by simp [c_1]) dX0_checkPossible_17
  · have c_1 := Classical.not_not.mp (of_decide_eq_false (bI_0 c_1))
    exact xt_throw (E := eIS) (text := (xSi 11).2) hx hb hfl hown (by decide +kernel) (hts (.classLink RX0 45 eIS) (by decide +kernel)) (hts (.initialized eIS) (by decide +kernel)) hXX (hXX.2.2.2 11) (xat_49 (fun w hw => hts w (List.mem_cons_of_mem _ (List.mem_append_right _ hw))) hXX) xgd_49 (hl.1.trans hml.symm) dX0_checkPossible_7 dX0_checkPossible_10 dX0_checkPossible_11 dX0_checkPossible_13 dX0_checkPossible_16 hte (Nat.le_of_ble_eq_true rfl) (Nat.le_of_ble_eq_true rfl) (Nat.le_of_ble_eq_true rfl) (Nat.le_of_ble_eq_true rfl) hlocks ⟨rfl, by simp [c_1]⟩ (fun _ h => nomatch h) (Nat.le_of_ble_eq_true rfl) (Nat.le_of_ble_eq_true rfl) rfl
set_option maxHeartbeats 4000000 in
set_option maxRecDepth 100000 in
theorem c_X0_holds (l : Launch) (D : va_G) (t : Nat → ClassId) (a : Nat → Nat) (tc rc : Nat) (ro : Int32) : Met l yX0_holds wsX0_holds ({ frames := 1, cells := 0, slots := 0, locals := 20 }) (xRo D (xTy t) [.ref (a 0)] [xObj a tc rc ro]) (xQr (.int (bI (decide (¬ ro = -1))))) 0 0 (fun _ => False) := by
  refine Met.ofW (cc := cX0_holds) (maxL := 1) (ret := (some .boolean)) (by decide) rfl ?_
  intro p e s m args below meth c s₁ hB9 hml hv
  obtain ⟨rfl, hP, hK⟩ := hv
  have hx := hB9.exec
  have hb := hB9.bytes
  have hr := hB9.returns
  have hts := atoms_spec (ws := wsX0_holds) hB9.pre
  have hown : s.vm.findClass RX0 = some m.cls := findClass_of_methodNamed hB9.named
  have hlocks := hB9.notSynchronized
  have hin : ∀ w ∈ wsX00, w ∈ wsX0_holds := fun _ h => List.mem_cons_of_mem _ (List.mem_append_right _ h)
  have hl := lv_entry ([.ref (a 0)]) (n := 1) (Nat.le_of_ble_eq_true rfl)
  rw [lg_entry_eq]
  generalize (lg_sl ([.ref (a 0)]) ++ List.replicate (1 - (lg_sl ([.ref (a 0)])).length) Slot.unset).toArray = ls at hl ⊢
  have hl : lv_has ls 1 [(0, .ref (a 0))] := hl
  refine lv_aload_n hx hb dX0_holds_0 rfl (lv_at hl 0 rfl) ?_
  refine xr_V (b := a 0) (As := []) (rest := []) ⟨hx, hb, hml, hown, hts⟩ (c_X0_isPossible l D t a tc rc ro) (cwV 0 hts gX0_holds_X0_isPossible rfl rfl rfl hd_X0_isPossible ⟨Nat.le_of_ble_eq_true rfl, Nat.le_of_ble_eq_true rfl⟩) hK hP (va_recv hK hP (ci := 0) (q0 := 0) rfl rfl) [0] rfl rfl hl.1 rfl (Nat.le_of_ble_eq_true rfl) dX0_holds_1 ⟨(Nat.le_of_ble_eq_true rfl), (Nat.le_of_ble_eq_true rfl)⟩ ?_
  exact x_zret (v := bI (decide (¬ ro = -1))) hx hb hr hlocks rfl dX0_holds_4
set_option maxHeartbeats 4000000 in
set_option maxRecDepth 100000 in
theorem c_X0_most (l : Launch) (hfl : l.stackTraces = false) (D : va_G) (t : Nat → ClassId) (a : Nat → Nat) (tc rc : Nat) (ro : Int32) (B : Nat → Int32) (p0 p1 : Int32) (N0 : Nat) (sa : Nat → Nat) (htc : tc ≤ 12) : vx_Met l yX0_most wsX0_most ({ frames := 7, cells := 3, slots := 18, locals := 113 }) (xRt D (xTy t) N0 sa [.ref (a 0), .int p0, .int p1] [xObj a tc rc ro, xArr (t 0) (a 6) 144 B]) (xQt (some (.int (B (ix p0 * 12 + ix p1)))) (kMost tc ro p0 p1 = 0)) (xXt (fun E7 => E7 = xE (kMost tc ro p0 p1) ∧ ¬ kMost tc ro p0 p1 = 0)) 3 18 (fun _ => False) := by
  refine vx_ofW (cc := cX0_most) (maxL := 3) (ret := (some .int)) (by decide) rfl ?_
  intro p e s m args below meth c s₁ hB9 hml hte hv
  obtain ⟨rfl, hP, hK, hXX⟩ := hv
  have hx := hB9.exec
  have hb := hB9.bytes
  have hr := hB9.returns
  have hts := atoms_spec (ws := wsX0_most) hB9.pre
  have hown : s.vm.findClass RX0 = some m.cls := findClass_of_methodNamed hB9.named
  have hlocks := hB9.notSynchronized
  have hin : ∀ w ∈ wsX00, w ∈ wsX0_most := fun _ h => List.mem_cons_of_mem _ (List.mem_append_left _ (List.mem_append_left _ (List.mem_append_right _ h)))
  have hl := lv_entry ([.ref (a 0), .int p0, .int p1]) (n := 3) (Nat.le_of_ble_eq_true rfl)
  rw [lg_entry_eq]
  generalize (lg_sl ([.ref (a 0), .int p0, .int p1]) ++ List.replicate (3 - (lg_sl ([.ref (a 0), .int p0, .int p1])).length) Slot.unset).toArray = ls at hl ⊢
  have hl : lv_has ls 3 [(0, .ref (a 0)), (1, .int p0), (2, .int p1)] := hl
  refine lv_aload_n hx hb dX0_most_0 rfl (lv_at hl 0 rfl) ?_
  refine lv_iload_n hx hb dX0_most_1 rfl (lv_at hl 1 rfl) ?_
  refine xt_V (b := a 0) (As := [.int p0]) (rest := []) ⟨hx, hb, hml, hown, hts⟩ (c_X0_checkTurn l hfl D t a tc rc ro p0 N0 sa (by omega)) (cwV 1 hts gX0_most_X0_checkTurn rfl rfl rfl hd_X0_checkTurn ⟨Nat.le_of_ble_eq_true rfl, Nat.le_of_ble_eq_true rfl⟩) hK hP (fun U hW hU => xTh.warm hW (fun q _ _ => by rw [hU]) hXX) (va_recv hK hP (ci := 0) (q0 := 0) rfl rfl) [0] rfl rfl hl.1 rfl (Nat.le_of_ble_eq_true rfl) dX0_most_2 ⟨(Nat.le_of_ble_eq_true rfl), (Nat.le_of_ble_eq_true rfl)⟩ (fun E9 ce9 q9 H9 hbad hz9 hk9 hce9 hv9 hcl9 => ?_) (fun ok_1 => ?_)
  · exact xt_out hte hlocks ⟨by rw [hbad.1]; simp [kMost, hbad.2, xE], by simp [kMost, hbad.2]⟩ hz9 hk9 hce9 hv9 hcl9 (fun _ h => nomatch h) (Nat.le_of_ble_eq_true rfl) (Nat.le_of_ble_eq_true rfl)
  obtain ⟨k_2, hk_2, ek_2⟩ := inB_of ok_1 (by omega)
  have eik_2 : ix p0 = k_2 := by rw [ek_2]; exact ix_nI (by omega)
  have hl : lv_has ls 3 [(0, .ref (a 0)), (1, .int (nI k_2)), (2, .int p1)] := by rw [← ek_2]; exact hl
  refine lv_aload_n hx hb dX0_most_5 rfl (lv_at hl 0 rfl) ?_
  refine lv_iload_n hx hb dX0_most_6 rfl (lv_at hl 2 rfl) ?_
  refine xt_V (b := a 0) (As := [.int p1]) (rest := []) ⟨hx, hb, hml, hown, hts⟩ (c_X0_checkTurn l hfl D t a tc rc ro p1 N0 sa (by omega)) (cwV 1 hts gX0_most_X0_checkTurn rfl rfl rfl hd_X0_checkTurn ⟨Nat.le_of_ble_eq_true rfl, Nat.le_of_ble_eq_true rfl⟩) hK hP (fun U hW hU => xTh.warm hW (fun q _ _ => by rw [hU]) hXX) (va_recv hK hP (ci := 0) (q0 := 0) rfl rfl) [0] rfl rfl hl.1 rfl (Nat.le_of_ble_eq_true rfl) dX0_most_7 ⟨(Nat.le_of_ble_eq_true rfl), (Nat.le_of_ble_eq_true rfl)⟩ (fun E9 ce9 q9 H9 hbad hz9 hk9 hce9 hv9 hcl9 => ?_) (fun ok_3 => ?_)
  · exact xt_out hte hlocks ⟨by rw [hbad.1]; simp [kMost, hbad.2, ok_1, eik_2, xE], by simp [kMost, hbad.2, ok_1, eik_2]⟩ hz9 hk9 hce9 hv9 hcl9 (fun _ h => nomatch h) (Nat.le_of_ble_eq_true rfl) (Nat.le_of_ble_eq_true rfl)
  obtain ⟨k_4, hk_4, ek_4⟩ := inB_of ok_3 (by omega)
  have eik_4 : ix p1 = k_4 := by rw [ek_4]; exact ix_nI (by omega)
  have hl : lv_has ls 3 [(0, .ref (a 0)), (1, .int (nI k_2)), (2, .int (nI k_4))] := by rw [← ek_4]; exact hl
  refine lv_aload_n hx hb dX0_most_10 rfl (lv_at hl 0 rfl) ?_
  refine xt_V (b := a 0) (As := []) (rest := []) ⟨hx, hb, hml, hown, hts⟩ (c_X0_checkPossible l hfl D t a tc rc ro N0 sa) (cwV 0 hts gX0_most_X0_checkPossible rfl rfl rfl hd_X0_checkPossible ⟨Nat.le_of_ble_eq_true rfl, Nat.le_of_ble_eq_true rfl⟩) hK hP (fun U hW hU => xTh.warm hW (fun q _ _ => by rw [hU]) hXX) (va_recv hK hP (ci := 0) (q0 := 0) rfl rfl) [0] rfl rfl hl.1 rfl (Nat.le_of_ble_eq_true rfl) dX0_most_11 ⟨(Nat.le_of_ble_eq_true rfl), (Nat.le_of_ble_eq_true rfl)⟩ (fun E9 ce9 q9 H9 hbad hz9 hk9 hce9 hv9 hcl9 => ?_) (fun ok_5 => ?_)
  · exact xt_out hte hlocks ⟨by rw [hbad.1]; simp [kMost, hbad.2, ok_1, eik_2, ok_3, eik_4, xE], by simp [kMost, hbad.2, ok_1, eik_2, ok_3, eik_4]⟩ hz9 hk9 hce9 hv9 hcl9 (fun _ h => nomatch h) (Nat.le_of_ble_eq_true rfl) (Nat.le_of_ble_eq_true rfl)
  refine lv_aload_n hx hb dX0_most_14 rfl (lv_at hl 0 rfl) ?_
  refine lv_iload_n hx hb dX0_most_15 rfl (lv_at hl 1 rfl) ?_
  refine lv_iload_n hx hb dX0_most_16 rfl (lv_at hl 2 rfl) ?_
  refine xr_V (b := a 0) (As := [.int (nI k_2), .int (nI k_4)]) (rest := []) ⟨hx, hb, hml, hown, hts⟩ (c_X0_boundFrom l D t a tc rc ro B k_2 k_4 (by omega) (by omega)) (cwV 2 hts gX0_most_X0_boundFrom rfl rfl rfl hd_X0_boundFrom ⟨Nat.le_of_ble_eq_true rfl, Nat.le_of_ble_eq_true rfl⟩) hK hP (va_recv hK hP (ci := 0) (q0 := 0) rfl rfl) [0, 1] rfl rfl hl.1 rfl (Nat.le_of_ble_eq_true rfl) dX0_most_17 ⟨(Nat.le_of_ble_eq_true rfl), (Nat.le_of_ble_eq_true rfl)⟩ ?_
  exact xt_iret (v := B (k_2 * 12 + k_4)) hx hb hr hlocks (by simp [kMost, ok_1, eik_2, ok_3, eik_4, ok_5]) (by simp [ok_1, eik_2, ok_3, eik_4, ok_5]) dX0_most_20
set_option maxHeartbeats 4000000 in
set_option maxRecDepth 100000 in
theorem c_X0_room (l : Launch) (hfl : l.stackTraces = false) (D : va_G) (t : Nat → ClassId) (a : Nat → Nat) (tc rc : Nat) (ro : Int32) (F T : Nat → Nat) (Z : Nat → Bool) (B : Nat → Int32) (p0 : Int32) (N0 : Nat) (sa : Nat → Nat) (htc : tc ≤ 12) (hrc : rc ≤ 30) (hF : ∀ r, r < rc → F r < tc ∧ T r < tc) : vx_Met l yX0_room wsX0_room ({ frames := 7, cells := 3, slots := 18, locals := 113 }) (xRt D (xTy t) N0 sa [.ref (a 0), .int p0] [xObj a tc rc ro, xArr (t 0) (a 1) 30 (xN F), xArr (t 0) (a 2) 30 (xN T), xArr (t 1) (a 4) 30 (xB Z), xArr (t 0) (a 6) 144 B]) (xQt (some (.int (leastF B (F (ix p0)) (T (ix p0))))) (kRoom rc Z ro p0 = 0)) (xXt (fun E7 => E7 = xE (kRoom rc Z ro p0) ∧ ¬ kRoom rc Z ro p0 = 0)) 3 18 (fun _ => False) := by
  refine vx_ofW (cc := cX0_room) (maxL := 2) (ret := (some .int)) (by decide) rfl ?_
  intro p e s m args below meth c s₁ hB9 hml hte hv
  obtain ⟨rfl, hP, hK, hXX⟩ := hv
  have hx := hB9.exec
  have hb := hB9.bytes
  have hr := hB9.returns
  have hts := atoms_spec (ws := wsX0_room) hB9.pre
  have hown : s.vm.findClass RX0 = some m.cls := findClass_of_methodNamed hB9.named
  have hlocks := hB9.notSynchronized
  have hin : ∀ w ∈ wsX00, w ∈ wsX0_room := fun _ h => List.mem_cons_of_mem _ (List.mem_append_left _ (List.mem_append_left _ (List.mem_append_right _ h)))
  have fl_19 := hts (.fieldLink RX0 19 "RopeTimes" "tied" "[Z") (by decide +kernel)
  have fl_9 := hts (.fieldLink RX0 9 "RopeTimes" "from" "[I") (by decide +kernel)
  have fl_13 := hts (.fieldLink RX0 13 "RopeTimes" "to" "[I") (by decide +kernel)
  have hl := lv_entry ([.ref (a 0), .int p0]) (n := 2) (Nat.le_of_ble_eq_true rfl)
  rw [lg_entry_eq]
  generalize (lg_sl ([.ref (a 0), .int p0]) ++ List.replicate (2 - (lg_sl ([.ref (a 0), .int p0])).length) Slot.unset).toArray = ls at hl ⊢
  have hl : lv_has ls 2 [(0, .ref (a 0)), (1, .int p0)] := hl
  refine lv_aload_n hx hb dX0_room_0 rfl (lv_at hl 0 rfl) ?_
  refine lv_iload_n hx hb dX0_room_1 rfl (lv_at hl 1 rfl) ?_
  refine xt_V (b := a 0) (As := [.int p0]) (rest := []) ⟨hx, hb, hml, hown, hts⟩ (c_X0_checkRope l hfl D t a tc rc ro p0 N0 sa (by omega)) (cwV 1 hts gX0_room_X0_checkRope rfl rfl rfl hd_X0_checkRope ⟨Nat.le_of_ble_eq_true rfl, Nat.le_of_ble_eq_true rfl⟩) hK hP (fun U hW hU => xTh.warm hW (fun q _ _ => by rw [hU]) hXX) (va_recv hK hP (ci := 0) (q0 := 0) rfl rfl) [0] rfl rfl hl.1 rfl (Nat.le_of_ble_eq_true rfl) dX0_room_2 ⟨(Nat.le_of_ble_eq_true rfl), (Nat.le_of_ble_eq_true rfl)⟩ (fun E9 ce9 q9 H9 hbad hz9 hk9 hce9 hv9 hcl9 => ?_) (fun ok_1 => ?_)
  · exact xt_out hte hlocks ⟨by rw [hbad.1]; simp [kRoom, hbad.2, xE], by simp [kRoom, hbad.2]⟩ hz9 hk9 hce9 hv9 hcl9 (fun _ h => nomatch h) (Nat.le_of_ble_eq_true rfl) (Nat.le_of_ble_eq_true rfl)
  obtain ⟨k_2, hk_2, ek_2⟩ := inB_of ok_1 (by omega)
  have eik_2 : ix p0 = k_2 := by rw [ek_2]; exact ix_nI (by omega)
  have hl : lv_has ls 2 [(0, .ref (a 0)), (1, .int (nI k_2))] := by rw [← ek_2]; exact hl
  refine lv_aload_n hx hb dX0_room_5 rfl (lv_at hl 0 rfl) ?_
  refine x0_get (v := .ref (a 4)) hx hb hts hin hown hK hP 0 rfl 5 (by decide) fl_19 rfl dX0_room_6 rfl ?_
  refine lv_iload_n hx hb dX0_room_9 rfl (lv_at hl 1 rfl) ?_
  refine x_zald (f := xB Z) hx hb hK hP 3 1 rfl rfl (k := k_2) (by omega) (Nat.le_of_ble_eq_true rfl) dX0_room_10 ?_
  refine x_top (w := bI (Z k_2)) rfl ?_
  refine lv_if_ne (x := bI (Z k_2)) (tgt := 24) hx hb dX0_room_11 (by decide) (fun c_3 => ?_) (fun c_3 => ?_)
  · have c_3 := bI_n0 c_3
    refine lv_aload_n hx hb dX0_room_24 rfl (lv_at hl 0 rfl) ?_
    refine xt_V (b := a 0) (As := []) (rest := []) ⟨hx, hb, hml, hown, hts⟩ (c_X0_checkPossible l hfl D t a tc rc ro N0 sa) (cwV 0 hts gX0_room_X0_checkPossible rfl rfl rfl hd_X0_checkPossible ⟨Nat.le_of_ble_eq_true rfl, Nat.le_of_ble_eq_true rfl⟩) hK hP (fun U hW hU => xTh.warm hW (fun q _ _ => by rw [hU]) hXX) (va_recv hK hP (ci := 0) (q0 := 0) rfl rfl) [0] rfl rfl hl.1 rfl (Nat.le_of_ble_eq_true rfl) dX0_room_25 ⟨(Nat.le_of_ble_eq_true rfl), (Nat.le_of_ble_eq_true rfl)⟩ (fun E9 ce9 q9 H9 hbad hz9 hk9 hce9 hv9 hcl9 => ?_) (fun ok_4 => ?_)
    · exact xt_out hte hlocks ⟨by rw [hbad.1]; simp [kRoom, hbad.2, ok_1, eik_2, c_3, xE], by simp [kRoom, hbad.2, ok_1, eik_2, c_3]⟩ hz9 hk9 hce9 hv9 hcl9 (fun _ h => nomatch h) (Nat.le_of_ble_eq_true rfl) (Nat.le_of_ble_eq_true rfl)
    refine lv_aload_n hx hb dX0_room_28 rfl (lv_at hl 0 rfl) ?_
    refine lv_aload_n hx hb dX0_room_29 rfl (lv_at hl 0 rfl) ?_
    refine x0_get (v := .ref (a 1)) hx hb hts hin hown hK hP 0 rfl 2 (by decide) fl_9 rfl dX0_room_30 rfl ?_
    refine lv_iload_n hx hb dX0_room_33 rfl (lv_at hl 1 rfl) ?_
    refine x_iald (f := xN F) hx hb hK hP 1 0 rfl rfl (k := k_2) (by omega) (Nat.le_of_ble_eq_true rfl) dX0_room_34 ?_
    refine x_top (w := nI (F k_2)) rfl ?_
    have hf_5 := hF k_2 (by omega)
    refine lv_aload_n hx hb dX0_room_35 rfl (lv_at hl 0 rfl) ?_
    refine x0_get (v := .ref (a 2)) hx hb hts hin hown hK hP 0 rfl 3 (by decide) fl_13 rfl dX0_room_36 rfl ?_
    refine lv_iload_n hx hb dX0_room_39 rfl (lv_at hl 1 rfl) ?_
    refine x_iald (f := xN T) hx hb hK hP 2 0 rfl rfl (k := k_2) (by omega) (Nat.le_of_ble_eq_true rfl) dX0_room_40 ?_
    refine x_top (w := nI (T k_2)) rfl ?_
    have hf_6 := hF k_2 (by omega)
    refine xr_V (b := a 0) (As := [.int (nI (F k_2)), .int (nI (T k_2))]) (rest := []) ⟨hx, hb, hml, hown, hts⟩ (c_X0_leastLength l D t a tc rc ro B (F k_2) (T k_2) (by omega) (by omega)) (cwV 2 hts gX0_room_X0_leastLength rfl rfl rfl hd_X0_leastLength ⟨Nat.le_of_ble_eq_true rfl, Nat.le_of_ble_eq_true rfl⟩) hK hP (va_recv hK hP (ci := 0) (q0 := 0) rfl rfl) [0, 4] rfl rfl hl.1 rfl (Nat.le_of_ble_eq_true rfl) dX0_room_41 ⟨(Nat.le_of_ble_eq_true rfl), (Nat.le_of_ble_eq_true rfl)⟩ ?_
    refine W.widen (k := 3) (n := 18) (Nat.le_of_ble_eq_true rfl) (Nat.le_of_ble_eq_true rfl) ?_
    exact xt_iret (v := leastF B (F k_2) (T k_2)) hx hb hr hlocks (by simp [kRoom, ok_1, eik_2, c_3, ok_4]) (by simp [ok_1, eik_2, c_3, ok_4]) dX0_room_44
  · have c_3 := bI_0 c_3
    exact xt_throw (E := eIS) (text := (xSi 4).2) hx hb hfl hown (by decide +kernel) (hts (.classLink RX0 45 eIS) (by decide +kernel)) (hts (.initialized eIS) (by decide +kernel)) hXX (hXX.2.2.2 4) (xat_49 (fun w hw => hts w (List.mem_cons_of_mem _ (List.mem_append_left _ (List.mem_append_right _ hw)))) hXX) xgd_49 (hl.1.trans hml.symm) dX0_room_14 dX0_room_17 dX0_room_18 dX0_room_20 dX0_room_23 hte (Nat.le_of_ble_eq_true rfl) (Nat.le_of_ble_eq_true rfl) (Nat.le_of_ble_eq_true rfl) (Nat.le_of_ble_eq_true rfl) hlocks ⟨by simp [kRoom, ok_1, eik_2, c_3, xE], by simp [kRoom, ok_1, eik_2, c_3]⟩ (fun _ h => nomatch h) (Nat.le_of_ble_eq_true rfl) (Nat.le_of_ble_eq_true rfl) rfl
set_option maxHeartbeats 4000000 in
set_option maxRecDepth 100000 in
theorem c_X0_late (l : Launch) (hfl : l.stackTraces = false) (D : va_G) (t : Nat → ClassId) (a : Nat → Nat) (tc rc : Nat) (ro : Int32) (E B : Nat → Int32) (p0 p1 : Int32) (N0 : Nat) (sa : Nat → Nat) (htc : tc ≤ 12) : vx_Met l yX0_late wsX0_late ({ frames := 7, cells := 3, slots := 18, locals := 113 }) (xRt D (xTy t) N0 sa [.ref (a 0), .int p0, .int p1] [xObj a tc rc ro, xArr (t 0) (a 5) 12 E, xArr (t 0) (a 6) 144 B]) (xQt (some (.int (lateF B (ix p0) p1 tc 0 p1))) (kLate tc ro E p0 p1 = 0)) (xXt (fun E7 => E7 = xE (kLate tc ro E p0 p1) ∧ ¬ kLate tc ro E p0 p1 = 0)) 3 18 (fun _ => False) := by
  refine vx_ofW (cc := cX0_late) (maxL := 6) (ret := (some .int)) (by decide) rfl ?_
  intro p e s m args below meth c s₁ hB9 hml hte hv
  obtain ⟨rfl, hP, hK, hXX⟩ := hv
  have hx := hB9.exec
  have hb := hB9.bytes
  have hr := hB9.returns
  have hts := atoms_spec (ws := wsX0_late) hB9.pre
  have hown : s.vm.findClass RX0 = some m.cls := findClass_of_methodNamed hB9.named
  have hlocks := hB9.notSynchronized
  have hin : ∀ w ∈ wsX00, w ∈ wsX0_late := fun _ h => List.mem_cons_of_mem _ (List.mem_append_left _ (List.mem_append_left _ (List.mem_append_left _ (List.mem_append_right _ h))))
  have fl_23 := hts (.fieldLink RX0 23 "RopeTimes" "earliest" "[I") (by decide +kernel)
  have fl_41 := hts (.fieldLink RX0 41 "RopeTimes" "turnCount" "I") (by decide +kernel)
  have kc_121 := hts (.constant RX0 121 (99999)) (by decide +kernel)
  have ml_122 := hts (.methodLink RX0 122 Lib.Math.min.name) (by decide +kernel)
  have ms_min := hts (.static Lib.Math.min.name) (by decide +kernel)
  have mc_min := hts (.code Lib.Math.min.name Lib.Math.min.code 2 (some .int)) (by decide +kernel)
  have mi_Math := hts (.initialized "java/lang/Math") (by decide +kernel)
  have hl := lv_entry ([.ref (a 0), .int p0, .int p1]) (n := 6) (Nat.le_of_ble_eq_true rfl)
  rw [lg_entry_eq]
  generalize (lg_sl ([.ref (a 0), .int p0, .int p1]) ++ List.replicate (6 - (lg_sl ([.ref (a 0), .int p0, .int p1])).length) Slot.unset).toArray = ls at hl ⊢
  have hl : lv_has ls 6 [(0, .ref (a 0)), (1, .int p0), (2, .int p1)] := hl
  refine lv_aload_n hx hb dX0_late_0 rfl (lv_at hl 0 rfl) ?_
  refine lv_iload_n hx hb dX0_late_1 rfl (lv_at hl 1 rfl) ?_
  refine xt_V (b := a 0) (As := [.int p0]) (rest := []) ⟨hx, hb, hml, hown, hts⟩ (c_X0_checkTurn l hfl D t a tc rc ro p0 N0 sa (by omega)) (cwV 1 hts gX0_late_X0_checkTurn rfl rfl rfl hd_X0_checkTurn ⟨Nat.le_of_ble_eq_true rfl, Nat.le_of_ble_eq_true rfl⟩) hK hP (fun U hW hU => xTh.warm hW (fun q _ _ => by rw [hU]) hXX) (va_recv hK hP (ci := 0) (q0 := 0) rfl rfl) [0] rfl rfl hl.1 rfl (Nat.le_of_ble_eq_true rfl) dX0_late_2 ⟨(Nat.le_of_ble_eq_true rfl), (Nat.le_of_ble_eq_true rfl)⟩ (fun E9 ce9 q9 H9 hbad hz9 hk9 hce9 hv9 hcl9 => ?_) (fun ok_1 => ?_)
  · exact xt_out hte hlocks ⟨by rw [hbad.1]; simp [kLate, hbad.2, xE], by simp [kLate, hbad.2]⟩ hz9 hk9 hce9 hv9 hcl9 (fun _ h => nomatch h) (Nat.le_of_ble_eq_true rfl) (Nat.le_of_ble_eq_true rfl)
  obtain ⟨k_2, hk_2, ek_2⟩ := inB_of ok_1 (by omega)
  have eik_2 : ix p0 = k_2 := by rw [ek_2]; exact ix_nI (by omega)
  have hl : lv_has ls 6 [(0, .ref (a 0)), (1, .int (nI k_2)), (2, .int p1)] := by rw [← ek_2]; exact hl
  refine lv_iload_n hx hb dX0_late_5 rfl (lv_at hl 2 rfl) ?_
  refine lv_if_lt (x := p1) (tgt := 16) hx hb dX0_late_6 (by decide) (fun c_3 => ?_) (fun c_3 => ?_)
  · exact xt_throw (E := eIA) (text := (xSi 2).2) hx hb hfl hown (by decide +kernel) (hts (.classLink RX0 107 eIA) (by decide +kernel)) (hts (.initialized eIA) (by decide +kernel)) hXX (hXX.2.2.2 2) (xat_111 (fun w hw => hts w (List.mem_cons_of_mem _ (List.mem_append_left _ (List.mem_append_left _ (List.mem_append_right _ hw))))) hXX) xgd_111 (hl.1.trans hml.symm) dX0_late_16 dX0_late_19 dX0_late_20 dX0_late_22 dX0_late_25 hte (Nat.le_of_ble_eq_true rfl) (Nat.le_of_ble_eq_true rfl) (Nat.le_of_ble_eq_true rfl) (Nat.le_of_ble_eq_true rfl) hlocks ⟨by simp [kLate, endB, ok_1, eik_2, c_3, xE], by simp [kLate, endB, ok_1, eik_2, c_3]⟩ (fun _ h => nomatch h) (Nat.le_of_ble_eq_true rfl) (Nat.le_of_ble_eq_true rfl) rfl
  · refine lv_iload_n hx hb dX0_late_9 rfl (lv_at hl 2 rfl) ?_
    refine lv_sipush (v := 9999) hx hb dX0_late_10 (by decide) ?_
    refine lv_icmp_le (x := p1) (y := 9999) (tgt := 26) hx hb dX0_late_13 (by decide) (fun c_4 => ?_) (fun c_4 => ?_)
    · have c_4 := Int32.not_lt.mpr c_4
      have ok_5 : endB p1 = true := by simp [endB, ok_1, eik_2, c_3, c_4]
      refine lv_aload_n hx hb dX0_late_26 rfl (lv_at hl 0 rfl) ?_
      refine xt_V (b := a 0) (As := []) (rest := []) ⟨hx, hb, hml, hown, hts⟩ (c_X0_checkPossible l hfl D t a tc rc ro N0 sa) (cwV 0 hts gX0_late_X0_checkPossible rfl rfl rfl hd_X0_checkPossible ⟨Nat.le_of_ble_eq_true rfl, Nat.le_of_ble_eq_true rfl⟩) hK hP (fun U hW hU => xTh.warm hW (fun q _ _ => by rw [hU]) hXX) (va_recv hK hP (ci := 0) (q0 := 0) rfl rfl) [0] rfl rfl hl.1 rfl (Nat.le_of_ble_eq_true rfl) dX0_late_27 ⟨(Nat.le_of_ble_eq_true rfl), (Nat.le_of_ble_eq_true rfl)⟩ (fun E9 ce9 q9 H9 hbad hz9 hk9 hce9 hv9 hcl9 => ?_) (fun ok_6 => ?_)
      · exact xt_out hte hlocks ⟨by rw [hbad.1]; simp [kLate, hbad.2, ok_1, eik_2, c_3, c_4, ok_5, xE], by simp [kLate, hbad.2, ok_1, eik_2, c_3, c_4, ok_5]⟩ hz9 hk9 hce9 hv9 hcl9 (fun _ h => nomatch h) (Nat.le_of_ble_eq_true rfl) (Nat.le_of_ble_eq_true rfl)
      refine lv_aload_n hx hb dX0_late_30 rfl (lv_at hl 0 rfl) ?_
      refine lv_aload_n hx hb dX0_late_31 rfl (lv_at hl 0 rfl) ?_
      refine x0_get (v := .ref (a 5)) hx hb hts hin hown hK hP 0 rfl 7 (by decide) fl_23 rfl dX0_late_32 rfl ?_
      refine xr_V (b := a 0) (As := [.ref (a 5)]) (rest := []) ⟨hx, hb, hml, hown, hts⟩ (c_X0_lastOf l D t a tc rc ro (a 5) E (by omega)) (cwV 1 hts gX0_late_X0_lastOf rfl rfl rfl hd_X0_lastOf ⟨Nat.le_of_ble_eq_true rfl, Nat.le_of_ble_eq_true rfl⟩) hK hP (va_recv hK hP (ci := 0) (q0 := 0) rfl rfl) [0, 1] rfl rfl hl.1 rfl (Nat.le_of_ble_eq_true rfl) dX0_late_35 ⟨(Nat.le_of_ble_eq_true rfl), (Nat.le_of_ble_eq_true rfl)⟩ ?_
      refine lv_iload_n hx hb dX0_late_38 rfl (lv_at hl 2 rfl) ?_
      refine lv_icmp_le (x := lastF E tc 0 0) (y := p1) (tgt := 52) hx hb dX0_late_39 (by decide) (fun c_7 => ?_) (fun c_7 => ?_)
      · have c_7 := Int32.not_lt.mpr c_7
        refine lv_iload_n hx hb dX0_late_52 rfl (lv_at hl 2 rfl) ?_
        refine lv_istore_n (lv' := [(3, .int p1), (0, .ref (a 0)), (1, .int (nI k_2)), (2, .int p1)]) hx hb dX0_late_53 rfl hl (by decide) rfl (fun ls hl => ?_)
        refine lv_iconst (v := 0) hx hb dX0_late_54 (by decide) ?_
        refine lv_istore (lv' := [(4, .int 0), (3, .int p1), (0, .ref (a 0)), (1, .int (nI k_2)), (2, .int p1)]) hx hb dX0_late_55 hl (by decide) rfl (fun ls hl => ?_)
        have lp_57 : ∀ (n57 : Nat) (i : Nat) (la : Int32), i + n57 = tc → lateF B (ix p0) p1 n57 i la = lateF B (ix p0) p1 tc 0 p1 → ∀ ls : Array Slot, lv_has ls 6 [(4, .int (nI i)), (3, .int la), (0, .ref (a 0)), (1, .int (nI k_2)), (2, .int p1)] → W p l e (headSpec wsX0_late ({ frames := 7, cells := 3, slots := 18, locals := 113 } : Jvm.Room)).room s m (([.ref (a 0), .int p0, .int p1] : List Value).toArray) below meth c s.heap [] 2 12 (vx_MQ below (xQt (some (.int (lateF B (ix p0) p1 tc 0 p1))) (kLate tc ro E p0 p1 = 0)) (xXt (fun E7 => E7 = xE (kLate tc ro E p0 p1) ∧ ¬ kLate tc ro E p0 p1 = 0)) (([.ref (a 0), .int p0, .int p1] : List Value).toArray) s 3 18 (fun _ => False)) (F0 m 57 ls []) := by
          intro n57
          induction n57 using Nat.strongRecOn with
          | _ n57 ih_57 =>
            intro i la hm_57 hfin_57 ls hl
            refine lv_iload hx hb dX0_late_57 (lv_at hl 0 rfl) ?_
            refine lv_aload_n hx hb dX0_late_59 rfl (lv_at hl 2 rfl) ?_
            refine x0_get (v := .int (nI tc)) hx hb hts hin hown hK hP 0 rfl 0 (by decide) fl_41 rfl dX0_late_60 rfl ?_
            refine lv_icmp_ge (x := nI i) (y := nI tc) (tgt := 97) hx hb dX0_late_63 (by decide) (fun c_8 => ?_) (fun c_8 => ?_)
            · have c_8 := (nI_leI (a := tc) (b := i) (by omega) (by omega)).mp c_8
              have hn0_57 : n57 = 0 := by omega
              subst hn0_57
              obtain rfl : la = lateF B (ix p0) p1 tc 0 p1 := hfin_57
              refine lv_iload_n hx hb dX0_late_97 rfl (lv_at hl 1 rfl) ?_
              refine W.widen (k := 3) (n := 18) (Nat.le_of_ble_eq_true rfl) (Nat.le_of_ble_eq_true rfl) ?_
              exact xt_iret (v := lateF B (ix p0) p1 tc 0 p1) hx hb hr hlocks (by simp [kLate, ok_1, eik_2, c_3, c_4, ok_5, ok_6, c_7, c_8, Nat.not_lt.mpr c_8]) rfl dX0_late_98
            · have c_8 : i < tc := Nat.lt_of_not_le (fun z9 => c_8 ((nI_leI (a := tc) (b := i) (by omega) (by omega)).mpr z9))
              obtain ⟨n579, rfl⟩ : ∃ z, n57 = z + 1 := ⟨n57 - 1, by omega⟩
              refine lv_aload_n hx hb dX0_late_66 rfl (lv_at hl 2 rfl) ?_
              refine lv_iload hx hb dX0_late_67 (lv_at hl 0 rfl) ?_
              refine lv_iload_n hx hb dX0_late_69 rfl (lv_at hl 3 rfl) ?_
              refine xr_V (b := a 0) (As := [.int (nI i), .int (nI k_2)]) (rest := []) ⟨hx, hb, hml, hown, hts⟩ (c_X0_boundFrom l D t a tc rc ro B i k_2 (by omega) (by omega)) (cwV 2 hts gX0_late_X0_boundFrom rfl rfl rfl hd_X0_boundFrom ⟨Nat.le_of_ble_eq_true rfl, Nat.le_of_ble_eq_true rfl⟩) hK hP (va_recv hK hP (ci := 0) (q0 := 0) rfl rfl) [0, 2] rfl rfl hl.1 rfl (Nat.le_of_ble_eq_true rfl) dX0_late_70 ⟨(Nat.le_of_ble_eq_true rfl), (Nat.le_of_ble_eq_true rfl)⟩ ?_
              refine lv_istore (lv' := [(5, .int (B (i * 12 + k_2))), (4, .int (nI i)), (3, .int la), (0, .ref (a 0)), (1, .int (nI k_2)), (2, .int p1)]) hx hb dX0_late_73 hl (by decide) rfl (fun ls hl => ?_)
              refine lv_iload hx hb dX0_late_75 (lv_at hl 0 rfl) ?_
              refine lv_ldc (v := 99999) hx hb hown kc_121 dX0_late_77 ?_
              refine lv_icmp_eq (x := B (i * 12 + k_2)) (y := 99999) (tgt := 91) hx hb dX0_late_79 (by decide) (fun c_9 => ?_) (fun c_9 => ?_)
              · refine lv_iinc (v := nI (i + 1)) (lv' := [(4, .int (nI (i + 1))), (5, .int (B (i * 12 + k_2))), (3, .int la), (0, .ref (a 0)), (1, .int (nI k_2)), (2, .int p1)]) hx hb dX0_late_91 hl (k := 1) rfl (x_inc _) (by decide) rfl (fun ls hl => ?_)
                refine lv_goto (tgt := 57) hx hb dX0_late_94 (by decide) ?_
                exact ih_57 n579 (by omega) (i + 1) la (by omega) (by rw [← hfin_57]; simp [lateF, ok_1, eik_2, c_3, c_4, ok_5, ok_6, c_7, c_8, c_9]) _ (lv_sub hl [0, 2, 3, 4, 5] rfl)
              · refine lv_iload_n hx hb dX0_late_82 rfl (lv_at hl 2 rfl) ?_
                refine lv_iload_n hx hb dX0_late_83 rfl (lv_at hl 5 rfl) ?_
                refine lv_iload hx hb dX0_late_84 (lv_at hl 0 rfl) ?_
                refine lv_iadd (x := p1) (y := B (i * 12 + k_2)) hx hb dX0_late_86 ?_
                refine va_mmin (x := la) (y := p1 + (B (i * 12 + k_2))) hx hb (hml.trans hl.1.symm) hown ml_122 ms_min mi_Math mc_min (Nat.le_of_ble_eq_true rfl) (Nat.le_of_ble_eq_true rfl) (Nat.le_of_ble_eq_true rfl) (Nat.le_of_ble_eq_true rfl) dX0_late_87 ?_
                refine x_top (w := mnI la (p1 + (B (i * 12 + k_2)))) rfl ?_
                refine lv_istore_n (lv' := [(3, .int (mnI la (p1 + (B (i * 12 + k_2))))), (5, .int (B (i * 12 + k_2))), (4, .int (nI i)), (0, .ref (a 0)), (1, .int (nI k_2)), (2, .int p1)]) hx hb dX0_late_90 rfl hl (by decide) rfl (fun ls hl => ?_)
                refine lv_iinc (v := nI (i + 1)) (lv' := [(4, .int (nI (i + 1))), (3, .int (mnI la (p1 + (B (i * 12 + k_2))))), (5, .int (B (i * 12 + k_2))), (0, .ref (a 0)), (1, .int (nI k_2)), (2, .int p1)]) hx hb dX0_late_91 hl (k := 2) rfl (x_inc _) (by decide) rfl (fun ls hl => ?_)
                refine lv_goto (tgt := 57) hx hb dX0_late_94 (by decide) ?_
                exact ih_57 n579 (by omega) (i + 1) (mnI la (p1 + (B (i * 12 + k_2)))) (by omega) (by rw [← hfin_57]; simp [lateF, ok_1, eik_2, c_3, c_4, ok_5, ok_6, c_7, c_8, c_9]) _ (lv_sub hl [0, 1, 3, 4, 5] rfl)
        exact lp_57 tc 0 p1 (by omega) rfl _ (lv_sub hl [0, 1, 2, 3, 4] rfl)
      · have c_7 := Int32.not_le.mp c_7
        exact xt_throw (E := eIS) (text := (xSi 3).2) hx hb hfl hown (by decide +kernel) (hts (.classLink RX0 45 eIS) (by decide +kernel)) (hts (.initialized eIS) (by decide +kernel)) hXX (hXX.2.2.2 3) (xat_49 (fun w hw => hts w (List.mem_cons_of_mem _ (List.mem_append_left _ (List.mem_append_right _ hw)))) hXX) xgd_49 (hl.1.trans hml.symm) dX0_late_42 dX0_late_45 dX0_late_46 dX0_late_48 dX0_late_51 hte (Nat.le_of_ble_eq_true rfl) (Nat.le_of_ble_eq_true rfl) (Nat.le_of_ble_eq_true rfl) (Nat.le_of_ble_eq_true rfl) hlocks ⟨by simp [kLate, endB, ok_1, eik_2, c_3, c_4, ok_5, ok_6, c_7, xE], by simp [kLate, endB, ok_1, eik_2, c_3, c_4, ok_5, ok_6, c_7]⟩ (fun _ h => nomatch h) (Nat.le_of_ble_eq_true rfl) (Nat.le_of_ble_eq_true rfl) rfl
    · have c_4 := Int32.not_le.mp c_4
      exact xt_throw (E := eIA) (text := (xSi 2).2) hx hb hfl hown (by decide +kernel) (hts (.classLink RX0 107 eIA) (by decide +kernel)) (hts (.initialized eIA) (by decide +kernel)) hXX (hXX.2.2.2 2) (xat_111 (fun w hw => hts w (List.mem_cons_of_mem _ (List.mem_append_left _ (List.mem_append_left _ (List.mem_append_right _ hw))))) hXX) xgd_111 (hl.1.trans hml.symm) dX0_late_16 dX0_late_19 dX0_late_20 dX0_late_22 dX0_late_25 hte (Nat.le_of_ble_eq_true rfl) (Nat.le_of_ble_eq_true rfl) (Nat.le_of_ble_eq_true rfl) (Nat.le_of_ble_eq_true rfl) hlocks ⟨by simp [kLate, endB, ok_1, eik_2, c_3, c_4, xE], by simp [kLate, endB, ok_1, eik_2, c_3, c_4]⟩ (fun _ h => nomatch h) (Nat.le_of_ble_eq_true rfl) (Nat.le_of_ble_eq_true rfl) rfl
set_option maxHeartbeats 4000000 in
set_option maxRecDepth 100000 in
theorem c_X0_told (l : Launch) (hfl : l.stackTraces = false) (D : va_G) (t : Nat → ClassId) (a : Nat → Nat) (tc rc : Nat) (ro : Int32) (F T : Nat → Nat) (L : Nat → Int32) (Z : Nat → Bool) (E : Nat → Int32) (p0 p1 : Int32) (N0 : Nat) (sa : Nat → Nat) (htc : tc ≤ 12) (hrc : rc ≤ 30) (hF : ∀ r, r < rc → F r < tc ∧ T r < tc) : vx_Met l yX0_told wsX0_told ({ frames := 7, cells := 2, slots := 12, locals := 113 }) (xRt D (xTy t) N0 sa [.ref (a 0), .int p0, .int p1] [xObj a tc rc ro, xArr (t 0) (a 1) 30 (xN F), xArr (t 0) (a 2) 30 (xN T), xArr (t 0) (a 3) 30 L, xArr (t 1) (a 4) 30 (xB Z), xArr (t 0) (a 5) 12 E]) (xQt (some (.int (toldF ro E F T L Z (ix p0) (ix p1)))) (kIn2 rc 5 p0 p1 = 0)) (xXt (fun E7 => E7 = xE (kIn2 rc 5 p0 p1) ∧ ¬ kIn2 rc 5 p0 p1 = 0)) 2 12 (fun _ => False) := by
  refine vx_ofW (cc := cX0_told) (maxL := 3) (ret := (some .int)) (by decide) rfl ?_
  intro p e s m args below meth c s₁ hB9 hml hte hv
  obtain ⟨rfl, hP, hK, hXX⟩ := hv
  have hx := hB9.exec
  have hb := hB9.bytes
  have hr := hB9.returns
  have hts := atoms_spec (ws := wsX0_told) hB9.pre
  have hown : s.vm.findClass RX0 = some m.cls := findClass_of_methodNamed hB9.named
  have hlocks := hB9.notSynchronized
  have hin : ∀ w ∈ wsX00, w ∈ wsX0_told := fun _ h => List.mem_cons_of_mem _ (List.mem_append_left _ (List.mem_append_right _ h))
  have fl_9 := hts (.fieldLink RX0 9 "RopeTimes" "from" "[I") (by decide +kernel)
  have fl_13 := hts (.fieldLink RX0 13 "RopeTimes" "to" "[I") (by decide +kernel)
  have fl_16 := hts (.fieldLink RX0 16 "RopeTimes" "length" "[I") (by decide +kernel)
  have fl_19 := hts (.fieldLink RX0 19 "RopeTimes" "tied" "[Z") (by decide +kernel)
  have hl := lv_entry ([.ref (a 0), .int p0, .int p1]) (n := 3) (Nat.le_of_ble_eq_true rfl)
  rw [lg_entry_eq]
  generalize (lg_sl ([.ref (a 0), .int p0, .int p1]) ++ List.replicate (3 - (lg_sl ([.ref (a 0), .int p0, .int p1])).length) Slot.unset).toArray = ls at hl ⊢
  have hl : lv_has ls 3 [(0, .ref (a 0)), (1, .int p0), (2, .int p1)] := hl
  refine lv_aload_n hx hb dX0_told_0 rfl (lv_at hl 0 rfl) ?_
  refine lv_iload_n hx hb dX0_told_1 rfl (lv_at hl 1 rfl) ?_
  refine xt_V (b := a 0) (As := [.int p0]) (rest := []) ⟨hx, hb, hml, hown, hts⟩ (c_X0_checkRope l hfl D t a tc rc ro p0 N0 sa (by omega)) (cwV 1 hts gX0_told_X0_checkRope rfl rfl rfl hd_X0_checkRope ⟨Nat.le_of_ble_eq_true rfl, Nat.le_of_ble_eq_true rfl⟩) hK hP (fun U hW hU => xTh.warm hW (fun q _ _ => by rw [hU]) hXX) (va_recv hK hP (ci := 0) (q0 := 0) rfl rfl) [0] rfl rfl hl.1 rfl (Nat.le_of_ble_eq_true rfl) dX0_told_2 ⟨(Nat.le_of_ble_eq_true rfl), (Nat.le_of_ble_eq_true rfl)⟩ (fun E9 ce9 q9 H9 hbad hz9 hk9 hce9 hv9 hcl9 => ?_) (fun ok_1 => ?_)
  · exact xt_out hte hlocks ⟨by rw [hbad.1]; simp [kIn2, hbad.2, xE], by simp [kIn2, hbad.2]⟩ hz9 hk9 hce9 hv9 hcl9 (fun _ h => nomatch h) (Nat.le_of_ble_eq_true rfl) (Nat.le_of_ble_eq_true rfl)
  obtain ⟨k_2, hk_2, ek_2⟩ := inB_of ok_1 (by omega)
  have eik_2 : ix p0 = k_2 := by rw [ek_2]; exact ix_nI (by omega)
  have hl : lv_has ls 3 [(0, .ref (a 0)), (1, .int (nI k_2)), (2, .int p1)] := by rw [← ek_2]; exact hl
  refine lv_iload_n hx hb dX0_told_5 rfl (lv_at hl 2 rfl) ?_
  refine lv_iconst (v := 5) hx hb dX0_told_6 (by decide) ?_
  refine xt_S (As := [.int p1, .int 5]) (rest := []) ⟨hx, hb, hml, hown, hts⟩ (c_X0_checkKind l hfl D t p1 5 N0 sa) (va_cwS 2 hts gX0_told_X0_checkKind rfl rfl rfl hd_X0_checkKind ⟨Nat.le_of_ble_eq_true rfl, Nat.le_of_ble_eq_true rfl⟩) hK hP (fun U hW hU => xTh.warm hW (fun q _ _ => by rw [hU]) hXX) [] rfl rfl hl.1 rfl (Nat.le_of_ble_eq_true rfl) dX0_told_7 ⟨(Nat.le_of_ble_eq_true rfl), (Nat.le_of_ble_eq_true rfl)⟩ (fun E9 ce9 q9 H9 hbad hz9 hk9 hce9 hv9 hcl9 => ?_) (fun ok_3 => ?_)
  · exact xt_out hte hlocks ⟨by rw [hbad.1]; simp [kIn2, hbad.2, ok_1, eik_2, xE], by simp [kIn2, hbad.2, ok_1, eik_2]⟩ hz9 hk9 hce9 hv9 hcl9 (fun _ h => nomatch h) (Nat.le_of_ble_eq_true rfl) (Nat.le_of_ble_eq_true rfl)
  obtain ⟨k_4, hk_4, ek_4⟩ := inB_of ok_3 (by omega)
  have eik_4 : ix p1 = k_4 := by rw [ek_4]; exact ix_nI (by omega)
  have hl : lv_has ls 3 [(0, .ref (a 0)), (1, .int (nI k_2)), (2, .int (nI k_4))] := by rw [← ek_4]; exact hl
  refine lv_iload_n hx hb dX0_told_10 rfl (lv_at hl 2 rfl) ?_
  rcases (by omega : k_4 = 0 ∨ k_4 = 1 ∨ k_4 = 2 ∨ k_4 = 3 ∨ 3 < k_4) with rfl | rfl | rfl | rfl | hgt_5
  · refine lv_tableIn (x := nI 0) (off := 29) (tgt := 40) hx hb dX0_told_11 (by decide) (by decide) rfl (by decide) ?_
    refine lv_aload_n hx hb dX0_told_40 rfl (lv_at hl 0 rfl) ?_
    refine x0_get (v := .ref (a 1)) hx hb hts hin hown hK hP 0 rfl 2 (by decide) fl_9 rfl dX0_told_41 rfl ?_
    refine lv_iload_n hx hb dX0_told_44 rfl (lv_at hl 1 rfl) ?_
    refine x_iald (f := xN F) hx hb hK hP 1 0 rfl rfl (k := k_2) (by omega) (Nat.le_of_ble_eq_true rfl) dX0_told_45 ?_
    refine x_top (w := nI (F k_2)) rfl ?_
    have hf_6 := hF k_2 (by omega)
    exact xt_iret (v := nI (F k_2)) hx hb hr hlocks (by simp [kIn2, ok_1, eik_2, ok_3, eik_4]) (by simp [toldF, bI, ok_1, eik_2, ok_3, eik_4]) dX0_told_46
  · refine lv_tableIn (x := nI 1) (off := 36) (tgt := 47) hx hb dX0_told_11 (by decide) (by decide) rfl (by decide) ?_
    refine lv_aload_n hx hb dX0_told_47 rfl (lv_at hl 0 rfl) ?_
    refine x0_get (v := .ref (a 2)) hx hb hts hin hown hK hP 0 rfl 3 (by decide) fl_13 rfl dX0_told_48 rfl ?_
    refine lv_iload_n hx hb dX0_told_51 rfl (lv_at hl 1 rfl) ?_
    refine x_iald (f := xN T) hx hb hK hP 2 0 rfl rfl (k := k_2) (by omega) (Nat.le_of_ble_eq_true rfl) dX0_told_52 ?_
    refine x_top (w := nI (T k_2)) rfl ?_
    have hf_7 := hF k_2 (by omega)
    exact xt_iret (v := nI (T k_2)) hx hb hr hlocks (by simp [kIn2, ok_1, eik_2, ok_3, eik_4]) (by simp [toldF, bI, ok_1, eik_2, ok_3, eik_4]) dX0_told_53
  · refine lv_tableIn (x := nI 2) (off := 43) (tgt := 54) hx hb dX0_told_11 (by decide) (by decide) rfl (by decide) ?_
    refine lv_aload_n hx hb dX0_told_54 rfl (lv_at hl 0 rfl) ?_
    refine x0_get (v := .ref (a 3)) hx hb hts hin hown hK hP 0 rfl 4 (by decide) fl_16 rfl dX0_told_55 rfl ?_
    refine lv_iload_n hx hb dX0_told_58 rfl (lv_at hl 1 rfl) ?_
    refine x_iald (f := L) hx hb hK hP 3 0 rfl rfl (k := k_2) (by omega) (Nat.le_of_ble_eq_true rfl) dX0_told_59 ?_
    exact xt_iret (v := L k_2) hx hb hr hlocks (by simp [kIn2, ok_1, eik_2, ok_3, eik_4]) (by simp [toldF, bI, ok_1, eik_2, ok_3, eik_4]) dX0_told_60
  · refine lv_tableIn (x := nI 3) (off := 50) (tgt := 61) hx hb dX0_told_11 (by decide) (by decide) rfl (by decide) ?_
    refine lv_aload_n hx hb dX0_told_61 rfl (lv_at hl 0 rfl) ?_
    refine x0_get (v := .ref (a 4)) hx hb hts hin hown hK hP 0 rfl 5 (by decide) fl_19 rfl dX0_told_62 rfl ?_
    refine lv_iload_n hx hb dX0_told_65 rfl (lv_at hl 1 rfl) ?_
    refine x_zald (f := xB Z) hx hb hK hP 4 1 rfl rfl (k := k_2) (by omega) (Nat.le_of_ble_eq_true rfl) dX0_told_66 ?_
    refine x_top (w := bI (Z k_2)) rfl ?_
    refine lv_if_eq (x := bI (Z k_2)) (tgt := 74) hx hb dX0_told_67 (by decide) (fun c_8 => ?_) (fun c_8 => ?_)
    · have c_8 := bI_0 c_8
      refine lv_iconst (v := 0) hx hb dX0_told_74 (by decide) ?_
      exact xt_iret (v := 0) hx hb hr hlocks (by simp [kIn2, ok_1, eik_2, ok_3, eik_4, c_8]) (by simp [toldF, bI, ok_1, eik_2, ok_3, eik_4, c_8]) dX0_told_75
    · have c_8 := bI_n0 c_8
      refine lv_iconst (v := 1) hx hb dX0_told_70 (by decide) ?_
      refine lv_goto (tgt := 75) hx hb dX0_told_71 (by decide) ?_
      exact xt_iret (v := 1) hx hb hr hlocks (by simp [kIn2, ok_1, eik_2, ok_3, eik_4, c_8]) (by simp [toldF, bI, ok_1, eik_2, ok_3, eik_4, c_8]) dX0_told_75
  · refine lv_tableOut (x := nI k_4) (tgt := 76) hx hb dX0_told_11 (Or.inr (by rw [nI_toInt (by omega)]; omega)) (by decide) ?_
    refine lv_aload_n hx hb dX0_told_76 rfl (lv_at hl 0 rfl) ?_
    refine lv_iload_n hx hb dX0_told_77 rfl (lv_at hl 1 rfl) ?_
    refine xr_V (b := a 0) (As := [.int (nI k_2)]) (rest := []) ⟨hx, hb, hml, hown, hts⟩ (c_X0_isTight l D t a tc rc ro F T L Z E k_2 (by omega) (by omega) hF (by omega)) (cwV 1 hts gX0_told_X0_isTight rfl rfl rfl hd_X0_isTight ⟨Nat.le_of_ble_eq_true rfl, Nat.le_of_ble_eq_true rfl⟩) hK hP (va_recv hK hP (ci := 0) (q0 := 0) rfl rfl) [0, 1, 2, 3, 4, 5] rfl rfl hl.1 rfl (Nat.le_of_ble_eq_true rfl) dX0_told_78 ⟨(Nat.le_of_ble_eq_true rfl), (Nat.le_of_ble_eq_true rfl)⟩ ?_
    refine lv_if_eq (x := bI (tightB ro E F T L Z k_2)) (tgt := 88) hx hb dX0_told_81 (by decide) (fun c_9 => ?_) (fun c_9 => ?_)
    · have c_9 := bI_0 c_9
      refine lv_iconst (v := 0) hx hb dX0_told_88 (by decide) ?_
      exact xt_iret (v := 0) hx hb hr hlocks (by simp [kIn2, ok_1, eik_2, ok_3, eik_4, Nat.ne_of_gt (Nat.lt_of_le_of_lt (Nat.zero_le _) hgt_5), (show ¬ k_4 = 0 by omega), (show ¬ k_4 = 1 by omega), (show ¬ k_4 = 2 by omega), (show ¬ k_4 = 3 by omega), c_9]) (by simp [toldF, bI, ok_1, eik_2, ok_3, eik_4, Nat.ne_of_gt (Nat.lt_of_le_of_lt (Nat.zero_le _) hgt_5), (show ¬ k_4 = 0 by omega), (show ¬ k_4 = 1 by omega), (show ¬ k_4 = 2 by omega), (show ¬ k_4 = 3 by omega), c_9]) dX0_told_89
    · have c_9 := bI_n0 c_9
      refine lv_iconst (v := 1) hx hb dX0_told_84 (by decide) ?_
      refine lv_goto (tgt := 89) hx hb dX0_told_85 (by decide) ?_
      exact xt_iret (v := 1) hx hb hr hlocks (by simp [kIn2, ok_1, eik_2, ok_3, eik_4, Nat.ne_of_gt (Nat.lt_of_le_of_lt (Nat.zero_le _) hgt_5), (show ¬ k_4 = 0 by omega), (show ¬ k_4 = 1 by omega), (show ¬ k_4 = 2 by omega), (show ¬ k_4 = 3 by omega), c_9]) (by simp [toldF, bI, ok_1, eik_2, ok_3, eik_4, Nat.ne_of_gt (Nat.lt_of_le_of_lt (Nat.zero_le _) hgt_5), (show ¬ k_4 = 0 by omega), (show ¬ k_4 = 1 by omega), (show ¬ k_4 = 2 by omega), (show ¬ k_4 = 3 by omega), c_9]) dX0_told_89
set_option maxHeartbeats 4000000 in
set_option maxRecDepth 100000 in
theorem c_X0_about (l : Launch) (hfl : l.stackTraces = false) (D : va_G) (t : Nat → ClassId) (a : Nat → Nat) (tc rc : Nat) (ro : Int32) (F T : Nat → Nat) (Z : Nat → Bool) (E : Nat → Int32) (p0 p1 : Int32) (N0 : Nat) (sa : Nat → Nat) (htc : tc ≤ 12) (hrc : rc ≤ 30) (hF : ∀ r, r < rc → F r < tc ∧ T r < tc) : vx_Met l yX0_about wsX0_about ({ frames := 7, cells := 2, slots := 12, locals := 113 }) (xRt D (xTy t) N0 sa [.ref (a 0), .int p0, .int p1] [xObj a tc rc ro, xArr (t 0) (a 1) 30 (xN F), xArr (t 0) (a 2) 30 (xN T), xArr (t 1) (a 4) 30 (xB Z), xArr (t 0) (a 5) 12 E]) (xQt (some (.int (aboutF ro E F T Z rc (ix p0) (ix p1)))) (kIn2 tc 3 p0 p1 = 0)) (xXt (fun E7 => E7 = xE (kIn2 tc 3 p0 p1) ∧ ¬ kIn2 tc 3 p0 p1 = 0)) 2 12 (fun _ => False) := by
  refine vx_ofW (cc := cX0_about) (maxL := 3) (ret := (some .int)) (by decide) rfl ?_
  intro p e s m args below meth c s₁ hB9 hml hte hv
  obtain ⟨rfl, hP, hK, hXX⟩ := hv
  have hx := hB9.exec
  have hb := hB9.bytes
  have hr := hB9.returns
  have hts := atoms_spec (ws := wsX0_about) hB9.pre
  have hown : s.vm.findClass RX0 = some m.cls := findClass_of_methodNamed hB9.named
  have hlocks := hB9.notSynchronized
  have hin : ∀ w ∈ wsX00, w ∈ wsX0_about := fun _ h => List.mem_cons_of_mem _ (List.mem_append_left _ (List.mem_append_right _ h))
  have fl_9 := hts (.fieldLink RX0 9 "RopeTimes" "from" "[I") (by decide +kernel)
  have fl_13 := hts (.fieldLink RX0 13 "RopeTimes" "to" "[I") (by decide +kernel)
  have fl_23 := hts (.fieldLink RX0 23 "RopeTimes" "earliest" "[I") (by decide +kernel)
  have hl := lv_entry ([.ref (a 0), .int p0, .int p1]) (n := 3) (Nat.le_of_ble_eq_true rfl)
  rw [lg_entry_eq]
  generalize (lg_sl ([.ref (a 0), .int p0, .int p1]) ++ List.replicate (3 - (lg_sl ([.ref (a 0), .int p0, .int p1])).length) Slot.unset).toArray = ls at hl ⊢
  have hl : lv_has ls 3 [(0, .ref (a 0)), (1, .int p0), (2, .int p1)] := hl
  refine lv_aload_n hx hb dX0_about_0 rfl (lv_at hl 0 rfl) ?_
  refine lv_iload_n hx hb dX0_about_1 rfl (lv_at hl 1 rfl) ?_
  refine xt_V (b := a 0) (As := [.int p0]) (rest := []) ⟨hx, hb, hml, hown, hts⟩ (c_X0_checkTurn l hfl D t a tc rc ro p0 N0 sa (by omega)) (cwV 1 hts gX0_about_X0_checkTurn rfl rfl rfl hd_X0_checkTurn ⟨Nat.le_of_ble_eq_true rfl, Nat.le_of_ble_eq_true rfl⟩) hK hP (fun U hW hU => xTh.warm hW (fun q _ _ => by rw [hU]) hXX) (va_recv hK hP (ci := 0) (q0 := 0) rfl rfl) [0] rfl rfl hl.1 rfl (Nat.le_of_ble_eq_true rfl) dX0_about_2 ⟨(Nat.le_of_ble_eq_true rfl), (Nat.le_of_ble_eq_true rfl)⟩ (fun E9 ce9 q9 H9 hbad hz9 hk9 hce9 hv9 hcl9 => ?_) (fun ok_1 => ?_)
  · exact xt_out hte hlocks ⟨by rw [hbad.1]; simp [kIn2, hbad.2, xE], by simp [kIn2, hbad.2]⟩ hz9 hk9 hce9 hv9 hcl9 (fun _ h => nomatch h) (Nat.le_of_ble_eq_true rfl) (Nat.le_of_ble_eq_true rfl)
  obtain ⟨k_2, hk_2, ek_2⟩ := inB_of ok_1 (by omega)
  have eik_2 : ix p0 = k_2 := by rw [ek_2]; exact ix_nI (by omega)
  have hl : lv_has ls 3 [(0, .ref (a 0)), (1, .int (nI k_2)), (2, .int p1)] := by rw [← ek_2]; exact hl
  refine lv_iload_n hx hb dX0_about_5 rfl (lv_at hl 2 rfl) ?_
  refine lv_iconst (v := 3) hx hb dX0_about_6 (by decide) ?_
  refine xt_S (As := [.int p1, .int 3]) (rest := []) ⟨hx, hb, hml, hown, hts⟩ (c_X0_checkKind l hfl D t p1 3 N0 sa) (va_cwS 2 hts gX0_about_X0_checkKind rfl rfl rfl hd_X0_checkKind ⟨Nat.le_of_ble_eq_true rfl, Nat.le_of_ble_eq_true rfl⟩) hK hP (fun U hW hU => xTh.warm hW (fun q _ _ => by rw [hU]) hXX) [] rfl rfl hl.1 rfl (Nat.le_of_ble_eq_true rfl) dX0_about_7 ⟨(Nat.le_of_ble_eq_true rfl), (Nat.le_of_ble_eq_true rfl)⟩ (fun E9 ce9 q9 H9 hbad hz9 hk9 hce9 hv9 hcl9 => ?_) (fun ok_3 => ?_)
  · exact xt_out hte hlocks ⟨by rw [hbad.1]; simp [kIn2, hbad.2, ok_1, eik_2, xE], by simp [kIn2, hbad.2, ok_1, eik_2]⟩ hz9 hk9 hce9 hv9 hcl9 (fun _ h => nomatch h) (Nat.le_of_ble_eq_true rfl) (Nat.le_of_ble_eq_true rfl)
  obtain ⟨k_4, hk_4, ek_4⟩ := inB_of ok_3 (by omega)
  have eik_4 : ix p1 = k_4 := by rw [ek_4]; exact ix_nI (by omega)
  have hl : lv_has ls 3 [(0, .ref (a 0)), (1, .int (nI k_2)), (2, .int (nI k_4))] := by rw [← ek_4]; exact hl
  refine lv_iload_n hx hb dX0_about_10 rfl (lv_at hl 2 rfl) ?_
  rcases (by omega : k_4 = 0 ∨ k_4 = 1 ∨ k_4 = 2) with rfl | rfl | rfl
  · refine lv_lookup (x := nI 0) (off := 25) (tgt := 36) hx hb dX0_about_11 rfl (by decide) (by decide) ?_
    refine lv_aload_n hx hb dX0_about_36 rfl (lv_at hl 0 rfl) ?_
    refine lv_iload_n hx hb dX0_about_37 rfl (lv_at hl 1 rfl) ?_
    refine lv_aload_n hx hb dX0_about_38 rfl (lv_at hl 0 rfl) ?_
    refine x0_get (v := .ref (a 1)) hx hb hts hin hown hK hP 0 rfl 2 (by decide) fl_9 rfl dX0_about_39 rfl ?_
    refine xr_V (b := a 0) (As := [.int (nI k_2), .ref (a 1)]) (rest := []) ⟨hx, hb, hml, hown, hts⟩ (c_X0_tiedEndsAt l D t a tc rc ro Z (a 1) F k_2 (by omega) (by omega) (fun r hr => by have := hF r hr; omega)) (cwV 2 hts gX0_about_X0_tiedEndsAt rfl rfl rfl hd_X0_tiedEndsAt ⟨Nat.le_of_ble_eq_true rfl, Nat.le_of_ble_eq_true rfl⟩) hK hP (va_recv hK hP (ci := 0) (q0 := 0) rfl rfl) [0, 3, 1] rfl rfl hl.1 rfl (Nat.le_of_ble_eq_true rfl) dX0_about_42 ⟨(Nat.le_of_ble_eq_true rfl), (Nat.le_of_ble_eq_true rfl)⟩ ?_
    exact xt_iret (v := nI (countF (fun r => Z r && decide (F r = k_2)) rc 0 0)) hx hb hr hlocks (by simp [kIn2, ok_1, eik_2, ok_3, eik_4]) (by simp [aboutF, endsF, ok_1, eik_2, ok_3, eik_4]) dX0_about_45
  · refine lv_lookup (x := nI 1) (off := 35) (tgt := 46) hx hb dX0_about_11 rfl (by decide) (by decide) ?_
    refine lv_aload_n hx hb dX0_about_46 rfl (lv_at hl 0 rfl) ?_
    refine lv_iload_n hx hb dX0_about_47 rfl (lv_at hl 1 rfl) ?_
    refine lv_aload_n hx hb dX0_about_48 rfl (lv_at hl 0 rfl) ?_
    refine x0_get (v := .ref (a 2)) hx hb hts hin hown hK hP 0 rfl 3 (by decide) fl_13 rfl dX0_about_49 rfl ?_
    refine xr_V (b := a 0) (As := [.int (nI k_2), .ref (a 2)]) (rest := []) ⟨hx, hb, hml, hown, hts⟩ (c_X0_tiedEndsAt l D t a tc rc ro Z (a 2) T k_2 (by omega) (by omega) (fun r hr => by have := hF r hr; omega)) (cwV 2 hts gX0_about_X0_tiedEndsAt rfl rfl rfl hd_X0_tiedEndsAt ⟨Nat.le_of_ble_eq_true rfl, Nat.le_of_ble_eq_true rfl⟩) hK hP (va_recv hK hP (ci := 0) (q0 := 0) rfl rfl) [0, 3, 2] rfl rfl hl.1 rfl (Nat.le_of_ble_eq_true rfl) dX0_about_52 ⟨(Nat.le_of_ble_eq_true rfl), (Nat.le_of_ble_eq_true rfl)⟩ ?_
    exact xt_iret (v := nI (countF (fun r => Z r && decide (T r = k_2)) rc 0 0)) hx hb hr hlocks (by simp [kIn2, ok_1, eik_2, ok_3, eik_4]) (by simp [aboutF, endsF, ok_1, eik_2, ok_3, eik_4]) dX0_about_55
  · refine lv_lookup (x := nI 2) (off := 45) (tgt := 56) hx hb dX0_about_11 rfl (by decide) (by decide) ?_
    refine lv_aload_n hx hb dX0_about_56 rfl (lv_at hl 0 rfl) ?_
    refine xr_V (b := a 0) (As := []) (rest := []) ⟨hx, hb, hml, hown, hts⟩ (c_X0_isPossible l D t a tc rc ro) (cwV 0 hts gX0_about_X0_isPossible rfl rfl rfl hd_X0_isPossible ⟨Nat.le_of_ble_eq_true rfl, Nat.le_of_ble_eq_true rfl⟩) hK hP (va_recv hK hP (ci := 0) (q0 := 0) rfl rfl) [0] rfl rfl hl.1 rfl (Nat.le_of_ble_eq_true rfl) dX0_about_57 ⟨(Nat.le_of_ble_eq_true rfl), (Nat.le_of_ble_eq_true rfl)⟩ ?_
    refine lv_if_eq (x := bI (decide (¬ ro = -1))) (tgt := 72) hx hb dX0_about_60 (by decide) (fun c_5 => ?_) (fun c_5 => ?_)
    · have c_5 := Classical.not_not.mp (of_decide_eq_false (bI_0 c_5))
      refine lv_iconst (v := (-1)) hx hb dX0_about_72 (by decide) ?_
      exact xt_iret (v := (-1)) hx hb hr hlocks (by simp [kIn2, ok_1, eik_2, ok_3, eik_4, c_5]) (by simp [aboutF, endsF, ok_1, eik_2, ok_3, eik_4, c_5]) dX0_about_73
    · have c_5 := of_decide_eq_true (bI_n0 c_5)
      refine lv_aload_n hx hb dX0_about_63 rfl (lv_at hl 0 rfl) ?_
      refine x0_get (v := .ref (a 5)) hx hb hts hin hown hK hP 0 rfl 7 (by decide) fl_23 rfl dX0_about_64 rfl ?_
      refine lv_iload_n hx hb dX0_about_67 rfl (lv_at hl 1 rfl) ?_
      refine x_iald (f := E) hx hb hK hP 4 0 rfl rfl (k := k_2) (by omega) (Nat.le_of_ble_eq_true rfl) dX0_about_68 ?_
      refine lv_goto (tgt := 73) hx hb dX0_about_69 (by decide) ?_
      exact xt_iret (v := E k_2) hx hb hr hlocks (by simp [kIn2, ok_1, eik_2, ok_3, eik_4, c_5]) (by simp [aboutF, endsF, ok_1, eik_2, ok_3, eik_4, c_5]) dX0_about_73
