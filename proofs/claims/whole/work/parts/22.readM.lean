theorem hd_X1_thrown : yX1_thrown.cls = RX1 ∧ yX1_thrown.cls ≠ "java/lang/invoke/MethodHandle" ∧ yX1_thrown.cls ≠ "java/lang/invoke/VarHandle" ∧ (parseMethodDescriptor yX1_thrown.desc).map (fun d => d.parameters.length) = some 0 := by decide +kernel
theorem hd_X1_fail : yX1_fail.cls = RX1 ∧ yX1_fail.cls ≠ "java/lang/invoke/MethodHandle" ∧ yX1_fail.cls ≠ "java/lang/invoke/VarHandle" ∧ (parseMethodDescriptor yX1_fail.desc).map (fun d => d.parameters.length) = some 1 := by decide +kernel
theorem hd_X1_isIn : yX1_isIn.cls ≠ "java/lang/invoke/MethodHandle" ∧ yX1_isIn.cls ≠ "java/lang/invoke/VarHandle" ∧ (parseMethodDescriptor yX1_isIn.desc).map (fun d => d.parameters.length) = some 3 := by decide +kernel
theorem hd_X1_isTurn : yX1_isTurn.cls = RX1 ∧ yX1_isTurn.cls ≠ "java/lang/invoke/MethodHandle" ∧ yX1_isTurn.cls ≠ "java/lang/invoke/VarHandle" ∧ (parseMethodDescriptor yX1_isTurn.desc).map (fun d => d.parameters.length) = some 1 := by decide +kernel
theorem hd_X1_isRope : yX1_isRope.cls = RX1 ∧ yX1_isRope.cls ≠ "java/lang/invoke/MethodHandle" ∧ yX1_isRope.cls ≠ "java/lang/invoke/VarHandle" ∧ (parseMethodDescriptor yX1_isRope.desc).map (fun d => d.parameters.length) = some 1 := by decide +kernel
theorem hd_X1_isLong : yX1_isLong.cls ≠ "java/lang/invoke/MethodHandle" ∧ yX1_isLong.cls ≠ "java/lang/invoke/VarHandle" ∧ (parseMethodDescriptor yX1_isLong.desc).map (fun d => d.parameters.length) = some 1 := by decide +kernel
theorem hd_X1_ro : yX1_ro.cls = RX1 ∧ yX1_ro.cls ≠ "java/lang/invoke/MethodHandle" ∧ yX1_ro.cls ≠ "java/lang/invoke/VarHandle" ∧ (parseMethodDescriptor yX1_ro.desc).map (fun d => d.parameters.length) = some 2 := by decide +kernel
theorem hd_X1_isTied : yX1_isTied.cls = RX1 ∧ yX1_isTied.cls ≠ "java/lang/invoke/MethodHandle" ∧ yX1_isTied.cls ≠ "java/lang/invoke/VarHandle" ∧ (parseMethodDescriptor yX1_isTied.desc).map (fun d => d.parameters.length) = some 1 := by decide +kernel
theorem hd_X1_isFound : yX1_isFound.cls = RX1 ∧ yX1_isFound.cls ≠ "java/lang/invoke/MethodHandle" ∧ yX1_isFound.cls ≠ "java/lang/invoke/VarHandle" ∧ (parseMethodDescriptor yX1_isFound.desc).map (fun d => d.parameters.length) = some 1 := by decide +kernel
theorem hd_X1_last : yX1_last.cls = RX1 ∧ yX1_last.cls ≠ "java/lang/invoke/MethodHandle" ∧ yX1_last.cls ≠ "java/lang/invoke/VarHandle" ∧ (parseMethodDescriptor yX1_last.desc).map (fun d => d.parameters.length) = some 1 := by decide +kernel
theorem hd_X1_isTight : yX1_isTight.cls = RX1 ∧ yX1_isTight.cls ≠ "java/lang/invoke/MethodHandle" ∧ yX1_isTight.cls ≠ "java/lang/invoke/VarHandle" ∧ (parseMethodDescriptor yX1_isTight.desc).map (fun d => d.parameters.length) = some 2 := by decide +kernel
theorem hd_X1_ropeTold : yX1_ropeTold.cls = RX1 ∧ yX1_ropeTold.cls ≠ "java/lang/invoke/MethodHandle" ∧ yX1_ropeTold.cls ≠ "java/lang/invoke/VarHandle" ∧ (parseMethodDescriptor yX1_ropeTold.desc).map (fun d => d.parameters.length) = some 3 := by decide +kernel
theorem hd_X1_turnTold : yX1_turnTold.cls = RX1 ∧ yX1_turnTold.cls ≠ "java/lang/invoke/MethodHandle" ∧ yX1_turnTold.cls ≠ "java/lang/invoke/VarHandle" ∧ (parseMethodDescriptor yX1_turnTold.desc).map (fun d => d.parameters.length) = some 3 := by decide +kernel
set_option maxHeartbeats 4000000 in
set_option maxRecDepth 100000 in
theorem c_X1_thrown (l : Launch) (D : va_G) (t : Nat → ClassId) (b : Nat → Nat) (th : Int32) (tc rc : Nat) : Met l yX1_thrown wsX1_thrown ({ frames := 0, cells := 0, slots := 0, locals := 0 }) (xRo D (xTy t) [.ref (b 0)] [xMod b th tc rc]) (xQr (.int th)) 0 0 (fun _ => False) := by
  refine Met.ofW (cc := cX1_thrown) (maxL := 1) (ret := (some .int)) (by decide) rfl ?_
  intro p e s m args below meth c s₁ hB9 hml hv
  obtain ⟨rfl, hP, hK⟩ := hv
  have hx := hB9.exec
  have hb := hB9.bytes
  have hr := hB9.returns
  have hts := atoms_spec (ws := wsX1_thrown) hB9.pre
  have hown : s.vm.findClass RX1 = some m.cls := findClass_of_methodNamed hB9.named
  have hlocks := hB9.notSynchronized
  have hin : ∀ w ∈ wsX10, w ∈ wsX1_thrown := fun _ h => List.mem_cons_of_mem _ (List.mem_append_right _ h)
  have fl_13 := hts (.fieldLink RX1 13 "RopeTimesModel" "thrown" "I") (by decide +kernel)
  have hl := lv_entry ([.ref (b 0)]) (n := 1) (Nat.le_of_ble_eq_true rfl)
  rw [lg_entry_eq]
  generalize (lg_sl ([.ref (b 0)]) ++ List.replicate (1 - (lg_sl ([.ref (b 0)])).length) Slot.unset).toArray = ls at hl ⊢
  have hl : lv_has ls 1 [(0, .ref (b 0))] := hl
  refine lv_aload_n hx hb dX1_thrown_0 rfl (lv_at hl 0 rfl) ?_
  refine x1_get (v := .int th) hx hb hts hin hown hK hP 0 rfl 0 (by decide) fl_13 rfl dX1_thrown_1 rfl ?_
  exact x_iret (v := th) hx hb hr hlocks rfl dX1_thrown_4
set_option maxHeartbeats 4000000 in
set_option maxRecDepth 100000 in
theorem c_X1_fail (l : Launch) (D : va_G) (t : Nat → ClassId) (b : Nat → Nat) (th : Int32) (tc rc : Nat) (x : Int32) (sz : Nat) : Met l yX1_fail wsX1_fail ({ frames := 0, cells := 0, slots := 0, locals := 0 }) (xMu D (xTy t) (fun _ => True) [.ref (b 0), .int x] [xMod b th tc rc] sz) (xQm D (fun u : Unit => True) (fun u : Unit => some (.int 0)) [xMod b th tc rc] (fun u : Unit => [xMod b x tc rc]) sz) 0 0 (va_A [xMod b th tc rc] sz) := by
  refine Met.ofW (cc := cX1_fail) (maxL := 2) (ret := (some .int)) (by decide) rfl ?_
  intro p e s m args below meth c s₁ hB9 hml hv
  obtain ⟨rfl, hsz, hP, hK, hD0, hXX⟩ := hv
  have hx := hB9.exec
  have hb := hB9.bytes
  have hr := hB9.returns
  have hts := atoms_spec (ws := wsX1_fail) hB9.pre
  have hown : s.vm.findClass RX1 = some m.cls := findClass_of_methodNamed hB9.named
  have hlocks := hB9.notSynchronized
  have hin : ∀ w ∈ wsX10, w ∈ wsX1_fail := fun _ h => List.mem_cons_of_mem _ (List.mem_append_right _ h)
  have fl_13 := hts (.fieldLink RX1 13 "RopeTimesModel" "thrown" "I") (by decide +kernel)
  subst hsz
  have hD := hD0.self (sz := s.heap.size)
  generalize hAe : va_A ([xMod b th tc rc]) s.heap.size = A at hD ⊢
  have hA : ∀ q : Nat, s.heap.size ≤ q → A q := fun q h => by rw [← hAe]; exact Or.inr h
  have hS : va_S A s.heap s.heap [] := va_S.rf
  have hP : va_P D vwCl ([xMod b th tc rc]) s.heap := hP
  have hD : va_D A ([xMod b th tc rc]) := hD
  have hl := lv_entry ([.ref (b 0), .int x]) (n := 2) (Nat.le_of_ble_eq_true rfl)
  rw [lg_entry_eq]
  generalize (lg_sl ([.ref (b 0), .int x]) ++ List.replicate (2 - (lg_sl ([.ref (b 0), .int x])).length) Slot.unset).toArray = ls at hl ⊢
  have hl : lv_has ls 2 [(0, .ref (b 0)), (1, .int x)] := hl
  refine lv_aload_n hx hb dX1_fail_0 rfl (lv_at hl 0 rfl) ?_
  refine lv_iload_n hx hb dX1_fail_1 rfl (lv_at hl 1 rfl) ?_
  refine x1_put (x := x) hx hb hts hin hown hK hP hD hS 0 ([xMod b x tc rc]) rfl 0 (by decide) fl_13 rfl rfl (Nat.le_of_ble_eq_true rfl) rfl dX1_fail_2 rfl (fun H locs hP hD hS => ?_)
  refine lv_iconst (v := 0) hx hb dX1_fail_5 (by decide) ?_
  subst hAe
  obtain ⟨hq9, hf9⟩ := xm_end (S := Unit) (pu := (fun u : Unit => True)) (r := (fun u : Unit => some (.int 0))) (wc := [xMod b th tc rc]) (w1 := (fun u : Unit => [xMod b x tc rc])) (o := some (.int 0)) (args := ([.ref (b 0), .int x] : List Value).toArray) () rfl trivial rfl hP hD hS
  exact W.iret hx hb hr hq9 hf9 dX1_fail_6 hlocks
set_option maxHeartbeats 4000000 in
set_option maxRecDepth 100000 in
theorem c_X1_isIn (l : Launch) (D : va_G) (t : Nat → ClassId) (v lo hi : Int32) : Met l yX1_isIn wsX1_isIn ({ frames := 0, cells := 0, slots := 0, locals := 0 }) (xRo D (xTy t) [.int v, .int lo, .int hi] []) (xQr (.int (bI (!(decide (v < lo)) && !(decide (hi < v)))))) 0 0 (fun _ => False) := by
  refine Met.ofW (cc := cX1_isIn) (maxL := 3) (ret := (some .boolean)) (by decide) rfl ?_
  intro p e s m args below meth c s₁ hB9 hml hv
  obtain ⟨rfl, hP, hK⟩ := hv
  have hx := hB9.exec
  have hb := hB9.bytes
  have hr := hB9.returns
  have hts := atoms_spec (ws := wsX1_isIn) hB9.pre
  have hown : s.vm.findClass RX1 = some m.cls := findClass_of_methodNamed hB9.named
  have hlocks := hB9.notSynchronized
  have hl := lv_entry ([.int v, .int lo, .int hi]) (n := 3) (Nat.le_of_ble_eq_true rfl)
  rw [lg_entry_eq]
  generalize (lg_sl ([.int v, .int lo, .int hi]) ++ List.replicate (3 - (lg_sl ([.int v, .int lo, .int hi])).length) Slot.unset).toArray = ls at hl ⊢
  have hl : lv_has ls 3 [(0, .int v), (1, .int lo), (2, .int hi)] := hl
  refine lv_iload_n hx hb dX1_isIn_0 rfl (lv_at hl 0 rfl) ?_
  refine lv_iload_n hx hb dX1_isIn_1 rfl (lv_at hl 1 rfl) ?_
  refine lv_icmp_lt (x := v) (y := lo) (tgt := 14) hx hb dX1_isIn_2 (by decide) (fun c_1 => ?_) (fun c_1 => ?_)
  · refine lv_iconst (v := 0) hx hb dX1_isIn_14 (by decide) ?_
    exact x_zret (v := 0) hx hb hr hlocks (by simp [bI, c_1]) dX1_isIn_15
  · refine lv_iload_n hx hb dX1_isIn_5 rfl (lv_at hl 0 rfl) ?_
    refine lv_iload_n hx hb dX1_isIn_6 rfl (lv_at hl 2 rfl) ?_
    refine lv_icmp_gt (x := v) (y := hi) (tgt := 14) hx hb dX1_isIn_7 (by decide) (fun c_2 => ?_) (fun c_2 => ?_)
    · refine lv_iconst (v := 0) hx hb dX1_isIn_14 (by decide) ?_
      exact x_zret (v := 0) hx hb hr hlocks (by simp [bI, c_1, c_2]) dX1_isIn_15
    · refine lv_iconst (v := 1) hx hb dX1_isIn_10 (by decide) ?_
      refine lv_goto (tgt := 15) hx hb dX1_isIn_11 (by decide) ?_
      exact x_zret (v := 1) hx hb hr hlocks (by simp [bI, c_1, c_2]) dX1_isIn_15
set_option maxHeartbeats 4000000 in
set_option maxRecDepth 100000 in
theorem c_X1_isTurn (l : Launch) (D : va_G) (t : Nat → ClassId) (b : Nat → Nat) (th : Int32) (tc rc : Nat) (x : Int32) (htc : tc ≤ 12) : Met l yX1_isTurn wsX1_isTurn ({ frames := 1, cells := 0, slots := 0, locals := 22 }) (xRo D (xTy t) [.ref (b 0), .int x] [xMod b th tc rc]) (xQr (.int (bI (inB x tc)))) 0 0 (fun _ => False) := by
  refine Met.ofW (cc := cX1_isTurn) (maxL := 2) (ret := (some .boolean)) (by decide) rfl ?_
  intro p e s m args below meth c s₁ hB9 hml hv
  obtain ⟨rfl, hP, hK⟩ := hv
  have hx := hB9.exec
  have hb := hB9.bytes
  have hr := hB9.returns
  have hts := atoms_spec (ws := wsX1_isTurn) hB9.pre
  have hown : s.vm.findClass RX1 = some m.cls := findClass_of_methodNamed hB9.named
  have hlocks := hB9.notSynchronized
  have hin : ∀ w ∈ wsX10, w ∈ wsX1_isTurn := fun _ h => List.mem_cons_of_mem _ (List.mem_append_right _ h)
  have fl_17 := hts (.fieldLink RX1 17 "RopeTimesModel" "turns" "I") (by decide +kernel)
  have hl := lv_entry ([.ref (b 0), .int x]) (n := 2) (Nat.le_of_ble_eq_true rfl)
  rw [lg_entry_eq]
  generalize (lg_sl ([.ref (b 0), .int x]) ++ List.replicate (2 - (lg_sl ([.ref (b 0), .int x])).length) Slot.unset).toArray = ls at hl ⊢
  have hl : lv_has ls 2 [(0, .ref (b 0)), (1, .int x)] := hl
  refine lv_iload_n hx hb dX1_isTurn_0 rfl (lv_at hl 1 rfl) ?_
  refine lv_iconst (v := 0) hx hb dX1_isTurn_1 (by decide) ?_
  refine lv_aload_n hx hb dX1_isTurn_2 rfl (lv_at hl 0 rfl) ?_
  refine x1_get (v := .int (nI tc)) hx hb hts hin hown hK hP 0 rfl 1 (by decide) fl_17 rfl dX1_isTurn_3 rfl ?_
  refine lv_iconst (v := 1) hx hb dX1_isTurn_6 (by decide) ?_
  refine lv_isub (x := nI tc) (y := 1) hx hb dX1_isTurn_7 ?_
  refine xr_S (As := [.int x, .int 0, .int ((nI tc) - 1)]) (rest := []) ⟨hx, hb, hml, hown, hts⟩ (c_X1_isIn l D t x 0 ((nI tc) - 1)) (va_cwS 3 hts gX1_isTurn_X1_isIn rfl rfl rfl hd_X1_isIn ⟨Nat.le_of_ble_eq_true rfl, Nat.le_of_ble_eq_true rfl⟩) hK hP [] rfl rfl hl.1 rfl (Nat.le_of_ble_eq_true rfl) dX1_isTurn_8 ⟨(Nat.le_of_ble_eq_true rfl), (Nat.le_of_ble_eq_true rfl)⟩ ?_
  exact x_zret (v := bI (!(decide (x < 0)) && !(decide (((nI tc) - 1) < x)))) hx hb hr hlocks (by rw [← isIn_inB x tc (by omega)]) dX1_isTurn_11
set_option maxHeartbeats 4000000 in
set_option maxRecDepth 100000 in
theorem c_X1_isRope (l : Launch) (D : va_G) (t : Nat → ClassId) (b : Nat → Nat) (th : Int32) (tc rc : Nat) (x : Int32) (hrc : rc ≤ 30) : Met l yX1_isRope wsX1_isRope ({ frames := 1, cells := 0, slots := 0, locals := 22 }) (xRo D (xTy t) [.ref (b 0), .int x] [xMod b th tc rc]) (xQr (.int (bI (inB x rc)))) 0 0 (fun _ => False) := by
  refine Met.ofW (cc := cX1_isRope) (maxL := 2) (ret := (some .boolean)) (by decide) rfl ?_
  intro p e s m args below meth c s₁ hB9 hml hv
  obtain ⟨rfl, hP, hK⟩ := hv
  have hx := hB9.exec
  have hb := hB9.bytes
  have hr := hB9.returns
  have hts := atoms_spec (ws := wsX1_isRope) hB9.pre
  have hown : s.vm.findClass RX1 = some m.cls := findClass_of_methodNamed hB9.named
  have hlocks := hB9.notSynchronized
  have hin : ∀ w ∈ wsX10, w ∈ wsX1_isRope := fun _ h => List.mem_cons_of_mem _ (List.mem_append_right _ h)
  have fl_24 := hts (.fieldLink RX1 24 "RopeTimesModel" "ropes" "I") (by decide +kernel)
  have hl := lv_entry ([.ref (b 0), .int x]) (n := 2) (Nat.le_of_ble_eq_true rfl)
  rw [lg_entry_eq]
  generalize (lg_sl ([.ref (b 0), .int x]) ++ List.replicate (2 - (lg_sl ([.ref (b 0), .int x])).length) Slot.unset).toArray = ls at hl ⊢
  have hl : lv_has ls 2 [(0, .ref (b 0)), (1, .int x)] := hl
  refine lv_iload_n hx hb dX1_isRope_0 rfl (lv_at hl 1 rfl) ?_
  refine lv_iconst (v := 0) hx hb dX1_isRope_1 (by decide) ?_
  refine lv_aload_n hx hb dX1_isRope_2 rfl (lv_at hl 0 rfl) ?_
  refine x1_get (v := .int (nI rc)) hx hb hts hin hown hK hP 0 rfl 2 (by decide) fl_24 rfl dX1_isRope_3 rfl ?_
  refine lv_iconst (v := 1) hx hb dX1_isRope_6 (by decide) ?_
  refine lv_isub (x := nI rc) (y := 1) hx hb dX1_isRope_7 ?_
  refine xr_S (As := [.int x, .int 0, .int ((nI rc) - 1)]) (rest := []) ⟨hx, hb, hml, hown, hts⟩ (c_X1_isIn l D t x 0 ((nI rc) - 1)) (va_cwS 3 hts gX1_isRope_X1_isIn rfl rfl rfl hd_X1_isIn ⟨Nat.le_of_ble_eq_true rfl, Nat.le_of_ble_eq_true rfl⟩) hK hP [] rfl rfl hl.1 rfl (Nat.le_of_ble_eq_true rfl) dX1_isRope_8 ⟨(Nat.le_of_ble_eq_true rfl), (Nat.le_of_ble_eq_true rfl)⟩ ?_
  exact x_zret (v := bI (!(decide (x < 0)) && !(decide (((nI rc) - 1) < x)))) hx hb hr hlocks (by rw [← isIn_inB x rc (by omega)]) dX1_isRope_11
set_option maxHeartbeats 4000000 in
set_option maxRecDepth 100000 in
theorem c_X1_isLong (l : Launch) (D : va_G) (t : Nat → ClassId) (x : Int32) : Met l yX1_isLong wsX1_isLong ({ frames := 1, cells := 0, slots := 0, locals := 22 }) (xRo D (xTy t) [.int x] []) (xQr (.int (bI (lenB x)))) 0 0 (fun _ => False) := by
  refine Met.ofW (cc := cX1_isLong) (maxL := 1) (ret := (some .boolean)) (by decide) rfl ?_
  intro p e s m args below meth c s₁ hB9 hml hv
  obtain ⟨rfl, hP, hK⟩ := hv
  have hx := hB9.exec
  have hb := hB9.bytes
  have hr := hB9.returns
  have hts := atoms_spec (ws := wsX1_isLong) hB9.pre
  have hown : s.vm.findClass RX1 = some m.cls := findClass_of_methodNamed hB9.named
  have hlocks := hB9.notSynchronized
  have hl := lv_entry ([.int x]) (n := 1) (Nat.le_of_ble_eq_true rfl)
  rw [lg_entry_eq]
  generalize (lg_sl ([.int x]) ++ List.replicate (1 - (lg_sl ([.int x])).length) Slot.unset).toArray = ls at hl ⊢
  have hl : lv_has ls 1 [(0, .int x)] := hl
  refine lv_iload_n hx hb dX1_isLong_0 rfl (lv_at hl 0 rfl) ?_
  refine lv_bipush (v := (-99)) hx hb dX1_isLong_1 (by decide) ?_
  refine lv_bipush (v := 99) hx hb dX1_isLong_3 (by decide) ?_
  refine xr_S (As := [.int x, .int (-99), .int 99]) (rest := []) ⟨hx, hb, hml, hown, hts⟩ (c_X1_isIn l D t x (-99) 99) (va_cwS 3 hts gX1_isLong_X1_isIn rfl rfl rfl hd_X1_isIn ⟨Nat.le_of_ble_eq_true rfl, Nat.le_of_ble_eq_true rfl⟩) hK hP [] rfl rfl hl.1 rfl (Nat.le_of_ble_eq_true rfl) dX1_isLong_5 ⟨(Nat.le_of_ble_eq_true rfl), (Nat.le_of_ble_eq_true rfl)⟩ ?_
  exact x_zret (v := bI (!(decide (x < (-99))) && !(decide (99 < x)))) hx hb hr hlocks rfl dX1_isLong_8
set_option maxHeartbeats 4000000 in
set_option maxRecDepth 100000 in
theorem c_X1_ro (l : Launch) (D : va_G) (t : Nat → ClassId) (b : Nat → Nat) (th : Int32) (tc rc : Nat) (F T : Nat → Nat) (L : Nat → Int32) (Z : Nat → Bool) (r w : Nat) (hr9 : r < 30) (hw9 : w < 4) : Met l yX1_ro wsX1_ro ({ frames := 0, cells := 0, slots := 0, locals := 0 }) (xRo D (xTy t) [.ref (b 0), .int (nI r), .int (nI w)] [xMod b th tc rc, xArr (t 0) (b 1) 120 (mkM F T L Z)]) (xQr (.int (mkM F T L Z (4 * r + w)))) 0 0 (fun _ => False) := by
  refine Met.ofW (cc := cX1_ro) (maxL := 3) (ret := (some .int)) (by decide) rfl ?_
  intro p e s m args below meth c s₁ hB9 hml hv
  obtain ⟨rfl, hP, hK⟩ := hv
  have hx := hB9.exec
  have hb := hB9.bytes
  have hr := hB9.returns
  have hts := atoms_spec (ws := wsX1_ro) hB9.pre
  have hown : s.vm.findClass RX1 = some m.cls := findClass_of_methodNamed hB9.named
  have hlocks := hB9.notSynchronized
  have hin : ∀ w ∈ wsX10, w ∈ wsX1_ro := fun _ h => List.mem_cons_of_mem _ (List.mem_append_right _ h)
  have fl_9 := hts (.fieldLink RX1 9 "RopeTimesModel" "rows" "[I") (by decide +kernel)
  have hl := lv_entry ([.ref (b 0), .int (nI r), .int (nI w)]) (n := 3) (Nat.le_of_ble_eq_true rfl)
  rw [lg_entry_eq]
  generalize (lg_sl ([.ref (b 0), .int (nI r), .int (nI w)]) ++ List.replicate (3 - (lg_sl ([.ref (b 0), .int (nI r), .int (nI w)])).length) Slot.unset).toArray = ls at hl ⊢
  have hl : lv_has ls 3 [(0, .ref (b 0)), (1, .int (nI r)), (2, .int (nI w))] := hl
  refine lv_aload_n hx hb dX1_ro_0 rfl (lv_at hl 0 rfl) ?_
  refine x1_get (v := .ref (b 1)) hx hb hts hin hown hK hP 0 rfl 3 (by decide) fl_9 rfl dX1_ro_1 rfl ?_
  refine lv_iconst (v := 4) hx hb dX1_ro_4 (by decide) ?_
  refine lv_iload_n hx hb dX1_ro_5 rfl (lv_at hl 1 rfl) ?_
  refine lv_imul (x := 4) (y := nI r) hx hb dX1_ro_6 ?_
  refine x_top (w := nI (4 * r)) (pk_mul 4 r) ?_
  refine lv_iload_n hx hb dX1_ro_7 rfl (lv_at hl 2 rfl) ?_
  refine lv_iadd (x := nI (4 * r)) (y := nI w) hx hb dX1_ro_8 ?_
  refine x_top (w := nI (4 * r + w)) (nI_add (4 * r) w) ?_
  refine x_iald (f := mkM F T L Z) hx hb hK hP 1 0 rfl rfl (k := 4 * r + w) (by omega) (Nat.le_of_ble_eq_true rfl) dX1_ro_9 ?_
  exact x_iret (v := (mkM F T L Z) (4 * r + w)) hx hb hr hlocks rfl dX1_ro_10
set_option maxHeartbeats 4000000 in
set_option maxRecDepth 100000 in
theorem c_X1_isTied (l : Launch) (D : va_G) (t : Nat → ClassId) (b : Nat → Nat) (th : Int32) (tc rc : Nat) (F T : Nat → Nat) (L : Nat → Int32) (Z : Nat → Bool) (r : Nat) (hr9 : r < 30) : Met l yX1_isTied wsX1_isTied ({ frames := 1, cells := 0, slots := 0, locals := 22 }) (xRo D (xTy t) [.ref (b 0), .int (nI r)] [xMod b th tc rc, xArr (t 0) (b 1) 120 (mkM F T L Z)]) (xQr (.int (bI (Z r)))) 0 0 (fun _ => False) := by
  refine Met.ofW (cc := cX1_isTied) (maxL := 2) (ret := (some .boolean)) (by decide) rfl ?_
  intro p e s m args below meth c s₁ hB9 hml hv
  obtain ⟨rfl, hP, hK⟩ := hv
  have hx := hB9.exec
  have hb := hB9.bytes
  have hr := hB9.returns
  have hts := atoms_spec (ws := wsX1_isTied) hB9.pre
  have hown : s.vm.findClass RX1 = some m.cls := findClass_of_methodNamed hB9.named
  have hlocks := hB9.notSynchronized
  have hin : ∀ w ∈ wsX10, w ∈ wsX1_isTied := fun _ h => List.mem_cons_of_mem _ (List.mem_append_right _ h)
  have hl := lv_entry ([.ref (b 0), .int (nI r)]) (n := 2) (Nat.le_of_ble_eq_true rfl)
  rw [lg_entry_eq]
  generalize (lg_sl ([.ref (b 0), .int (nI r)]) ++ List.replicate (2 - (lg_sl ([.ref (b 0), .int (nI r)])).length) Slot.unset).toArray = ls at hl ⊢
  have hl : lv_has ls 2 [(0, .ref (b 0)), (1, .int (nI r))] := hl
  refine lv_aload_n hx hb dX1_isTied_0 rfl (lv_at hl 0 rfl) ?_
  refine lv_iload_n hx hb dX1_isTied_1 rfl (lv_at hl 1 rfl) ?_
  refine lv_iconst (v := 3) hx hb dX1_isTied_2 (by decide) ?_
  refine xr_V (b := b 0) (As := [.int (nI r), .int 3]) (rest := []) ⟨hx, hb, hml, hown, hts⟩ (c_X1_ro l D t b th tc rc F T L Z r 3 (by omega) (Nat.le_of_ble_eq_true rfl)) (cwV 2 hts gX1_isTied_X1_ro rfl rfl rfl hd_X1_ro ⟨Nat.le_of_ble_eq_true rfl, Nat.le_of_ble_eq_true rfl⟩) hK hP (va_recv hK hP (ci := 1) (q0 := 0) rfl rfl) [0, 1] rfl rfl hl.1 rfl (Nat.le_of_ble_eq_true rfl) dX1_isTied_3 ⟨(Nat.le_of_ble_eq_true rfl), (Nat.le_of_ble_eq_true rfl)⟩ ?_
  refine x_top (w := bI (Z r)) (mkM_3 _ _ _ _ r) ?_
  refine lv_iconst (v := 1) hx hb dX1_isTied_6 (by decide) ?_
  refine lv_icmp_ne (x := bI (Z r)) (y := 1) (tgt := 14) hx hb dX1_isTied_7 (by decide) (fun c_1 => ?_) (fun c_1 => ?_)
  · have c_1 := bI_n1 c_1
    refine lv_iconst (v := 0) hx hb dX1_isTied_14 (by decide) ?_
    exact x_zret (v := 0) hx hb hr hlocks (by simp [bI, c_1]) dX1_isTied_15
  · have c_1 := bI_1 c_1
    refine lv_iconst (v := 1) hx hb dX1_isTied_10 (by decide) ?_
    refine lv_goto (tgt := 15) hx hb dX1_isTied_11 (by decide) ?_
    exact x_zret (v := 1) hx hb hr hlocks (by simp [bI, c_1]) dX1_isTied_15
set_option maxHeartbeats 4000000 in
set_option maxRecDepth 100000 in
theorem c_X1_isFound (l : Launch) (D : va_G) (t : Nat → ClassId) (b : Nat → Nat) (th : Int32) (tc rc : Nat) (q : Nat) (E : Nat → Int32) : Met l yX1_isFound wsX1_isFound ({ frames := 0, cells := 0, slots := 0, locals := 0 }) (xRo D (xTy t) [.ref (b 0), .ref q] [xMod b th tc rc, xArr (t 0) q 13 E]) (xQr (.int (bI (decide (¬ E 12 = -1))))) 0 0 (fun _ => False) := by
  refine Met.ofW (cc := cX1_isFound) (maxL := 2) (ret := (some .boolean)) (by decide) rfl ?_
  intro p e s m args below meth c s₁ hB9 hml hv
  obtain ⟨rfl, hP, hK⟩ := hv
  have hx := hB9.exec
  have hb := hB9.bytes
  have hr := hB9.returns
  have hts := atoms_spec (ws := wsX1_isFound) hB9.pre
  have hown : s.vm.findClass RX1 = some m.cls := findClass_of_methodNamed hB9.named
  have hlocks := hB9.notSynchronized
  have hl := lv_entry ([.ref (b 0), .ref q]) (n := 2) (Nat.le_of_ble_eq_true rfl)
  rw [lg_entry_eq]
  generalize (lg_sl ([.ref (b 0), .ref q]) ++ List.replicate (2 - (lg_sl ([.ref (b 0), .ref q])).length) Slot.unset).toArray = ls at hl ⊢
  have hl : lv_has ls 2 [(0, .ref (b 0)), (1, .ref q)] := hl
  refine lv_aload_n hx hb dX1_isFound_0 rfl (lv_at hl 1 rfl) ?_
  refine lv_bipush (v := 12) hx hb dX1_isFound_1 (by decide) ?_
  refine x_iald (f := E) hx hb hK hP 1 0 rfl rfl (k := 12) (Nat.le_of_ble_eq_true rfl) (Nat.le_of_ble_eq_true rfl) dX1_isFound_3 ?_
  refine lv_iconst (v := (-1)) hx hb dX1_isFound_4 (by decide) ?_
  refine lv_icmp_eq (x := E 12) (y := (-1)) (tgt := 12) hx hb dX1_isFound_5 (by decide) (fun c_1 => ?_) (fun c_1 => ?_)
  · refine lv_iconst (v := 0) hx hb dX1_isFound_12 (by decide) ?_
    exact x_zret (v := 0) hx hb hr hlocks (by simp [bI, c_1]) dX1_isFound_13
  · refine lv_iconst (v := 1) hx hb dX1_isFound_8 (by decide) ?_
    refine lv_goto (tgt := 13) hx hb dX1_isFound_9 (by decide) ?_
    exact x_zret (v := 1) hx hb hr hlocks (by simp [bI, c_1]) dX1_isFound_13
set_option maxHeartbeats 4000000 in
set_option maxRecDepth 100000 in
theorem c_X1_last (l : Launch) (D : va_G) (t : Nat → ClassId) (b : Nat → Nat) (th : Int32) (tc rc : Nat) (q : Nat) (E : Nat → Int32) (htc : tc ≤ 12) : Met l yX1_last wsX1_last ({ frames := 1, cells := 0, slots := 0, locals := 21 }) (xRo D (xTy t) [.ref (b 0), .ref q] [xMod b th tc rc, xArr (t 0) q 13 E]) (xQr (.int (lastF E tc 0 0))) 0 0 (fun _ => False) := by
  refine Met.ofW (cc := cX1_last) (maxL := 4) (ret := (some .int)) (by decide) rfl ?_
  intro p e s m args below meth c s₁ hB9 hml hv
  obtain ⟨rfl, hP, hK⟩ := hv
  have hx := hB9.exec
  have hb := hB9.bytes
  have hr := hB9.returns
  have hts := atoms_spec (ws := wsX1_last) hB9.pre
  have hown : s.vm.findClass RX1 = some m.cls := findClass_of_methodNamed hB9.named
  have hlocks := hB9.notSynchronized
  have hin : ∀ w ∈ wsX10, w ∈ wsX1_last := fun _ h => List.mem_cons_of_mem _ (List.mem_append_right _ h)
  have fl_17 := hts (.fieldLink RX1 17 "RopeTimesModel" "turns" "I") (by decide +kernel)
  have ml_43 := hts (.methodLink RX1 43 Lib.Math.max.name) (by decide +kernel)
  have ms_max := hts (.static Lib.Math.max.name) (by decide +kernel)
  have mc_max := hts (.code Lib.Math.max.name Lib.Math.max.code 2 (some .int)) (by decide +kernel)
  have mi_Math := hts (.initialized "java/lang/Math") (by decide +kernel)
  have hl := lv_entry ([.ref (b 0), .ref q]) (n := 4) (Nat.le_of_ble_eq_true rfl)
  rw [lg_entry_eq]
  generalize (lg_sl ([.ref (b 0), .ref q]) ++ List.replicate (4 - (lg_sl ([.ref (b 0), .ref q])).length) Slot.unset).toArray = ls at hl ⊢
  have hl : lv_has ls 4 [(0, .ref (b 0)), (1, .ref q)] := hl
  refine lv_iconst (v := 0) hx hb dX1_last_0 (by decide) ?_
  refine lv_istore_n (lv' := [(2, .int 0), (0, .ref (b 0)), (1, .ref q)]) hx hb dX1_last_1 rfl hl (by decide) rfl (fun ls hl => ?_)
  refine lv_iconst (v := 0) hx hb dX1_last_2 (by decide) ?_
  refine lv_istore_n (lv' := [(3, .int 0), (2, .int 0), (0, .ref (b 0)), (1, .ref q)]) hx hb dX1_last_3 rfl hl (by decide) rfl (fun ls hl => ?_)
  have lp_4 : ∀ (n4 : Nat) (i : Nat) (mx : Int32), i + n4 = tc → lastF E n4 i mx = lastF E tc 0 0 → ∀ ls : Array Slot, lv_has ls 4 [(3, .int (nI i)), (2, .int mx), (0, .ref (b 0)), (1, .ref q)] → W p l e (headSpec wsX1_last ({ frames := 1, cells := 0, slots := 0, locals := 21 } : Jvm.Room)).room s m (([.ref (b 0), .ref q] : List Value).toArray) below meth c s.heap [] 0 0 (MQ below (xQr (.int (lastF E tc 0 0))) (([.ref (b 0), .ref q] : List Value).toArray) s 0 0 (fun _ => False)) (F0 m 4 ls []) := by
    intro n4
    induction n4 using Nat.strongRecOn with
    | _ n4 ih_4 =>
      intro i mx hm_4 hfin_4 ls hl
      refine lv_iload_n hx hb dX1_last_4 rfl (lv_at hl 0 rfl) ?_
      refine lv_aload_n hx hb dX1_last_5 rfl (lv_at hl 2 rfl) ?_
      refine x1_get (v := .int (nI tc)) hx hb hts hin hown hK hP 0 rfl 1 (by decide) fl_17 rfl dX1_last_6 rfl ?_
      refine lv_icmp_ge (x := nI i) (y := nI tc) (tgt := 26) hx hb dX1_last_9 (by decide) (fun c_1 => ?_) (fun c_1 => ?_)
      · have c_1 := (nI_leI (a := tc) (b := i) (by omega) (by omega)).mp c_1
        have hn0_4 : n4 = 0 := by omega
        subst hn0_4
        obtain rfl : mx = lastF E tc 0 0 := hfin_4
        refine lv_iload_n hx hb dX1_last_26 rfl (lv_at hl 1 rfl) ?_
        exact x_iret (v := lastF E tc 0 0) hx hb hr hlocks rfl dX1_last_27
      · have c_1 : i < tc := Nat.lt_of_not_le (fun z9 => c_1 ((nI_leI (a := tc) (b := i) (by omega) (by omega)).mpr z9))
        obtain ⟨n49, rfl⟩ : ∃ z, n4 = z + 1 := ⟨n4 - 1, by omega⟩
        refine lv_iload_n hx hb dX1_last_12 rfl (lv_at hl 1 rfl) ?_
        refine lv_aload_n hx hb dX1_last_13 rfl (lv_at hl 3 rfl) ?_
        refine lv_iload_n hx hb dX1_last_14 rfl (lv_at hl 0 rfl) ?_
        refine x_iald (f := E) hx hb hK hP 1 0 rfl rfl (k := i) (by omega) (Nat.le_of_ble_eq_true rfl) dX1_last_15 ?_
        refine va_mmax (x := mx) (y := E i) hx hb (hml.trans hl.1.symm) hown ml_43 ms_max mi_Math mc_max (Nat.le_of_ble_eq_true rfl) (Nat.le_of_ble_eq_true rfl) (Nat.le_of_ble_eq_true rfl) (Nat.le_of_ble_eq_true rfl) dX1_last_16 ?_
        refine x_top (w := mxI mx (E i)) rfl ?_
        refine lv_istore_n (lv' := [(2, .int (mxI mx (E i))), (3, .int (nI i)), (0, .ref (b 0)), (1, .ref q)]) hx hb dX1_last_19 rfl hl (by decide) rfl (fun ls hl => ?_)
        refine lv_iinc (v := nI (i + 1)) (lv' := [(3, .int (nI (i + 1))), (2, .int (mxI mx (E i))), (0, .ref (b 0)), (1, .ref q)]) hx hb dX1_last_20 hl (k := 1) rfl (x_inc _) (by decide) rfl (fun ls hl => ?_)
        refine lv_goto (tgt := 4) hx hb dX1_last_23 (by decide) ?_
        exact ih_4 n49 (by omega) (i + 1) (mxI mx (E i)) (by omega) (by rw [← hfin_4]; rfl) _ (lv_sub hl [0, 1, 2, 3] rfl)
  exact lp_4 tc 0 0 (by omega) rfl _ (lv_sub hl [0, 1, 2, 3] rfl)
set_option maxHeartbeats 4000000 in
set_option maxRecDepth 100000 in
theorem c_X1_isTight (l : Launch) (D : va_G) (t : Nat → ClassId) (b : Nat → Nat) (th : Int32) (tc rc : Nat) (F T : Nat → Nat) (L : Nat → Int32) (Z : Nat → Bool) (q : Nat) (E : Nat → Int32) (r : Nat) (htc : tc ≤ 12) (hrc : rc ≤ 30) (hF : ∀ r, r < rc → F r < tc ∧ T r < tc) (hr9 : r < rc) : Met l yX1_isTight wsX1_isTight ({ frames := 2, cells := 0, slots := 0, locals := 43 }) (xRo D (xTy t) [.ref (b 0), .int (nI r), .ref q] [xMod b th tc rc, xArr (t 0) (b 1) 120 (mkM F T L Z), xArr (t 0) q 13 E]) (xQr (.int (bI (tightB (E 12) E F T L Z r)))) 0 0 (fun _ => False) := by
  refine Met.ofW (cc := cX1_isTight) (maxL := 3) (ret := (some .boolean)) (by decide) rfl ?_
  intro p e s m args below meth c s₁ hB9 hml hv
  obtain ⟨rfl, hP, hK⟩ := hv
  have hx := hB9.exec
  have hb := hB9.bytes
  have hr := hB9.returns
  have hts := atoms_spec (ws := wsX1_isTight) hB9.pre
  have hown : s.vm.findClass RX1 = some m.cls := findClass_of_methodNamed hB9.named
  have hlocks := hB9.notSynchronized
  have hin : ∀ w ∈ wsX10, w ∈ wsX1_isTight := fun _ h => List.mem_cons_of_mem _ (List.mem_append_right _ h)
  have hl := lv_entry ([.ref (b 0), .int (nI r), .ref q]) (n := 3) (Nat.le_of_ble_eq_true rfl)
  rw [lg_entry_eq]
  generalize (lg_sl ([.ref (b 0), .int (nI r), .ref q]) ++ List.replicate (3 - (lg_sl ([.ref (b 0), .int (nI r), .ref q])).length) Slot.unset).toArray = ls at hl ⊢
  have hl : lv_has ls 3 [(0, .ref (b 0)), (1, .int (nI r)), (2, .ref q)] := hl
  refine lv_aload_n hx hb dX1_isTight_0 rfl (lv_at hl 0 rfl) ?_
  refine lv_iload_n hx hb dX1_isTight_1 rfl (lv_at hl 1 rfl) ?_
  refine xr_V (b := b 0) (As := [.int (nI r)]) (rest := []) ⟨hx, hb, hml, hown, hts⟩ (c_X1_isTied l D t b th tc rc F T L Z r (by omega)) (cwV 1 hts gX1_isTight_X1_isTied rfl rfl rfl hd_X1_isTied ⟨Nat.le_of_ble_eq_true rfl, Nat.le_of_ble_eq_true rfl⟩) hK hP (va_recv hK hP (ci := 1) (q0 := 0) rfl rfl) [0, 1] rfl rfl hl.1 rfl (Nat.le_of_ble_eq_true rfl) dX1_isTight_2 ⟨(Nat.le_of_ble_eq_true rfl), (Nat.le_of_ble_eq_true rfl)⟩ ?_
  refine lv_if_eq (x := bI (Z r)) (tgt := 46) hx hb dX1_isTight_5 (by decide) (fun c_1 => ?_) (fun c_1 => ?_)
  · have c_1 := bI_0 c_1
    refine lv_iconst (v := 0) hx hb dX1_isTight_46 (by decide) ?_
    exact x_zret (v := 0) hx hb hr hlocks (by simp_all [tightB, bI]) dX1_isTight_47
  · have c_1 := bI_n0 c_1
    refine lv_aload_n hx hb dX1_isTight_8 rfl (lv_at hl 0 rfl) ?_
    refine lv_aload_n hx hb dX1_isTight_9 rfl (lv_at hl 2 rfl) ?_
    refine xr_V (b := b 0) (As := [.ref q]) (rest := []) ⟨hx, hb, hml, hown, hts⟩ (c_X1_isFound l D t b th tc rc q E) (cwV 1 hts gX1_isTight_X1_isFound rfl rfl rfl hd_X1_isFound ⟨Nat.le_of_ble_eq_true rfl, Nat.le_of_ble_eq_true rfl⟩) hK hP (va_recv hK hP (ci := 1) (q0 := 0) rfl rfl) [0, 2] rfl rfl hl.1 rfl (Nat.le_of_ble_eq_true rfl) dX1_isTight_10 ⟨(Nat.le_of_ble_eq_true rfl), (Nat.le_of_ble_eq_true rfl)⟩ ?_
    refine lv_if_eq (x := bI (decide (¬ E 12 = -1))) (tgt := 46) hx hb dX1_isTight_13 (by decide) (fun c_2 => ?_) (fun c_2 => ?_)
    · have c_2 := Classical.not_not.mp (of_decide_eq_false (bI_0 c_2))
      refine lv_iconst (v := 0) hx hb dX1_isTight_46 (by decide) ?_
      exact x_zret (v := 0) hx hb hr hlocks (by simp_all [tightB, bI]) dX1_isTight_47
    · have c_2 := of_decide_eq_true (bI_n0 c_2)
      refine lv_aload_n hx hb dX1_isTight_16 rfl (lv_at hl 2 rfl) ?_
      refine lv_aload_n hx hb dX1_isTight_17 rfl (lv_at hl 0 rfl) ?_
      refine lv_iload_n hx hb dX1_isTight_18 rfl (lv_at hl 1 rfl) ?_
      refine lv_iconst (v := 1) hx hb dX1_isTight_19 (by decide) ?_
      refine xr_V (b := b 0) (As := [.int (nI r), .int 1]) (rest := [.ref q]) ⟨hx, hb, hml, hown, hts⟩ (c_X1_ro l D t b th tc rc F T L Z r 1 (by omega) (Nat.le_of_ble_eq_true rfl)) (cwV 2 hts gX1_isTight_X1_ro rfl rfl rfl hd_X1_ro ⟨Nat.le_of_ble_eq_true rfl, Nat.le_of_ble_eq_true rfl⟩) hK hP (va_recv hK hP (ci := 1) (q0 := 0) rfl rfl) [0, 1] rfl rfl hl.1 rfl (Nat.le_of_ble_eq_true rfl) dX1_isTight_20 ⟨(Nat.le_of_ble_eq_true rfl), (Nat.le_of_ble_eq_true rfl)⟩ ?_
      refine x_top (w := nI (T r)) (mkM_1 _ _ _ _ r) ?_
      have := hF r (by omega)
      refine x_iald (f := E) hx hb hK hP 2 0 rfl rfl (k := T r) (by omega) (Nat.le_of_ble_eq_true rfl) dX1_isTight_23 ?_
      refine lv_aload_n hx hb dX1_isTight_24 rfl (lv_at hl 2 rfl) ?_
      refine lv_aload_n hx hb dX1_isTight_25 rfl (lv_at hl 0 rfl) ?_
      refine lv_iload_n hx hb dX1_isTight_26 rfl (lv_at hl 1 rfl) ?_
      refine lv_iconst (v := 0) hx hb dX1_isTight_27 (by decide) ?_
      refine xr_V (b := b 0) (As := [.int (nI r), .int 0]) (rest := [.ref q, .int (E (T r))]) ⟨hx, hb, hml, hown, hts⟩ (c_X1_ro l D t b th tc rc F T L Z r 0 (by omega) (Nat.le_of_ble_eq_true rfl)) (cwV 2 hts gX1_isTight_X1_ro rfl rfl rfl hd_X1_ro ⟨Nat.le_of_ble_eq_true rfl, Nat.le_of_ble_eq_true rfl⟩) hK hP (va_recv hK hP (ci := 1) (q0 := 0) rfl rfl) [0, 1] rfl rfl hl.1 rfl (Nat.le_of_ble_eq_true rfl) dX1_isTight_28 ⟨(Nat.le_of_ble_eq_true rfl), (Nat.le_of_ble_eq_true rfl)⟩ ?_
      refine x_top (w := nI (F r)) (mkM_0 _ _ _ _ r) ?_
      have := hF r (by omega)
      refine x_iald (f := E) hx hb hK hP 2 0 rfl rfl (k := F r) (by omega) (Nat.le_of_ble_eq_true rfl) dX1_isTight_31 ?_
      refine lv_aload_n hx hb dX1_isTight_32 rfl (lv_at hl 0 rfl) ?_
      refine lv_iload_n hx hb dX1_isTight_33 rfl (lv_at hl 1 rfl) ?_
      refine lv_iconst (v := 2) hx hb dX1_isTight_34 (by decide) ?_
      refine xr_V (b := b 0) (As := [.int (nI r), .int 2]) (rest := [.int (E (F r)), .int (E (T r))]) ⟨hx, hb, hml, hown, hts⟩ (c_X1_ro l D t b th tc rc F T L Z r 2 (by omega) (Nat.le_of_ble_eq_true rfl)) (cwV 2 hts gX1_isTight_X1_ro rfl rfl rfl hd_X1_ro ⟨Nat.le_of_ble_eq_true rfl, Nat.le_of_ble_eq_true rfl⟩) hK hP (va_recv hK hP (ci := 1) (q0 := 0) rfl rfl) [0, 1] rfl rfl hl.1 rfl (Nat.le_of_ble_eq_true rfl) dX1_isTight_35 ⟨(Nat.le_of_ble_eq_true rfl), (Nat.le_of_ble_eq_true rfl)⟩ ?_
      refine x_top (w := L r) (mkM_2 _ _ _ _ r) ?_
      refine lv_iadd (x := E (F r)) (y := L r) hx hb dX1_isTight_38 ?_
      refine lv_icmp_ne (x := E (T r)) (y := (E (F r)) + (L r)) (tgt := 46) hx hb dX1_isTight_39 (by decide) (fun c_3 => ?_) (fun c_3 => ?_)
      · refine lv_iconst (v := 0) hx hb dX1_isTight_46 (by decide) ?_
        exact x_zret (v := 0) hx hb hr hlocks (by simp_all [tightB, bI]) dX1_isTight_47
      · refine lv_iconst (v := 1) hx hb dX1_isTight_42 (by decide) ?_
        refine lv_goto (tgt := 47) hx hb dX1_isTight_43 (by decide) ?_
        exact x_zret (v := 1) hx hb hr hlocks (by simp_all [tightB, bI]) dX1_isTight_47
set_option maxHeartbeats 4000000 in
set_option maxRecDepth 100000 in
theorem c_X1_ropeTold (l : Launch) (D : va_G) (t : Nat → ClassId) (b : Nat → Nat) (th : Int32) (tc rc : Nat) (F T : Nat → Nat) (L : Nat → Int32) (Z : Nat → Bool) (q : Nat) (E : Nat → Int32) (r w : Nat) (htc : tc ≤ 12) (hrc : rc ≤ 30) (hF : ∀ r, r < rc → F r < tc ∧ T r < tc) (hr9 : r < rc) (hw9 : w < 5) : Met l yX1_ropeTold wsX1_ropeTold ({ frames := 3, cells := 0, slots := 0, locals := 65 }) (xRo D (xTy t) [.ref (b 0), .int (nI r), .int (nI w), .ref q] [xMod b th tc rc, xArr (t 0) (b 1) 120 (mkM F T L Z), xArr (t 0) q 13 E]) (xQr (.int (toldF (E 12) E F T L Z r w))) 0 0 (fun _ => False) := by
  refine Met.ofW (cc := cX1_ropeTold) (maxL := 4) (ret := (some .int)) (by decide) rfl ?_
  intro p e s m args below meth c s₁ hB9 hml hv
  obtain ⟨rfl, hP, hK⟩ := hv
  have hx := hB9.exec
  have hb := hB9.bytes
  have hr := hB9.returns
  have hts := atoms_spec (ws := wsX1_ropeTold) hB9.pre
  have hown : s.vm.findClass RX1 = some m.cls := findClass_of_methodNamed hB9.named
  have hlocks := hB9.notSynchronized
  have hin : ∀ w ∈ wsX10, w ∈ wsX1_ropeTold := fun _ h => List.mem_cons_of_mem _ (List.mem_append_right _ h)
  have hl := lv_entry ([.ref (b 0), .int (nI r), .int (nI w), .ref q]) (n := 4) (Nat.le_of_ble_eq_true rfl)
  rw [lg_entry_eq]
  generalize (lg_sl ([.ref (b 0), .int (nI r), .int (nI w), .ref q]) ++ List.replicate (4 - (lg_sl ([.ref (b 0), .int (nI r), .int (nI w), .ref q])).length) Slot.unset).toArray = ls at hl ⊢
  have hl : lv_has ls 4 [(0, .ref (b 0)), (1, .int (nI r)), (2, .int (nI w)), (3, .ref q)] := hl
  refine lv_iload_n hx hb dX1_ropeTold_0 rfl (lv_at hl 2 rfl) ?_
  refine lv_iconst (v := 4) hx hb dX1_ropeTold_1 (by decide) ?_
  refine lv_icmp_ge (x := nI w) (y := 4) (tgt := 14) hx hb dX1_ropeTold_2 (by decide) (fun c_1 => ?_) (fun c_1 => ?_)
  · have c_1 := (nI_leI (a := 4) (b := w) (by omega) (by omega)).mp c_1
    refine lv_aload_n hx hb dX1_ropeTold_14 rfl (lv_at hl 0 rfl) ?_
    refine lv_iload_n hx hb dX1_ropeTold_15 rfl (lv_at hl 1 rfl) ?_
    refine lv_aload_n hx hb dX1_ropeTold_16 rfl (lv_at hl 3 rfl) ?_
    refine xr_V (b := b 0) (As := [.int (nI r), .ref q]) (rest := []) ⟨hx, hb, hml, hown, hts⟩ (c_X1_isTight l D t b th tc rc F T L Z q E r (by omega) (by omega) hF (by omega)) (cwV 2 hts gX1_ropeTold_X1_isTight rfl rfl rfl hd_X1_isTight ⟨Nat.le_of_ble_eq_true rfl, Nat.le_of_ble_eq_true rfl⟩) hK hP (va_recv hK hP (ci := 1) (q0 := 0) rfl rfl) [0, 1, 2] rfl rfl hl.1 rfl (Nat.le_of_ble_eq_true rfl) dX1_ropeTold_17 ⟨(Nat.le_of_ble_eq_true rfl), (Nat.le_of_ble_eq_true rfl)⟩ ?_
    refine lv_if_eq (x := bI (tightB (E 12) E F T L Z r)) (tgt := 27) hx hb dX1_ropeTold_20 (by decide) (fun c_2 => ?_) (fun c_2 => ?_)
    · have c_2 := bI_0 c_2
      refine lv_iconst (v := 0) hx hb dX1_ropeTold_27 (by decide) ?_
      exact x_iret (v := 0) hx hb hr hlocks (by first | (simp [toldF, bI, c_1, Nat.not_lt.mpr c_1, c_2]; done) | exact told_lt F T L Z (E 12) E r w c_1 | exact told_4 F T L Z (E 12) E r w (by omega) (by omega) _ (by simp [bI, c_1, Nat.not_lt.mpr c_1, c_2])) dX1_ropeTold_28
    · have c_2 := bI_n0 c_2
      refine lv_iconst (v := 1) hx hb dX1_ropeTold_23 (by decide) ?_
      refine lv_goto (tgt := 28) hx hb dX1_ropeTold_24 (by decide) ?_
      exact x_iret (v := 1) hx hb hr hlocks (by first | (simp [toldF, bI, c_1, Nat.not_lt.mpr c_1, c_2]; done) | exact told_lt F T L Z (E 12) E r w c_1 | exact told_4 F T L Z (E 12) E r w (by omega) (by omega) _ (by simp [bI, c_1, Nat.not_lt.mpr c_1, c_2])) dX1_ropeTold_28
  · have c_1 : w < 4 := Nat.lt_of_not_le (fun z9 => c_1 ((nI_leI (a := 4) (b := w) (by omega) (by omega)).mpr z9))
    refine lv_aload_n hx hb dX1_ropeTold_5 rfl (lv_at hl 0 rfl) ?_
    refine lv_iload_n hx hb dX1_ropeTold_6 rfl (lv_at hl 1 rfl) ?_
    refine lv_iload_n hx hb dX1_ropeTold_7 rfl (lv_at hl 2 rfl) ?_
    refine xr_V (b := b 0) (As := [.int (nI r), .int (nI w)]) (rest := []) ⟨hx, hb, hml, hown, hts⟩ (c_X1_ro l D t b th tc rc F T L Z r w (by omega) (by omega)) (cwV 2 hts gX1_ropeTold_X1_ro rfl rfl rfl hd_X1_ro ⟨Nat.le_of_ble_eq_true rfl, Nat.le_of_ble_eq_true rfl⟩) hK hP (va_recv hK hP (ci := 1) (q0 := 0) rfl rfl) [0, 1] rfl rfl hl.1 rfl (Nat.le_of_ble_eq_true rfl) dX1_ropeTold_8 ⟨(Nat.le_of_ble_eq_true rfl), (Nat.le_of_ble_eq_true rfl)⟩ ?_
    refine lv_goto (tgt := 28) hx hb dX1_ropeTold_11 (by decide) ?_
    exact x_iret (v := mkM F T L Z (4 * r + w)) hx hb hr hlocks (by first | (simp [toldF, bI, c_1]; done) | exact told_lt F T L Z (E 12) E r w c_1 | exact told_4 F T L Z (E 12) E r w (by omega) (by omega) _ (by simp [bI, c_1])) dX1_ropeTold_28
set_option maxHeartbeats 4000000 in
set_option maxRecDepth 100000 in
theorem c_X1_turnTold (l : Launch) (D : va_G) (t : Nat → ClassId) (b : Nat → Nat) (th : Int32) (tc rc : Nat) (F T : Nat → Nat) (L : Nat → Int32) (Z : Nat → Bool) (q : Nat) (E : Nat → Int32) (v w : Nat) (htc : tc ≤ 12) (hrc : rc ≤ 30) (hF : ∀ r, r < rc → F r < tc ∧ T r < tc) (hv9 : v < tc) (hw9 : w < 3) : Met l yX1_turnTold wsX1_turnTold ({ frames := 2, cells := 0, slots := 0, locals := 43 }) (xRo D (xTy t) [.ref (b 0), .int (nI v), .int (nI w), .ref q] [xMod b th tc rc, xArr (t 0) (b 1) 120 (mkM F T L Z), xArr (t 0) q 13 E]) (xQr (.int (aboutF (E 12) E F T Z rc v w))) 0 0 (fun _ => False) := by
  refine Met.ofW (cc := cX1_turnTold) (maxL := 6) (ret := (some .int)) (by decide) rfl ?_
  intro p e s m args below meth c s₁ hB9 hml hv
  obtain ⟨rfl, hP, hK⟩ := hv
  have hx := hB9.exec
  have hb := hB9.bytes
  have hr := hB9.returns
  have hts := atoms_spec (ws := wsX1_turnTold) hB9.pre
  have hown : s.vm.findClass RX1 = some m.cls := findClass_of_methodNamed hB9.named
  have hlocks := hB9.notSynchronized
  have hin : ∀ w ∈ wsX10, w ∈ wsX1_turnTold := fun _ h => List.mem_cons_of_mem _ (List.mem_append_right _ h)
  have fl_24 := hts (.fieldLink RX1 24 "RopeTimesModel" "ropes" "I") (by decide +kernel)
  have hl := lv_entry ([.ref (b 0), .int (nI v), .int (nI w), .ref q]) (n := 6) (Nat.le_of_ble_eq_true rfl)
  rw [lg_entry_eq]
  generalize (lg_sl ([.ref (b 0), .int (nI v), .int (nI w), .ref q]) ++ List.replicate (6 - (lg_sl ([.ref (b 0), .int (nI v), .int (nI w), .ref q])).length) Slot.unset).toArray = ls at hl ⊢
  have hl : lv_has ls 6 [(0, .ref (b 0)), (1, .int (nI v)), (2, .int (nI w)), (3, .ref q)] := hl
  refine lv_iload_n hx hb dX1_turnTold_0 rfl (lv_at hl 2 rfl) ?_
  refine lv_iconst (v := 2) hx hb dX1_turnTold_1 (by decide) ?_
  refine lv_icmp_ne (x := nI w) (y := 2) (tgt := 21) hx hb dX1_turnTold_2 (by decide) (fun c_1 => ?_) (fun c_1 => ?_)
  · have c_1 : ¬ w = 2 := fun z9 => c_1 ((nI_eq (a := w) (b := 2) (by omega) (by omega)).mpr z9)
    refine lv_iconst (v := 0) hx hb dX1_turnTold_21 (by decide) ?_
    refine lv_istore (lv' := [(4, .int 0), (0, .ref (b 0)), (1, .int (nI v)), (2, .int (nI w)), (3, .ref q)]) hx hb dX1_turnTold_22 hl (by decide) rfl (fun ls hl => ?_)
    refine lv_iconst (v := 0) hx hb dX1_turnTold_24 (by decide) ?_
    refine lv_istore (lv' := [(5, .int 0), (4, .int 0), (0, .ref (b 0)), (1, .int (nI v)), (2, .int (nI w)), (3, .ref q)]) hx hb dX1_turnTold_25 hl (by decide) rfl (fun ls hl => ?_)
    have lp_27 : ∀ (n27 : Nat) (i : Nat) (k : Nat), i + n27 = rc → countF (fun r => Z r && decide (mkM F T L Z (4 * r + w) = nI v)) n27 i k = countF (fun r => Z r && decide (mkM F T L Z (4 * r + w) = nI v)) rc 0 0 → ∀ ls : Array Slot, lv_has ls 6 [(5, .int (nI i)), (4, .int (nI k)), (0, .ref (b 0)), (1, .int (nI v)), (2, .int (nI w)), (3, .ref q)] → W p l e (headSpec wsX1_turnTold ({ frames := 2, cells := 0, slots := 0, locals := 43 } : Jvm.Room)).room s m (([.ref (b 0), .int (nI v), .int (nI w), .ref q] : List Value).toArray) below meth c s.heap [] 0 0 (MQ below (xQr (.int (aboutF (E 12) E F T Z rc v w))) (([.ref (b 0), .int (nI v), .int (nI w), .ref q] : List Value).toArray) s 0 0 (fun _ => False)) (F0 m 27 ls []) := by
      intro n27
      induction n27 using Nat.strongRecOn with
      | _ n27 ih_27 =>
        intro i k hm_27 hfin_27 ls hl
        refine lv_iload hx hb dX1_turnTold_27 (lv_at hl 0 rfl) ?_
        refine lv_aload_n hx hb dX1_turnTold_29 rfl (lv_at hl 2 rfl) ?_
        refine x1_get (v := .int (nI rc)) hx hb hts hin hown hK hP 0 rfl 2 (by decide) fl_24 rfl dX1_turnTold_30 rfl ?_
        refine lv_icmp_ge (x := nI i) (y := nI rc) (tgt := 72) hx hb dX1_turnTold_33 (by decide) (fun c_2 => ?_) (fun c_2 => ?_)
        · have c_2 := (nI_leI (a := rc) (b := i) (by omega) (by omega)).mp c_2
          have hn0_27 : n27 = 0 := by omega
          subst hn0_27
          obtain rfl : k = countF (fun r => Z r && decide (mkM F T L Z (4 * r + w) = nI v)) rc 0 0 := hfin_27
          refine lv_iload hx hb dX1_turnTold_72 (lv_at hl 1 rfl) ?_
          exact x_iret (v := nI (countF (fun r => Z r && decide (mkM F T L Z (4 * r + w) = nI v)) rc 0 0)) hx hb hr hlocks (about_lt F T L Z (E 12) E v w rc tc (by omega) (by omega) hF (by omega) (by omega)) dX1_turnTold_74
        · have c_2 : i < rc := Nat.lt_of_not_le (fun z9 => c_2 ((nI_leI (a := rc) (b := i) (by omega) (by omega)).mpr z9))
          obtain ⟨n279, rfl⟩ : ∃ z, n27 = z + 1 := ⟨n27 - 1, by omega⟩
          refine lv_iload hx hb dX1_turnTold_36 (lv_at hl 1 rfl) ?_
          refine lv_aload_n hx hb dX1_turnTold_38 rfl (lv_at hl 2 rfl) ?_
          refine lv_iload hx hb dX1_turnTold_39 (lv_at hl 0 rfl) ?_
          refine xr_V (b := b 0) (As := [.int (nI i)]) (rest := [.int (nI k)]) ⟨hx, hb, hml, hown, hts⟩ (c_X1_isTied l D t b th tc rc F T L Z i (by omega)) (cwV 1 hts gX1_turnTold_X1_isTied rfl rfl rfl hd_X1_isTied ⟨Nat.le_of_ble_eq_true rfl, Nat.le_of_ble_eq_true rfl⟩) hK hP (va_recv hK hP (ci := 1) (q0 := 0) rfl rfl) [0, 1] rfl rfl hl.1 rfl (Nat.le_of_ble_eq_true rfl) dX1_turnTold_41 ⟨(Nat.le_of_ble_eq_true rfl), (Nat.le_of_ble_eq_true rfl)⟩ ?_
          refine lv_if_eq (x := bI (Z i)) (tgt := 62) hx hb dX1_turnTold_44 (by decide) (fun c_3 => ?_) (fun c_3 => ?_)
          · have c_3 := bI_0 c_3
            refine lv_iconst (v := 0) hx hb dX1_turnTold_62 (by decide) ?_
            refine lv_iadd (x := nI k) (y := 0) hx hb dX1_turnTold_63 ?_
            refine x_top (w := nI (k + 0)) (nI_add k 0) ?_
            refine lv_istore (lv' := [(4, .int (nI (k + 0))), (5, .int (nI i)), (0, .ref (b 0)), (1, .int (nI v)), (2, .int (nI w)), (3, .ref q)]) hx hb dX1_turnTold_64 hl (by decide) rfl (fun ls hl => ?_)
            refine lv_iinc (v := nI (i + 1)) (lv' := [(5, .int (nI (i + 1))), (4, .int (nI (k + 0))), (0, .ref (b 0)), (1, .int (nI v)), (2, .int (nI w)), (3, .ref q)]) hx hb dX1_turnTold_66 hl (k := 1) rfl (x_inc _) (by decide) rfl (fun ls hl => ?_)
            refine lv_goto (tgt := 27) hx hb dX1_turnTold_69 (by decide) ?_
            exact ih_27 n279 (by omega) (i + 1) (k + 0) (by omega) (by rw [← hfin_27]; simp [countF, c_1, c_2, c_3]) _ (lv_sub hl [0, 1, 2, 3, 4, 5] rfl)
          · have c_3 := bI_n0 c_3
            refine lv_aload_n hx hb dX1_turnTold_47 rfl (lv_at hl 2 rfl) ?_
            refine lv_iload hx hb dX1_turnTold_48 (lv_at hl 0 rfl) ?_
            refine lv_iload_n hx hb dX1_turnTold_50 rfl (lv_at hl 4 rfl) ?_
            refine xr_V (b := b 0) (As := [.int (nI i), .int (nI w)]) (rest := [.int (nI k)]) ⟨hx, hb, hml, hown, hts⟩ (c_X1_ro l D t b th tc rc F T L Z i w (by omega) (by omega)) (cwV 2 hts gX1_turnTold_X1_ro rfl rfl rfl hd_X1_ro ⟨Nat.le_of_ble_eq_true rfl, Nat.le_of_ble_eq_true rfl⟩) hK hP (va_recv hK hP (ci := 1) (q0 := 0) rfl rfl) [0, 1] rfl rfl hl.1 rfl (Nat.le_of_ble_eq_true rfl) dX1_turnTold_51 ⟨(Nat.le_of_ble_eq_true rfl), (Nat.le_of_ble_eq_true rfl)⟩ ?_
            refine lv_iload_n hx hb dX1_turnTold_54 rfl (lv_at hl 3 rfl) ?_
            refine lv_icmp_ne (x := mkM F T L Z (4 * i + w)) (y := nI v) (tgt := 62) hx hb dX1_turnTold_55 (by decide) (fun c_4 => ?_) (fun c_4 => ?_)
            · refine lv_iconst (v := 0) hx hb dX1_turnTold_62 (by decide) ?_
              refine lv_iadd (x := nI k) (y := 0) hx hb dX1_turnTold_63 ?_
              refine x_top (w := nI (k + 0)) (nI_add k 0) ?_
              refine lv_istore (lv' := [(4, .int (nI (k + 0))), (5, .int (nI i)), (0, .ref (b 0)), (1, .int (nI v)), (2, .int (nI w)), (3, .ref q)]) hx hb dX1_turnTold_64 hl (by decide) rfl (fun ls hl => ?_)
              refine lv_iinc (v := nI (i + 1)) (lv' := [(5, .int (nI (i + 1))), (4, .int (nI (k + 0))), (0, .ref (b 0)), (1, .int (nI v)), (2, .int (nI w)), (3, .ref q)]) hx hb dX1_turnTold_66 hl (k := 1) rfl (x_inc _) (by decide) rfl (fun ls hl => ?_)
              refine lv_goto (tgt := 27) hx hb dX1_turnTold_69 (by decide) ?_
              exact ih_27 n279 (by omega) (i + 1) (k + 0) (by omega) (by rw [← hfin_27]; simp [countF, c_1, c_2, c_3, c_4]) _ (lv_sub hl [0, 1, 2, 3, 4, 5] rfl)
            · refine lv_iconst (v := 1) hx hb dX1_turnTold_58 (by decide) ?_
              refine lv_goto (tgt := 63) hx hb dX1_turnTold_59 (by decide) ?_
              refine lv_iadd (x := nI k) (y := 1) hx hb dX1_turnTold_63 ?_
              refine x_top (w := nI (k + 1)) (nI_add k 1) ?_
              refine lv_istore (lv' := [(4, .int (nI (k + 1))), (5, .int (nI i)), (0, .ref (b 0)), (1, .int (nI v)), (2, .int (nI w)), (3, .ref q)]) hx hb dX1_turnTold_64 hl (by decide) rfl (fun ls hl => ?_)
              refine lv_iinc (v := nI (i + 1)) (lv' := [(5, .int (nI (i + 1))), (4, .int (nI (k + 1))), (0, .ref (b 0)), (1, .int (nI v)), (2, .int (nI w)), (3, .ref q)]) hx hb dX1_turnTold_66 hl (k := 1) rfl (x_inc _) (by decide) rfl (fun ls hl => ?_)
              refine lv_goto (tgt := 27) hx hb dX1_turnTold_69 (by decide) ?_
              exact ih_27 n279 (by omega) (i + 1) (k + 1) (by omega) (by rw [← hfin_27]; simp [countF, c_1, c_2, c_3, c_4]) _ (lv_sub hl [0, 1, 2, 3, 4, 5] rfl)
    exact lp_27 rc 0 0 (by omega) rfl _ (lv_sub hl [0, 1, 2, 3, 4, 5] rfl)
  · have c_1 := (nI_eq (a := w) (b := 2) (by omega) (by omega)).mp c_1
    refine lv_aload_n hx hb dX1_turnTold_5 rfl (lv_at hl 0 rfl) ?_
    refine lv_aload_n hx hb dX1_turnTold_6 rfl (lv_at hl 3 rfl) ?_
    refine xr_V (b := b 0) (As := [.ref q]) (rest := []) ⟨hx, hb, hml, hown, hts⟩ (c_X1_isFound l D t b th tc rc q E) (cwV 1 hts gX1_turnTold_X1_isFound rfl rfl rfl hd_X1_isFound ⟨Nat.le_of_ble_eq_true rfl, Nat.le_of_ble_eq_true rfl⟩) hK hP (va_recv hK hP (ci := 1) (q0 := 0) rfl rfl) [0, 2] rfl rfl hl.1 rfl (Nat.le_of_ble_eq_true rfl) dX1_turnTold_7 ⟨(Nat.le_of_ble_eq_true rfl), (Nat.le_of_ble_eq_true rfl)⟩ ?_
    refine lv_if_eq (x := bI (decide (¬ E 12 = -1))) (tgt := 19) hx hb dX1_turnTold_10 (by decide) (fun c_5 => ?_) (fun c_5 => ?_)
    · have c_5 := Classical.not_not.mp (of_decide_eq_false (bI_0 c_5))
      refine lv_iconst (v := (-1)) hx hb dX1_turnTold_19 (by decide) ?_
      exact x_iret (v := (-1)) hx hb hr hlocks (by simp [aboutF, c_1, c_5]) dX1_turnTold_20
    · have c_5 := of_decide_eq_true (bI_n0 c_5)
      refine lv_aload_n hx hb dX1_turnTold_13 rfl (lv_at hl 3 rfl) ?_
      refine lv_iload_n hx hb dX1_turnTold_14 rfl (lv_at hl 1 rfl) ?_
      refine x_iald (f := E) hx hb hK hP 2 0 rfl rfl (k := v) (by omega) (Nat.le_of_ble_eq_true rfl) dX1_turnTold_15 ?_
      refine lv_goto (tgt := 20) hx hb dX1_turnTold_16 (by decide) ?_
      exact x_iret (v := E v) hx hb hr hlocks (by simp [aboutF, c_1, c_5]) dX1_turnTold_20
