theorem hd_X0_turn : yX0_turn.cls = RX0 ∧ yX0_turn.cls ≠ "java/lang/invoke/MethodHandle" ∧ yX0_turn.cls ≠ "java/lang/invoke/VarHandle" ∧ (parseMethodDescriptor yX0_turn.desc).map (fun d => d.parameters.length) = some 0 := by decide +kernel
theorem hd_X0_tie : yX0_tie.cls = RX0 ∧ yX0_tie.cls ≠ "java/lang/invoke/MethodHandle" ∧ yX0_tie.cls ≠ "java/lang/invoke/VarHandle" ∧ (parseMethodDescriptor yX0_tie.desc).map (fun d => d.parameters.length) = some 3 := by decide +kernel
theorem hd_X0_cut : yX0_cut.cls = RX0 ∧ yX0_cut.cls ≠ "java/lang/invoke/MethodHandle" ∧ yX0_cut.cls ≠ "java/lang/invoke/VarHandle" ∧ (parseMethodDescriptor yX0_cut.desc).map (fun d => d.parameters.length) = some 2 := by decide +kernel
theorem hd_X0_knot : yX0_knot.cls = RX0 ∧ yX0_knot.cls ≠ "java/lang/invoke/MethodHandle" ∧ yX0_knot.cls ≠ "java/lang/invoke/VarHandle" ∧ (parseMethodDescriptor yX0_knot.desc).map (fun d => d.parameters.length) = some 1 := by decide +kernel
theorem hd_X0_count : yX0_count.cls = RX0 ∧ yX0_count.cls ≠ "java/lang/invoke/MethodHandle" ∧ yX0_count.cls ≠ "java/lang/invoke/VarHandle" ∧ (parseMethodDescriptor yX0_count.desc).map (fun d => d.parameters.length) = some 1 := by decide +kernel
theorem hd_X0_advise : yX0_advise.cls = RX0 ∧ yX0_advise.cls ≠ "java/lang/invoke/MethodHandle" ∧ yX0_advise.cls ≠ "java/lang/invoke/VarHandle" ∧ (parseMethodDescriptor yX0_advise.desc).map (fun d => d.parameters.length) = some 0 := by decide +kernel
set_option maxHeartbeats 4000000 in
set_option maxRecDepth 100000 in
theorem c_X0_turn (l : Launch) (hfl : l.stackTraces = false) (D : va_G) (t : Nat → ClassId) (a : Nat → Nat) (tc rc : Nat) (ro : Int32) (F T : Nat → Nat) (L : Nat → Int32) (Z : Nat → Bool) (E B : Nat → Int32) (N0 : Nat) (sa : Nat → Nat) (sz : Nat) (htc : tc ≤ 12) (hrc : rc ≤ 30) (hF : ∀ r, r < rc → F r < tc ∧ T r < tc) : vx_Met l yX0_turn wsX0_turn ({ frames := 6, cells := 1, slots := 6, locals := 112 }) (xMu D (xTy t) (xTh N0 sa) [.ref (a 0)] [xObj a tc rc ro, xArr (t 0) (a 1) 30 (xN F), xArr (t 0) (a 2) 30 (xN T), xArr (t 0) (a 3) 30 L, xArr (t 1) (a 4) 30 (xB Z), xArr (t 0) (a 5) 12 E, xArr (t 0) (a 6) 144 B] sz) (xQm D (fun u : Unit => kTurn tc = 0) (fun u : Unit => some (.int (nI tc))) [xObj a tc rc ro, xArr (t 0) (a 1) 30 (xN F), xArr (t 0) (a 2) 30 (xN T), xArr (t 0) (a 3) 30 L, xArr (t 1) (a 4) 30 (xB Z), xArr (t 0) (a 5) 12 E, xArr (t 0) (a 6) 144 B] (fun u : Unit => [xObj a (tc + 1) rc (sRo F T L Z (tc + 1) rc E), xArr (t 0) (a 1) 30 (xN F), xArr (t 0) (a 2) 30 (xN T), xArr (t 0) (a 3) 30 L, xArr (t 1) (a 4) 30 (xB Z), xArr (t 0) (a 5) 12 (sE F T L Z (tc + 1) rc E), xArr (t 0) (a 6) 144 (sB F T L Z (tc + 1) rc E B)]) sz) (xXt (fun E7 => E7 = xE (kTurn tc) ∧ ¬ kTurn tc = 0)) 1 6 (va_A [xObj a tc rc ro, xArr (t 0) (a 1) 30 (xN F), xArr (t 0) (a 2) 30 (xN T), xArr (t 0) (a 3) 30 L, xArr (t 1) (a 4) 30 (xB Z), xArr (t 0) (a 5) 12 E, xArr (t 0) (a 6) 144 B] sz) := by
  refine vx_ofW (cc := cX0_turn) (maxL := 2) (ret := (some .int)) (by decide) rfl ?_
  intro p e s m args below meth c s₁ hB9 hml hte hv
  obtain ⟨rfl, hsz, hP, hK, hD0, hXX⟩ := hv
  have hx := hB9.exec
  have hb := hB9.bytes
  have hr := hB9.returns
  have hts := atoms_spec (ws := wsX0_turn) hB9.pre
  have hown : s.vm.findClass RX0 = some m.cls := findClass_of_methodNamed hB9.named
  have hlocks := hB9.notSynchronized
  have hin : ∀ w ∈ wsX00, w ∈ wsX0_turn := fun _ h => List.mem_cons_of_mem _ (List.mem_append_left _ (List.mem_append_right _ h))
  have fl_41 := hts (.fieldLink RX0 41 "RopeTimes" "turnCount" "I") (by decide +kernel)
  subst hsz
  have hD := hD0.self (sz := s.heap.size)
  generalize hAe : va_A ([xObj a tc rc ro, xArr (t 0) (a 1) 30 (xN F), xArr (t 0) (a 2) 30 (xN T), xArr (t 0) (a 3) 30 L, xArr (t 1) (a 4) 30 (xB Z), xArr (t 0) (a 5) 12 E, xArr (t 0) (a 6) 144 B]) s.heap.size = A at hD ⊢
  have hA : ∀ q : Nat, s.heap.size ≤ q → A q := fun q h => by rw [← hAe]; exact Or.inr h
  have hS : va_S A s.heap s.heap [] := va_S.rf
  have hP : va_P D vwCl ([xObj a tc rc ro, xArr (t 0) (a 1) 30 (xN F), xArr (t 0) (a 2) 30 (xN T), xArr (t 0) (a 3) 30 L, xArr (t 1) (a 4) 30 (xB Z), xArr (t 0) (a 5) 12 E, xArr (t 0) (a 6) 144 B]) s.heap := hP
  have hD : va_D A ([xObj a tc rc ro, xArr (t 0) (a 1) 30 (xN F), xArr (t 0) (a 2) 30 (xN T), xArr (t 0) (a 3) 30 L, xArr (t 1) (a 4) 30 (xB Z), xArr (t 0) (a 5) 12 E, xArr (t 0) (a 6) 144 B]) := hD
  have hl := lv_entry ([.ref (a 0)]) (n := 2) (Nat.le_of_ble_eq_true rfl)
  rw [lg_entry_eq]
  generalize (lg_sl ([.ref (a 0)]) ++ List.replicate (2 - (lg_sl ([.ref (a 0)])).length) Slot.unset).toArray = ls at hl ⊢
  have hl : lv_has ls 2 [(0, .ref (a 0))] := hl
  refine lv_aload_n hx hb dX0_turn_0 rfl (lv_at hl 0 rfl) ?_
  refine x0_get (v := .int (nI tc)) hx hb hts hin hown hK hP 0 rfl 0 (by decide) fl_41 rfl dX0_turn_1 rfl ?_
  refine lv_bipush (v := 12) hx hb dX0_turn_4 (by decide) ?_
  refine lv_icmp_lt (x := nI tc) (y := 12) (tgt := 19) hx hb dX0_turn_6 (by decide) (fun c_1 => ?_) (fun c_1 => ?_)
  · have c_1 := (nI_ltI (a := tc) (b := 12) (by omega) (by omega)).mp c_1
    refine lv_aload_n hx hb dX0_turn_19 rfl (lv_at hl 0 rfl) ?_
    refine x0_get (v := .int (nI tc)) hx hb hts hin hown hK hP 0 rfl 0 (by decide) fl_41 rfl dX0_turn_20 rfl ?_
    refine lv_istore_n (lv' := [(1, .int (nI tc)), (0, .ref (a 0))]) hx hb dX0_turn_23 rfl hl (by decide) rfl (fun ls hl => ?_)
    refine lv_aload_n hx hb dX0_turn_24 rfl (lv_at hl 1 rfl) ?_
    refine lv_dup hx hb dX0_turn_25 rfl ?_
    refine x0_get (v := .int (nI tc)) hx hb hts hin hown hK hP 0 rfl 0 (by decide) fl_41 rfl dX0_turn_26 rfl ?_
    refine lv_iconst (v := 1) hx hb dX0_turn_29 (by decide) ?_
    refine lv_iadd (x := nI tc) (y := 1) hx hb dX0_turn_30 ?_
    refine x_top (w := nI (tc + 1)) (nI_add tc 1) ?_
    refine x0_put (x := nI (tc + 1)) hx hb hts hin hown hK hP hD hS 0 ([xObj a (tc + 1) rc ro, xArr (t 0) (a 1) 30 (xN F), xArr (t 0) (a 2) 30 (xN T), xArr (t 0) (a 3) 30 L, xArr (t 1) (a 4) 30 (xB Z), xArr (t 0) (a 5) 12 E, xArr (t 0) (a 6) 144 B]) rfl 0 (by decide) fl_41 rfl rfl (Nat.le_of_ble_eq_true rfl) rfl dX0_turn_31 rfl (fun H locs hP hD hS => ?_)
    refine lv_aload_n hx hb dX0_turn_34 rfl (lv_at hl 1 rfl) ?_
    refine xm_V (b := a 0) (As := []) (rest := []) (wr := []) ⟨hx, hb, hml, hown, hts⟩ xTrav_T (c_X0_settle l D t a (tc + 1) rc ro F T L Z E B _ (by omega) (by omega) (okR_turn hF)) (cwV 0 hts gX0_turn_X0_settle rfl rfl rfl hd_X0_settle ⟨Nat.le_of_ble_eq_true rfl, Nat.le_of_ble_eq_true rfl⟩) hK hP hD hS hA (fun _ _ _ => trivial) (va_recv hK hP (ci := 0) (q0 := 0) rfl rfl) [0, 1, 2, 3, 4, 5, 6] [] rfl rfl (by decide) (by decide) (by decide) rfl hl.1 rfl (Nat.le_of_ble_eq_true rfl) dX0_turn_35 ⟨(Nat.le_of_ble_eq_true rfl), (Nat.le_of_ble_eq_true rfl)⟩ (fun u_2 H locs hu hP hD hS hz => ?_)
    have hP : va_P D vwCl ([xObj a (tc + 1) rc (sRo F T L Z (tc + 1) rc E), xArr (t 0) (a 1) 30 (xN F), xArr (t 0) (a 2) 30 (xN T), xArr (t 0) (a 3) 30 L, xArr (t 1) (a 4) 30 (xB Z), xArr (t 0) (a 5) 12 (sE F T L Z (tc + 1) rc E), xArr (t 0) (a 6) 144 (sB F T L Z (tc + 1) rc E B)]) H := hP
    have hD : va_D _ ([xObj a (tc + 1) rc (sRo F T L Z (tc + 1) rc E), xArr (t 0) (a 1) 30 (xN F), xArr (t 0) (a 2) 30 (xN T), xArr (t 0) (a 3) 30 L, xArr (t 1) (a 4) 30 (xB Z), xArr (t 0) (a 5) 12 (sE F T L Z (tc + 1) rc E), xArr (t 0) (a 6) 144 (sB F T L Z (tc + 1) rc E B)]) := hD
    refine lv_iload_n hx hb dX0_turn_38 rfl (lv_at hl 0 rfl) ?_
    subst hAe
    refine W.widen (k := 1) (n := 6) (Nat.le_of_ble_eq_true rfl) (Nat.le_of_ble_eq_true rfl) ?_
    refine vx_ret ?_
    obtain ⟨hq9, hf9⟩ := xm_end (S := Unit) (pu := (fun u : Unit => kTurn tc = 0)) (r := (fun u : Unit => some (.int (nI tc)))) (wc := [xObj a tc rc ro, xArr (t 0) (a 1) 30 (xN F), xArr (t 0) (a 2) 30 (xN T), xArr (t 0) (a 3) 30 L, xArr (t 1) (a 4) 30 (xB Z), xArr (t 0) (a 5) 12 E, xArr (t 0) (a 6) 144 B]) (w1 := (fun u : Unit => [xObj a (tc + 1) rc (sRo F T L Z (tc + 1) rc E), xArr (t 0) (a 1) 30 (xN F), xArr (t 0) (a 2) 30 (xN T), xArr (t 0) (a 3) 30 L, xArr (t 1) (a 4) 30 (xB Z), xArr (t 0) (a 5) 12 (sE F T L Z (tc + 1) rc E), xArr (t 0) (a 6) 144 (sB F T L Z (tc + 1) rc E B)])) (o := some (.int (nI tc))) (args := ([.ref (a 0)] : List Value).toArray) () rfl (by simp [kTurn, c_1]) rfl hP hD hS
    exact W.iret hx hb hr hq9 hf9 dX0_turn_39 hlocks
  · have c_1 : 12 ≤ tc := Nat.le_of_not_lt (fun z9 => c_1 ((nI_ltI (a := tc) (b := 12) (by omega) (by omega)).mpr z9))
    exact xt_throw (E := eIS) (text := (xSi 0).2) hx hb hfl hown (by decide +kernel) (hts (.classLink RX0 45 eIS) (by decide +kernel)) (hts (.initialized eIS) (by decide +kernel)) hXX (hXX.2.2.2 0) (xat_49 (fun w hw => hts w (List.mem_cons_of_mem _ (List.mem_append_right _ hw))) hXX) xgd_49 (hl.1.trans hml.symm) dX0_turn_9 dX0_turn_12 dX0_turn_13 dX0_turn_15 dX0_turn_18 hte (Nat.le_of_ble_eq_true rfl) (Nat.le_of_ble_eq_true rfl) (Nat.le_of_ble_eq_true rfl) (Nat.le_of_ble_eq_true rfl) hlocks ⟨by simp [kTurn, c_1, Nat.not_lt.mpr c_1, xE], by simp [kTurn, c_1, Nat.not_lt.mpr c_1]⟩ (fun _ h => nomatch h) (Nat.le_of_ble_eq_true rfl) (Nat.le_of_ble_eq_true rfl) rfl
set_option maxHeartbeats 4000000 in
set_option maxRecDepth 100000 in
theorem c_X0_tie (l : Launch) (hfl : l.stackTraces = false) (D : va_G) (t : Nat → ClassId) (a : Nat → Nat) (tc rc : Nat) (ro : Int32) (F T : Nat → Nat) (L : Nat → Int32) (Z : Nat → Bool) (E B : Nat → Int32) (p0 p1 p2 : Int32) (N0 : Nat) (sa : Nat → Nat) (sz : Nat) (htc : tc ≤ 12) (hrc : rc ≤ 30) (hF : ∀ r, r < rc → F r < tc ∧ T r < tc) : vx_Met l yX0_tie wsX0_tie ({ frames := 7, cells := 5, slots := 30, locals := 113 }) (xMu D (xTy t) (xTh N0 sa) [.ref (a 0), .int p0, .int p1, .int p2] [xObj a tc rc ro, xArr (t 0) (a 1) 30 (xN F), xArr (t 0) (a 2) 30 (xN T), xArr (t 0) (a 3) 30 L, xArr (t 1) (a 4) 30 (xB Z), xArr (t 0) (a 5) 12 E, xArr (t 0) (a 6) 144 B] sz) (xQm D (fun u : Unit => kTie tc rc p0 p1 p2 = 0) (fun u : Unit => some (.int (nI rc))) [xObj a tc rc ro, xArr (t 0) (a 1) 30 (xN F), xArr (t 0) (a 2) 30 (xN T), xArr (t 0) (a 3) 30 L, xArr (t 1) (a 4) 30 (xB Z), xArr (t 0) (a 5) 12 E, xArr (t 0) (a 6) 144 B] (fun u : Unit => [xObj a tc (rc + 1) (sRo (updN F rc (ix p0)) (updN T rc (ix p1)) (upd L rc p2) (updB Z rc true) tc (rc + 1) E), xArr (t 0) (a 1) 30 (xN (updN F rc (ix p0))), xArr (t 0) (a 2) 30 (xN (updN T rc (ix p1))), xArr (t 0) (a 3) 30 (upd L rc p2), xArr (t 1) (a 4) 30 (xB (updB Z rc true)), xArr (t 0) (a 5) 12 (sE (updN F rc (ix p0)) (updN T rc (ix p1)) (upd L rc p2) (updB Z rc true) tc (rc + 1) E), xArr (t 0) (a 6) 144 (sB (updN F rc (ix p0)) (updN T rc (ix p1)) (upd L rc p2) (updB Z rc true) tc (rc + 1) E B)]) sz) (xXt (fun E7 => E7 = xE (kTie tc rc p0 p1 p2) ∧ ¬ kTie tc rc p0 p1 p2 = 0)) 5 30 (va_A [xObj a tc rc ro, xArr (t 0) (a 1) 30 (xN F), xArr (t 0) (a 2) 30 (xN T), xArr (t 0) (a 3) 30 L, xArr (t 1) (a 4) 30 (xB Z), xArr (t 0) (a 5) 12 E, xArr (t 0) (a 6) 144 B] sz) := by
  refine vx_ofW (cc := cX0_tie) (maxL := 5) (ret := (some .int)) (by decide) rfl ?_
  intro p e s m args below meth c s₁ hB9 hml hte hv
  obtain ⟨rfl, hsz, hP, hK, hD0, hXX⟩ := hv
  have hx := hB9.exec
  have hb := hB9.bytes
  have hr := hB9.returns
  have hts := atoms_spec (ws := wsX0_tie) hB9.pre
  have hown : s.vm.findClass RX0 = some m.cls := findClass_of_methodNamed hB9.named
  have hlocks := hB9.notSynchronized
  have hin : ∀ w ∈ wsX00, w ∈ wsX0_tie := fun _ h => List.mem_cons_of_mem _ (List.mem_append_left _ (List.mem_append_left _ (List.mem_append_left _ (List.mem_append_right _ h))))
  have fl_63 := hts (.fieldLink RX0 63 "RopeTimes" "ropeCount" "I") (by decide +kernel)
  have fl_9 := hts (.fieldLink RX0 9 "RopeTimes" "from" "[I") (by decide +kernel)
  have fl_13 := hts (.fieldLink RX0 13 "RopeTimes" "to" "[I") (by decide +kernel)
  have fl_16 := hts (.fieldLink RX0 16 "RopeTimes" "length" "[I") (by decide +kernel)
  have fl_19 := hts (.fieldLink RX0 19 "RopeTimes" "tied" "[Z") (by decide +kernel)
  subst hsz
  have hD := hD0.self (sz := s.heap.size)
  generalize hAe : va_A ([xObj a tc rc ro, xArr (t 0) (a 1) 30 (xN F), xArr (t 0) (a 2) 30 (xN T), xArr (t 0) (a 3) 30 L, xArr (t 1) (a 4) 30 (xB Z), xArr (t 0) (a 5) 12 E, xArr (t 0) (a 6) 144 B]) s.heap.size = A at hD ⊢
  have hA : ∀ q : Nat, s.heap.size ≤ q → A q := fun q h => by rw [← hAe]; exact Or.inr h
  have hS : va_S A s.heap s.heap [] := va_S.rf
  have hP : va_P D vwCl ([xObj a tc rc ro, xArr (t 0) (a 1) 30 (xN F), xArr (t 0) (a 2) 30 (xN T), xArr (t 0) (a 3) 30 L, xArr (t 1) (a 4) 30 (xB Z), xArr (t 0) (a 5) 12 E, xArr (t 0) (a 6) 144 B]) s.heap := hP
  have hD : va_D A ([xObj a tc rc ro, xArr (t 0) (a 1) 30 (xN F), xArr (t 0) (a 2) 30 (xN T), xArr (t 0) (a 3) 30 L, xArr (t 1) (a 4) 30 (xB Z), xArr (t 0) (a 5) 12 E, xArr (t 0) (a 6) 144 B]) := hD
  have hl := lv_entry ([.ref (a 0), .int p0, .int p1, .int p2]) (n := 5) (Nat.le_of_ble_eq_true rfl)
  rw [lg_entry_eq]
  generalize (lg_sl ([.ref (a 0), .int p0, .int p1, .int p2]) ++ List.replicate (5 - (lg_sl ([.ref (a 0), .int p0, .int p1, .int p2])).length) Slot.unset).toArray = ls at hl ⊢
  have hl : lv_has ls 5 [(0, .ref (a 0)), (1, .int p0), (2, .int p1), (3, .int p2)] := hl
  refine lv_aload_n hx hb dX0_tie_0 rfl (lv_at hl 0 rfl) ?_
  refine lv_iload_n hx hb dX0_tie_1 rfl (lv_at hl 1 rfl) ?_
  refine xt_V (b := a 0) (As := [.int p0]) (rest := []) ⟨hx, hb, hml, hown, hts⟩ (c_X0_checkTurn l hfl D t a tc rc ro p0 N0 sa (by omega)) (cwV 1 hts gX0_tie_X0_checkTurn rfl rfl rfl hd_X0_checkTurn ⟨Nat.le_of_ble_eq_true rfl, Nat.le_of_ble_eq_true rfl⟩) hK hP (fun U hW hU => xTh.warm hW (fun q _ _ => by rw [hU]) hXX) (va_recv hK hP (ci := 0) (q0 := 0) rfl rfl) [0] rfl rfl hl.1 rfl (Nat.le_of_ble_eq_true rfl) dX0_tie_2 ⟨(Nat.le_of_ble_eq_true rfl), (Nat.le_of_ble_eq_true rfl)⟩ (fun E9 ce9 q9 H9 hbad hz9 hk9 hce9 hv9 hcl9 => ?_) (fun ok_1 => ?_)
  · exact xt_out hte hlocks ⟨by rw [hbad.1]; simp [kTie, hbad.2, xE], by simp [kTie, hbad.2]⟩ hz9 hk9 hce9 hv9 hcl9 (fun _ h => nomatch h) (Nat.le_of_ble_eq_true rfl) (Nat.le_of_ble_eq_true rfl)
  obtain ⟨k_2, hk_2, ek_2⟩ := inB_of ok_1 (by omega)
  have eik_2 : ix p0 = k_2 := by rw [ek_2]; exact ix_nI (by omega)
  have hl : lv_has ls 5 [(0, .ref (a 0)), (1, .int (nI k_2)), (2, .int p1), (3, .int p2)] := by rw [← ek_2]; exact hl
  refine lv_aload_n hx hb dX0_tie_5 rfl (lv_at hl 0 rfl) ?_
  refine lv_iload_n hx hb dX0_tie_6 rfl (lv_at hl 2 rfl) ?_
  refine xt_V (b := a 0) (As := [.int p1]) (rest := []) ⟨hx, hb, hml, hown, hts⟩ (c_X0_checkTurn l hfl D t a tc rc ro p1 N0 sa (by omega)) (cwV 1 hts gX0_tie_X0_checkTurn rfl rfl rfl hd_X0_checkTurn ⟨Nat.le_of_ble_eq_true rfl, Nat.le_of_ble_eq_true rfl⟩) hK hP (fun U hW hU => xTh.warm hW (fun q _ _ => by rw [hU]) hXX) (va_recv hK hP (ci := 0) (q0 := 0) rfl rfl) [0] rfl rfl hl.1 rfl (Nat.le_of_ble_eq_true rfl) dX0_tie_7 ⟨(Nat.le_of_ble_eq_true rfl), (Nat.le_of_ble_eq_true rfl)⟩ (fun E9 ce9 q9 H9 hbad hz9 hk9 hce9 hv9 hcl9 => ?_) (fun ok_3 => ?_)
  · exact xt_out hte hlocks ⟨by rw [hbad.1]; simp [kTie, hbad.2, ok_1, eik_2, xE], by simp [kTie, hbad.2, ok_1, eik_2]⟩ hz9 hk9 hce9 hv9 hcl9 (fun _ h => nomatch h) (Nat.le_of_ble_eq_true rfl) (Nat.le_of_ble_eq_true rfl)
  obtain ⟨k_4, hk_4, ek_4⟩ := inB_of ok_3 (by omega)
  have eik_4 : ix p1 = k_4 := by rw [ek_4]; exact ix_nI (by omega)
  have hl : lv_has ls 5 [(0, .ref (a 0)), (1, .int (nI k_2)), (2, .int (nI k_4)), (3, .int p2)] := by rw [← ek_4]; exact hl
  refine lv_iload_n hx hb dX0_tie_10 rfl (lv_at hl 1 rfl) ?_
  refine lv_iload_n hx hb dX0_tie_11 rfl (lv_at hl 2 rfl) ?_
  refine xt_S (As := [.int (nI k_2), .int (nI k_4)]) (rest := []) ⟨hx, hb, hml, hown, hts⟩ (c_X0_checkTwoTurns l hfl D t (nI k_2) (nI k_4) N0 sa) (va_cwS 2 hts gX0_tie_X0_checkTwoTurns rfl rfl rfl hd_X0_checkTwoTurns ⟨Nat.le_of_ble_eq_true rfl, Nat.le_of_ble_eq_true rfl⟩) hK hP (fun U hW hU => xTh.warm hW (fun q _ _ => by rw [hU]) hXX) [] rfl rfl hl.1 rfl (Nat.le_of_ble_eq_true rfl) dX0_tie_12 ⟨(Nat.le_of_ble_eq_true rfl), (Nat.le_of_ble_eq_true rfl)⟩ (fun E9 ce9 q9 H9 hbad hz9 hk9 hce9 hv9 hcl9 => ?_) (fun ok_5 => ?_)
  · have hbe9 : p0 = p1 := by rw [ek_2, ek_4]; exact hbad.2
    exact xt_out hte hlocks ⟨by rw [hbad.1]; simp [kTie, hbe9, ok_1, eik_2, ok_3, eik_4, xE], by simp [kTie, hbe9, ok_1, eik_2, ok_3, eik_4]⟩ hz9 hk9 hce9 hv9 hcl9 (fun _ h => nomatch h) (Nat.le_of_ble_eq_true rfl) (Nat.le_of_ble_eq_true rfl)
  have hne_6 : ¬ p0 = p1 := by rw [ek_2, ek_4]; exact ok_5
  refine lv_iload_n hx hb dX0_tie_15 rfl (lv_at hl 3 rfl) ?_
  refine xt_S (As := [.int p2]) (rest := []) ⟨hx, hb, hml, hown, hts⟩ (c_X0_checkLength l hfl D t p2 N0 sa) (va_cwS 1 hts gX0_tie_X0_checkLength rfl rfl rfl hd_X0_checkLength ⟨Nat.le_of_ble_eq_true rfl, Nat.le_of_ble_eq_true rfl⟩) hK hP (fun U hW hU => xTh.warm hW (fun q _ _ => by rw [hU]) hXX) [] rfl rfl hl.1 rfl (Nat.le_of_ble_eq_true rfl) dX0_tie_16 ⟨(Nat.le_of_ble_eq_true rfl), (Nat.le_of_ble_eq_true rfl)⟩ (fun E9 ce9 q9 H9 hbad hz9 hk9 hce9 hv9 hcl9 => ?_) (fun ok_7 => ?_)
  · exact xt_out hte hlocks ⟨by rw [hbad.1]; simp [kTie, hbad.2, ok_1, eik_2, ok_3, eik_4, ok_5, hne_6, xE], by simp [kTie, hbad.2, ok_1, eik_2, ok_3, eik_4, ok_5, hne_6]⟩ hz9 hk9 hce9 hv9 hcl9 (fun _ h => nomatch h) (Nat.le_of_ble_eq_true rfl) (Nat.le_of_ble_eq_true rfl)
  refine lv_aload_n hx hb dX0_tie_19 rfl (lv_at hl 0 rfl) ?_
  refine x0_get (v := .int (nI rc)) hx hb hts hin hown hK hP 0 rfl 1 (by decide) fl_63 rfl dX0_tie_20 rfl ?_
  refine lv_bipush (v := 30) hx hb dX0_tie_23 (by decide) ?_
  refine lv_icmp_lt (x := nI rc) (y := 30) (tgt := 38) hx hb dX0_tie_25 (by decide) (fun c_8 => ?_) (fun c_8 => ?_)
  · have c_8 := (nI_ltI (a := rc) (b := 30) (by omega) (by omega)).mp c_8
    refine lv_aload_n hx hb dX0_tie_38 rfl (lv_at hl 0 rfl) ?_
    refine x0_get (v := .int (nI rc)) hx hb hts hin hown hK hP 0 rfl 1 (by decide) fl_63 rfl dX0_tie_39 rfl ?_
    refine lv_istore (lv' := [(4, .int (nI rc)), (0, .ref (a 0)), (1, .int (nI k_2)), (2, .int (nI k_4)), (3, .int p2)]) hx hb dX0_tie_42 hl (by decide) rfl (fun ls hl => ?_)
    refine lv_aload_n hx hb dX0_tie_44 rfl (lv_at hl 1 rfl) ?_
    refine x0_get (v := .ref (a 1)) hx hb hts hin hown hK hP 0 rfl 2 (by decide) fl_9 rfl dX0_tie_45 rfl ?_
    refine lv_iload hx hb dX0_tie_48 (lv_at hl 0 rfl) ?_
    refine lv_iload_n hx hb dX0_tie_50 rfl (lv_at hl 2 rfl) ?_
    refine x_iast (x := nI k_2) (f := xN F) hx hb hK hP hD hS 1 0 ([xObj a tc rc ro, xArr (t 0) (a 1) 30 (xN (updN F rc k_2)), xArr (t 0) (a 2) 30 (xN T), xArr (t 0) (a 3) 30 L, xArr (t 1) (a 4) 30 (xB Z), xArr (t 0) (a 5) 12 E, xArr (t 0) (a 6) 144 B]) rfl rfl (k := rc) (by rw [upd_xN]; rfl) (by omega) (Nat.le_of_ble_eq_true rfl) dX0_tie_51 (fun H locs hP hD hS => ?_)
    refine lv_aload_n hx hb dX0_tie_52 rfl (lv_at hl 1 rfl) ?_
    refine x0_get (v := .ref (a 2)) hx hb hts hin hown hK hP 0 rfl 3 (by decide) fl_13 rfl dX0_tie_53 rfl ?_
    refine lv_iload hx hb dX0_tie_56 (lv_at hl 0 rfl) ?_
    refine lv_iload_n hx hb dX0_tie_58 rfl (lv_at hl 3 rfl) ?_
    refine x_iast (x := nI k_4) (f := xN T) hx hb hK hP hD hS 2 0 ([xObj a tc rc ro, xArr (t 0) (a 1) 30 (xN (updN F rc k_2)), xArr (t 0) (a 2) 30 (xN (updN T rc k_4)), xArr (t 0) (a 3) 30 L, xArr (t 1) (a 4) 30 (xB Z), xArr (t 0) (a 5) 12 E, xArr (t 0) (a 6) 144 B]) rfl rfl (k := rc) (by rw [upd_xN]; rfl) (by omega) (Nat.le_of_ble_eq_true rfl) dX0_tie_59 (fun H locs hP hD hS => ?_)
    refine lv_aload_n hx hb dX0_tie_60 rfl (lv_at hl 1 rfl) ?_
    refine x0_get (v := .ref (a 3)) hx hb hts hin hown hK hP 0 rfl 4 (by decide) fl_16 rfl dX0_tie_61 rfl ?_
    refine lv_iload hx hb dX0_tie_64 (lv_at hl 0 rfl) ?_
    refine lv_iload_n hx hb dX0_tie_66 rfl (lv_at hl 4 rfl) ?_
    refine x_iast (x := p2) (f := L) hx hb hK hP hD hS 3 0 ([xObj a tc rc ro, xArr (t 0) (a 1) 30 (xN (updN F rc k_2)), xArr (t 0) (a 2) 30 (xN (updN T rc k_4)), xArr (t 0) (a 3) 30 (upd L rc p2), xArr (t 1) (a 4) 30 (xB Z), xArr (t 0) (a 5) 12 E, xArr (t 0) (a 6) 144 B]) rfl rfl (k := rc) rfl (by omega) (Nat.le_of_ble_eq_true rfl) dX0_tie_67 (fun H locs hP hD hS => ?_)
    refine lv_aload_n hx hb dX0_tie_68 rfl (lv_at hl 1 rfl) ?_
    refine x0_get (v := .ref (a 4)) hx hb hts hin hown hK hP 0 rfl 5 (by decide) fl_19 rfl dX0_tie_69 rfl ?_
    refine lv_iload hx hb dX0_tie_72 (lv_at hl 0 rfl) ?_
    refine lv_iconst (v := 1) hx hb dX0_tie_74 (by decide) ?_
    refine x_zast (x := true) (f := xB Z) hx hb hK hP hD hS 4 1 ([xObj a tc rc ro, xArr (t 0) (a 1) 30 (xN (updN F rc k_2)), xArr (t 0) (a 2) 30 (xN (updN T rc k_4)), xArr (t 0) (a 3) 30 (upd L rc p2), xArr (t 1) (a 4) 30 (xB (updB Z rc true)), xArr (t 0) (a 5) 12 E, xArr (t 0) (a 6) 144 B]) rfl rfl (k := rc) (by rw [upd_xB]; rfl) (by omega) (Nat.le_of_ble_eq_true rfl) dX0_tie_75 (fun H locs hP hD hS => ?_)
    refine lv_aload_n hx hb dX0_tie_76 rfl (lv_at hl 1 rfl) ?_
    refine lv_dup hx hb dX0_tie_77 rfl ?_
    refine x0_get (v := .int (nI rc)) hx hb hts hin hown hK hP 0 rfl 1 (by decide) fl_63 rfl dX0_tie_78 rfl ?_
    refine lv_iconst (v := 1) hx hb dX0_tie_81 (by decide) ?_
    refine lv_iadd (x := nI rc) (y := 1) hx hb dX0_tie_82 ?_
    refine x_top (w := nI (rc + 1)) (nI_add rc 1) ?_
    refine x0_put (x := nI (rc + 1)) hx hb hts hin hown hK hP hD hS 0 ([xObj a tc (rc + 1) ro, xArr (t 0) (a 1) 30 (xN (updN F rc k_2)), xArr (t 0) (a 2) 30 (xN (updN T rc k_4)), xArr (t 0) (a 3) 30 (upd L rc p2), xArr (t 1) (a 4) 30 (xB (updB Z rc true)), xArr (t 0) (a 5) 12 E, xArr (t 0) (a 6) 144 B]) rfl 1 (by decide) fl_63 rfl rfl (Nat.le_of_ble_eq_true rfl) rfl dX0_tie_83 rfl (fun H locs hP hD hS => ?_)
    refine lv_aload_n hx hb dX0_tie_86 rfl (lv_at hl 1 rfl) ?_
    refine xm_V (b := a 0) (As := []) (rest := []) (wr := []) ⟨hx, hb, hml, hown, hts⟩ xTrav_T (c_X0_settle l D t a tc (rc + 1) ro (updN F rc k_2) (updN T rc k_4) (upd L rc p2) (updB Z rc true) E B _ (by omega) (by omega) (okR_tie hF hk_2 hk_4)) (cwV 0 hts gX0_tie_X0_settle rfl rfl rfl hd_X0_settle ⟨Nat.le_of_ble_eq_true rfl, Nat.le_of_ble_eq_true rfl⟩) hK hP hD hS hA (fun _ _ _ => trivial) (va_recv hK hP (ci := 0) (q0 := 0) rfl rfl) [0, 1, 2, 3, 4, 5, 6] [] rfl rfl (by decide) (by decide) (by decide) rfl hl.1 rfl (Nat.le_of_ble_eq_true rfl) dX0_tie_87 ⟨(Nat.le_of_ble_eq_true rfl), (Nat.le_of_ble_eq_true rfl)⟩ (fun u_9 H locs hu hP hD hS hz => ?_)
    have hP : va_P D vwCl ([xObj a tc (rc + 1) (sRo (updN F rc k_2) (updN T rc k_4) (upd L rc p2) (updB Z rc true) tc (rc + 1) E), xArr (t 0) (a 1) 30 (xN (updN F rc k_2)), xArr (t 0) (a 2) 30 (xN (updN T rc k_4)), xArr (t 0) (a 3) 30 (upd L rc p2), xArr (t 1) (a 4) 30 (xB (updB Z rc true)), xArr (t 0) (a 5) 12 (sE (updN F rc k_2) (updN T rc k_4) (upd L rc p2) (updB Z rc true) tc (rc + 1) E), xArr (t 0) (a 6) 144 (sB (updN F rc k_2) (updN T rc k_4) (upd L rc p2) (updB Z rc true) tc (rc + 1) E B)]) H := hP
    have hD : va_D _ ([xObj a tc (rc + 1) (sRo (updN F rc k_2) (updN T rc k_4) (upd L rc p2) (updB Z rc true) tc (rc + 1) E), xArr (t 0) (a 1) 30 (xN (updN F rc k_2)), xArr (t 0) (a 2) 30 (xN (updN T rc k_4)), xArr (t 0) (a 3) 30 (upd L rc p2), xArr (t 1) (a 4) 30 (xB (updB Z rc true)), xArr (t 0) (a 5) 12 (sE (updN F rc k_2) (updN T rc k_4) (upd L rc p2) (updB Z rc true) tc (rc + 1) E), xArr (t 0) (a 6) 144 (sB (updN F rc k_2) (updN T rc k_4) (upd L rc p2) (updB Z rc true) tc (rc + 1) E B)]) := hD
    refine lv_iload hx hb dX0_tie_90 (lv_at hl 0 rfl) ?_
    have hP9 : va_P D vwCl ([xObj a tc (rc + 1) (sRo (updN F rc (ix p0)) (updN T rc (ix p1)) (upd L rc p2) (updB Z rc true) tc (rc + 1) E), xArr (t 0) (a 1) 30 (xN (updN F rc (ix p0))), xArr (t 0) (a 2) 30 (xN (updN T rc (ix p1))), xArr (t 0) (a 3) 30 (upd L rc p2), xArr (t 1) (a 4) 30 (xB (updB Z rc true)), xArr (t 0) (a 5) 12 (sE (updN F rc (ix p0)) (updN T rc (ix p1)) (upd L rc p2) (updB Z rc true) tc (rc + 1) E), xArr (t 0) (a 6) 144 (sB (updN F rc (ix p0)) (updN T rc (ix p1)) (upd L rc p2) (updB Z rc true) tc (rc + 1) E B)]) H := by rw [eik_2, eik_4]; exact hP
    have hD9 : va_D A ([xObj a tc (rc + 1) (sRo (updN F rc (ix p0)) (updN T rc (ix p1)) (upd L rc p2) (updB Z rc true) tc (rc + 1) E), xArr (t 0) (a 1) 30 (xN (updN F rc (ix p0))), xArr (t 0) (a 2) 30 (xN (updN T rc (ix p1))), xArr (t 0) (a 3) 30 (upd L rc p2), xArr (t 1) (a 4) 30 (xB (updB Z rc true)), xArr (t 0) (a 5) 12 (sE (updN F rc (ix p0)) (updN T rc (ix p1)) (upd L rc p2) (updB Z rc true) tc (rc + 1) E), xArr (t 0) (a 6) 144 (sB (updN F rc (ix p0)) (updN T rc (ix p1)) (upd L rc p2) (updB Z rc true) tc (rc + 1) E B)]) := by rw [eik_2, eik_4]; exact hD
    subst hAe
    refine W.widen (k := 5) (n := 30) (Nat.le_of_ble_eq_true rfl) (Nat.le_of_ble_eq_true rfl) ?_
    refine vx_ret ?_
    obtain ⟨hq9, hf9⟩ := xm_end (S := Unit) (pu := (fun u : Unit => kTie tc rc p0 p1 p2 = 0)) (r := (fun u : Unit => some (.int (nI rc)))) (wc := [xObj a tc rc ro, xArr (t 0) (a 1) 30 (xN F), xArr (t 0) (a 2) 30 (xN T), xArr (t 0) (a 3) 30 L, xArr (t 1) (a 4) 30 (xB Z), xArr (t 0) (a 5) 12 E, xArr (t 0) (a 6) 144 B]) (w1 := (fun u : Unit => [xObj a tc (rc + 1) (sRo (updN F rc (ix p0)) (updN T rc (ix p1)) (upd L rc p2) (updB Z rc true) tc (rc + 1) E), xArr (t 0) (a 1) 30 (xN (updN F rc (ix p0))), xArr (t 0) (a 2) 30 (xN (updN T rc (ix p1))), xArr (t 0) (a 3) 30 (upd L rc p2), xArr (t 1) (a 4) 30 (xB (updB Z rc true)), xArr (t 0) (a 5) 12 (sE (updN F rc (ix p0)) (updN T rc (ix p1)) (upd L rc p2) (updB Z rc true) tc (rc + 1) E), xArr (t 0) (a 6) 144 (sB (updN F rc (ix p0)) (updN T rc (ix p1)) (upd L rc p2) (updB Z rc true) tc (rc + 1) E B)])) (o := some (.int (nI rc))) (args := ([.ref (a 0), .int p0, .int p1, .int p2] : List Value).toArray) () rfl (by simp [kTie, ok_1, eik_2, ok_3, eik_4, ok_5, hne_6, ok_7, c_8]) rfl hP9 hD9 hS
    exact W.iret hx hb hr hq9 hf9 dX0_tie_92 hlocks
  · have c_8 : 30 ≤ rc := Nat.le_of_not_lt (fun z9 => c_8 ((nI_ltI (a := rc) (b := 30) (by omega) (by omega)).mpr z9))
    exact xt_throw (E := eIS) (text := (xSi 1).2) hx hb hfl hown (by decide +kernel) (hts (.classLink RX0 45 eIS) (by decide +kernel)) (hts (.initialized eIS) (by decide +kernel)) hXX (hXX.2.2.2 1) (xat_49 (fun w hw => hts w (List.mem_cons_of_mem _ (List.mem_append_left _ (List.mem_append_left _ (List.mem_append_right _ hw))))) hXX) xgd_49 (hl.1.trans hml.symm) dX0_tie_28 dX0_tie_31 dX0_tie_32 dX0_tie_34 dX0_tie_37 hte (Nat.le_of_ble_eq_true rfl) (Nat.le_of_ble_eq_true rfl) (Nat.le_of_ble_eq_true rfl) (Nat.le_of_ble_eq_true rfl) hlocks ⟨by simp [kTie, ok_1, eik_2, ok_3, eik_4, ok_5, hne_6, ok_7, c_8, Nat.not_lt.mpr c_8, xE], by simp [kTie, ok_1, eik_2, ok_3, eik_4, ok_5, hne_6, ok_7, c_8, Nat.not_lt.mpr c_8]⟩ (fun _ h => nomatch h) (Nat.le_of_ble_eq_true rfl) (Nat.le_of_ble_eq_true rfl) rfl
set_option maxHeartbeats 4000000 in
set_option maxRecDepth 100000 in
theorem c_X0_cut (l : Launch) (hfl : l.stackTraces = false) (D : va_G) (t : Nat → ClassId) (a : Nat → Nat) (tc rc : Nat) (ro : Int32) (F T : Nat → Nat) (L : Nat → Int32) (Z : Nat → Bool) (E B : Nat → Int32) (p0 p1 : Int32) (N0 : Nat) (sa : Nat → Nat) (sz : Nat) (htc : tc ≤ 12) (hrc : rc ≤ 30) (hF : ∀ r, r < rc → F r < tc ∧ T r < tc) : vx_Met l yX0_cut wsX0_cut ({ frames := 7, cells := 2, slots := 12, locals := 113 }) (xMu D (xTy t) (xTh N0 sa) [.ref (a 0), .int p0, .int p1] [xObj a tc rc ro, xArr (t 0) (a 1) 30 (xN F), xArr (t 0) (a 2) 30 (xN T), xArr (t 0) (a 3) 30 L, xArr (t 1) (a 4) 30 (xB Z), xArr (t 0) (a 5) 12 E, xArr (t 0) (a 6) 144 B] sz) (xQm D (fun u : Unit => kCut rc p0 p1 = 0) (fun u : Unit => some (.int (L (ix p0)))) [xObj a tc rc ro, xArr (t 0) (a 1) 30 (xN F), xArr (t 0) (a 2) 30 (xN T), xArr (t 0) (a 3) 30 L, xArr (t 1) (a 4) 30 (xB Z), xArr (t 0) (a 5) 12 E, xArr (t 0) (a 6) 144 B] (fun u : Unit => [xObj a tc rc (sRo F T (upd L (ix p0) p1) Z tc rc E), xArr (t 0) (a 1) 30 (xN F), xArr (t 0) (a 2) 30 (xN T), xArr (t 0) (a 3) 30 (upd L (ix p0) p1), xArr (t 1) (a 4) 30 (xB Z), xArr (t 0) (a 5) 12 (sE F T (upd L (ix p0) p1) Z tc rc E), xArr (t 0) (a 6) 144 (sB F T (upd L (ix p0) p1) Z tc rc E B)]) sz) (xXt (fun E7 => E7 = xE (kCut rc p0 p1) ∧ ¬ kCut rc p0 p1 = 0)) 2 12 (va_A [xObj a tc rc ro, xArr (t 0) (a 1) 30 (xN F), xArr (t 0) (a 2) 30 (xN T), xArr (t 0) (a 3) 30 L, xArr (t 1) (a 4) 30 (xB Z), xArr (t 0) (a 5) 12 E, xArr (t 0) (a 6) 144 B] sz) := by
  refine vx_ofW (cc := cX0_cut) (maxL := 4) (ret := (some .int)) (by decide) rfl ?_
  intro p e s m args below meth c s₁ hB9 hml hte hv
  obtain ⟨rfl, hsz, hP, hK, hD0, hXX⟩ := hv
  have hx := hB9.exec
  have hb := hB9.bytes
  have hr := hB9.returns
  have hts := atoms_spec (ws := wsX0_cut) hB9.pre
  have hown : s.vm.findClass RX0 = some m.cls := findClass_of_methodNamed hB9.named
  have hlocks := hB9.notSynchronized
  have hin : ∀ w ∈ wsX00, w ∈ wsX0_cut := fun _ h => List.mem_cons_of_mem _ (List.mem_append_left _ (List.mem_append_left _ (List.mem_append_right _ h)))
  have fl_16 := hts (.fieldLink RX0 16 "RopeTimes" "length" "[I") (by decide +kernel)
  subst hsz
  have hD := hD0.self (sz := s.heap.size)
  generalize hAe : va_A ([xObj a tc rc ro, xArr (t 0) (a 1) 30 (xN F), xArr (t 0) (a 2) 30 (xN T), xArr (t 0) (a 3) 30 L, xArr (t 1) (a 4) 30 (xB Z), xArr (t 0) (a 5) 12 E, xArr (t 0) (a 6) 144 B]) s.heap.size = A at hD ⊢
  have hA : ∀ q : Nat, s.heap.size ≤ q → A q := fun q h => by rw [← hAe]; exact Or.inr h
  have hS : va_S A s.heap s.heap [] := va_S.rf
  have hP : va_P D vwCl ([xObj a tc rc ro, xArr (t 0) (a 1) 30 (xN F), xArr (t 0) (a 2) 30 (xN T), xArr (t 0) (a 3) 30 L, xArr (t 1) (a 4) 30 (xB Z), xArr (t 0) (a 5) 12 E, xArr (t 0) (a 6) 144 B]) s.heap := hP
  have hD : va_D A ([xObj a tc rc ro, xArr (t 0) (a 1) 30 (xN F), xArr (t 0) (a 2) 30 (xN T), xArr (t 0) (a 3) 30 L, xArr (t 1) (a 4) 30 (xB Z), xArr (t 0) (a 5) 12 E, xArr (t 0) (a 6) 144 B]) := hD
  have hl := lv_entry ([.ref (a 0), .int p0, .int p1]) (n := 4) (Nat.le_of_ble_eq_true rfl)
  rw [lg_entry_eq]
  generalize (lg_sl ([.ref (a 0), .int p0, .int p1]) ++ List.replicate (4 - (lg_sl ([.ref (a 0), .int p0, .int p1])).length) Slot.unset).toArray = ls at hl ⊢
  have hl : lv_has ls 4 [(0, .ref (a 0)), (1, .int p0), (2, .int p1)] := hl
  refine lv_aload_n hx hb dX0_cut_0 rfl (lv_at hl 0 rfl) ?_
  refine lv_iload_n hx hb dX0_cut_1 rfl (lv_at hl 1 rfl) ?_
  refine xt_V (b := a 0) (As := [.int p0]) (rest := []) ⟨hx, hb, hml, hown, hts⟩ (c_X0_checkRope l hfl D t a tc rc ro p0 N0 sa (by omega)) (cwV 1 hts gX0_cut_X0_checkRope rfl rfl rfl hd_X0_checkRope ⟨Nat.le_of_ble_eq_true rfl, Nat.le_of_ble_eq_true rfl⟩) hK hP (fun U hW hU => xTh.warm hW (fun q _ _ => by rw [hU]) hXX) (va_recv hK hP (ci := 0) (q0 := 0) rfl rfl) [0] rfl rfl hl.1 rfl (Nat.le_of_ble_eq_true rfl) dX0_cut_2 ⟨(Nat.le_of_ble_eq_true rfl), (Nat.le_of_ble_eq_true rfl)⟩ (fun E9 ce9 q9 H9 hbad hz9 hk9 hce9 hv9 hcl9 => ?_) (fun ok_1 => ?_)
  · exact xt_out hte hlocks ⟨by rw [hbad.1]; simp [kCut, hbad.2, xE], by simp [kCut, hbad.2]⟩ hz9 hk9 hce9 hv9 hcl9 (fun _ h => nomatch h) (Nat.le_of_ble_eq_true rfl) (Nat.le_of_ble_eq_true rfl)
  obtain ⟨k_2, hk_2, ek_2⟩ := inB_of ok_1 (by omega)
  have eik_2 : ix p0 = k_2 := by rw [ek_2]; exact ix_nI (by omega)
  have hl : lv_has ls 4 [(0, .ref (a 0)), (1, .int (nI k_2)), (2, .int p1)] := by rw [← ek_2]; exact hl
  refine lv_iload_n hx hb dX0_cut_5 rfl (lv_at hl 2 rfl) ?_
  refine xt_S (As := [.int p1]) (rest := []) ⟨hx, hb, hml, hown, hts⟩ (c_X0_checkLength l hfl D t p1 N0 sa) (va_cwS 1 hts gX0_cut_X0_checkLength rfl rfl rfl hd_X0_checkLength ⟨Nat.le_of_ble_eq_true rfl, Nat.le_of_ble_eq_true rfl⟩) hK hP (fun U hW hU => xTh.warm hW (fun q _ _ => by rw [hU]) hXX) [] rfl rfl hl.1 rfl (Nat.le_of_ble_eq_true rfl) dX0_cut_6 ⟨(Nat.le_of_ble_eq_true rfl), (Nat.le_of_ble_eq_true rfl)⟩ (fun E9 ce9 q9 H9 hbad hz9 hk9 hce9 hv9 hcl9 => ?_) (fun ok_3 => ?_)
  · exact xt_out hte hlocks ⟨by rw [hbad.1]; simp [kCut, hbad.2, ok_1, eik_2, xE], by simp [kCut, hbad.2, ok_1, eik_2]⟩ hz9 hk9 hce9 hv9 hcl9 (fun _ h => nomatch h) (Nat.le_of_ble_eq_true rfl) (Nat.le_of_ble_eq_true rfl)
  refine lv_aload_n hx hb dX0_cut_9 rfl (lv_at hl 0 rfl) ?_
  refine x0_get (v := .ref (a 3)) hx hb hts hin hown hK hP 0 rfl 4 (by decide) fl_16 rfl dX0_cut_10 rfl ?_
  refine lv_iload_n hx hb dX0_cut_13 rfl (lv_at hl 1 rfl) ?_
  refine x_iald (f := L) hx hb hK hP 3 0 rfl rfl (k := k_2) (by omega) (Nat.le_of_ble_eq_true rfl) dX0_cut_14 ?_
  refine lv_istore_n (lv' := [(3, .int (L k_2)), (0, .ref (a 0)), (1, .int (nI k_2)), (2, .int p1)]) hx hb dX0_cut_15 rfl hl (by decide) rfl (fun ls hl => ?_)
  refine lv_aload_n hx hb dX0_cut_16 rfl (lv_at hl 1 rfl) ?_
  refine x0_get (v := .ref (a 3)) hx hb hts hin hown hK hP 0 rfl 4 (by decide) fl_16 rfl dX0_cut_17 rfl ?_
  refine lv_iload_n hx hb dX0_cut_20 rfl (lv_at hl 2 rfl) ?_
  refine lv_iload_n hx hb dX0_cut_21 rfl (lv_at hl 3 rfl) ?_
  refine x_iast (x := p1) (f := L) hx hb hK hP hD hS 3 0 ([xObj a tc rc ro, xArr (t 0) (a 1) 30 (xN F), xArr (t 0) (a 2) 30 (xN T), xArr (t 0) (a 3) 30 (upd L k_2 p1), xArr (t 1) (a 4) 30 (xB Z), xArr (t 0) (a 5) 12 E, xArr (t 0) (a 6) 144 B]) rfl rfl (k := k_2) rfl (by omega) (Nat.le_of_ble_eq_true rfl) dX0_cut_22 (fun H locs hP hD hS => ?_)
  refine lv_aload_n hx hb dX0_cut_23 rfl (lv_at hl 1 rfl) ?_
  refine xm_V (b := a 0) (As := []) (rest := []) (wr := []) ⟨hx, hb, hml, hown, hts⟩ xTrav_T (c_X0_settle l D t a tc rc ro F T (upd L k_2 p1) Z E B _ (by omega) (by omega) hF) (cwV 0 hts gX0_cut_X0_settle rfl rfl rfl hd_X0_settle ⟨Nat.le_of_ble_eq_true rfl, Nat.le_of_ble_eq_true rfl⟩) hK hP hD hS hA (fun _ _ _ => trivial) (va_recv hK hP (ci := 0) (q0 := 0) rfl rfl) [0, 1, 2, 3, 4, 5, 6] [] rfl rfl (by decide) (by decide) (by decide) rfl hl.1 rfl (Nat.le_of_ble_eq_true rfl) dX0_cut_24 ⟨(Nat.le_of_ble_eq_true rfl), (Nat.le_of_ble_eq_true rfl)⟩ (fun u_4 H locs hu hP hD hS hz => ?_)
  have hP : va_P D vwCl ([xObj a tc rc (sRo F T (upd L k_2 p1) Z tc rc E), xArr (t 0) (a 1) 30 (xN F), xArr (t 0) (a 2) 30 (xN T), xArr (t 0) (a 3) 30 (upd L k_2 p1), xArr (t 1) (a 4) 30 (xB Z), xArr (t 0) (a 5) 12 (sE F T (upd L k_2 p1) Z tc rc E), xArr (t 0) (a 6) 144 (sB F T (upd L k_2 p1) Z tc rc E B)]) H := hP
  have hD : va_D _ ([xObj a tc rc (sRo F T (upd L k_2 p1) Z tc rc E), xArr (t 0) (a 1) 30 (xN F), xArr (t 0) (a 2) 30 (xN T), xArr (t 0) (a 3) 30 (upd L k_2 p1), xArr (t 1) (a 4) 30 (xB Z), xArr (t 0) (a 5) 12 (sE F T (upd L k_2 p1) Z tc rc E), xArr (t 0) (a 6) 144 (sB F T (upd L k_2 p1) Z tc rc E B)]) := hD
  refine lv_iload_n hx hb dX0_cut_27 rfl (lv_at hl 0 rfl) ?_
  have hP9 : va_P D vwCl ([xObj a tc rc (sRo F T (upd L (ix p0) p1) Z tc rc E), xArr (t 0) (a 1) 30 (xN F), xArr (t 0) (a 2) 30 (xN T), xArr (t 0) (a 3) 30 (upd L (ix p0) p1), xArr (t 1) (a 4) 30 (xB Z), xArr (t 0) (a 5) 12 (sE F T (upd L (ix p0) p1) Z tc rc E), xArr (t 0) (a 6) 144 (sB F T (upd L (ix p0) p1) Z tc rc E B)]) H := by rw [eik_2]; exact hP
  have hD9 : va_D A ([xObj a tc rc (sRo F T (upd L (ix p0) p1) Z tc rc E), xArr (t 0) (a 1) 30 (xN F), xArr (t 0) (a 2) 30 (xN T), xArr (t 0) (a 3) 30 (upd L (ix p0) p1), xArr (t 1) (a 4) 30 (xB Z), xArr (t 0) (a 5) 12 (sE F T (upd L (ix p0) p1) Z tc rc E), xArr (t 0) (a 6) 144 (sB F T (upd L (ix p0) p1) Z tc rc E B)]) := by rw [eik_2]; exact hD
  subst hAe
  refine W.widen (k := 2) (n := 12) (Nat.le_of_ble_eq_true rfl) (Nat.le_of_ble_eq_true rfl) ?_
  refine vx_ret ?_
  obtain ⟨hq9, hf9⟩ := xm_end (S := Unit) (pu := (fun u : Unit => kCut rc p0 p1 = 0)) (r := (fun u : Unit => some (.int (L (ix p0))))) (wc := [xObj a tc rc ro, xArr (t 0) (a 1) 30 (xN F), xArr (t 0) (a 2) 30 (xN T), xArr (t 0) (a 3) 30 L, xArr (t 1) (a 4) 30 (xB Z), xArr (t 0) (a 5) 12 E, xArr (t 0) (a 6) 144 B]) (w1 := (fun u : Unit => [xObj a tc rc (sRo F T (upd L (ix p0) p1) Z tc rc E), xArr (t 0) (a 1) 30 (xN F), xArr (t 0) (a 2) 30 (xN T), xArr (t 0) (a 3) 30 (upd L (ix p0) p1), xArr (t 1) (a 4) 30 (xB Z), xArr (t 0) (a 5) 12 (sE F T (upd L (ix p0) p1) Z tc rc E), xArr (t 0) (a 6) 144 (sB F T (upd L (ix p0) p1) Z tc rc E B)])) (o := some (.int (L k_2))) (args := ([.ref (a 0), .int p0, .int p1] : List Value).toArray) () rfl (by simp [kCut, ok_1, eik_2, ok_3]) (by rw [eik_2]) hP9 hD9 hS
  exact W.iret hx hb hr hq9 hf9 dX0_cut_28 hlocks
set_option maxHeartbeats 4000000 in
set_option maxRecDepth 100000 in
theorem c_X0_knot (l : Launch) (hfl : l.stackTraces = false) (D : va_G) (t : Nat → ClassId) (a : Nat → Nat) (tc rc : Nat) (ro : Int32) (F T : Nat → Nat) (L : Nat → Int32) (Z : Nat → Bool) (E B : Nat → Int32) (p0 : Int32) (N0 : Nat) (sa : Nat → Nat) (sz : Nat) (htc : tc ≤ 12) (hrc : rc ≤ 30) (hF : ∀ r, r < rc → F r < tc ∧ T r < tc) : vx_Met l yX0_knot wsX0_knot ({ frames := 7, cells := 1, slots := 6, locals := 113 }) (xMu D (xTy t) (xTh N0 sa) [.ref (a 0), .int p0] [xObj a tc rc ro, xArr (t 0) (a 1) 30 (xN F), xArr (t 0) (a 2) 30 (xN T), xArr (t 0) (a 3) 30 L, xArr (t 1) (a 4) 30 (xB Z), xArr (t 0) (a 5) 12 E, xArr (t 0) (a 6) 144 B] sz) (xQm D (fun u : Unit => kIn rc p0 = 0) (fun u : Unit => some (.int (bI (updB Z (ix p0) (!(Z (ix p0))) (ix p0))))) [xObj a tc rc ro, xArr (t 0) (a 1) 30 (xN F), xArr (t 0) (a 2) 30 (xN T), xArr (t 0) (a 3) 30 L, xArr (t 1) (a 4) 30 (xB Z), xArr (t 0) (a 5) 12 E, xArr (t 0) (a 6) 144 B] (fun u : Unit => [xObj a tc rc (sRo F T L (updB Z (ix p0) (!(Z (ix p0)))) tc rc E), xArr (t 0) (a 1) 30 (xN F), xArr (t 0) (a 2) 30 (xN T), xArr (t 0) (a 3) 30 L, xArr (t 1) (a 4) 30 (xB (updB Z (ix p0) (!(Z (ix p0))))), xArr (t 0) (a 5) 12 (sE F T L (updB Z (ix p0) (!(Z (ix p0)))) tc rc E), xArr (t 0) (a 6) 144 (sB F T L (updB Z (ix p0) (!(Z (ix p0)))) tc rc E B)]) sz) (xXt (fun E7 => E7 = xE (kIn rc p0) ∧ ¬ kIn rc p0 = 0)) 1 6 (va_A [xObj a tc rc ro, xArr (t 0) (a 1) 30 (xN F), xArr (t 0) (a 2) 30 (xN T), xArr (t 0) (a 3) 30 L, xArr (t 1) (a 4) 30 (xB Z), xArr (t 0) (a 5) 12 E, xArr (t 0) (a 6) 144 B] sz) := by
  refine vx_ofW (cc := cX0_knot) (maxL := 2) (ret := (some .boolean)) (by decide) rfl ?_
  intro p e s m args below meth c s₁ hB9 hml hte hv
  obtain ⟨rfl, hsz, hP, hK, hD0, hXX⟩ := hv
  have hx := hB9.exec
  have hb := hB9.bytes
  have hr := hB9.returns
  have hts := atoms_spec (ws := wsX0_knot) hB9.pre
  have hown : s.vm.findClass RX0 = some m.cls := findClass_of_methodNamed hB9.named
  have hlocks := hB9.notSynchronized
  have hin : ∀ w ∈ wsX00, w ∈ wsX0_knot := fun _ h => List.mem_cons_of_mem _ (List.mem_append_left _ (List.mem_append_right _ h))
  have fl_19 := hts (.fieldLink RX0 19 "RopeTimes" "tied" "[Z") (by decide +kernel)
  subst hsz
  have hD := hD0.self (sz := s.heap.size)
  generalize hAe : va_A ([xObj a tc rc ro, xArr (t 0) (a 1) 30 (xN F), xArr (t 0) (a 2) 30 (xN T), xArr (t 0) (a 3) 30 L, xArr (t 1) (a 4) 30 (xB Z), xArr (t 0) (a 5) 12 E, xArr (t 0) (a 6) 144 B]) s.heap.size = A at hD ⊢
  have hA : ∀ q : Nat, s.heap.size ≤ q → A q := fun q h => by rw [← hAe]; exact Or.inr h
  have hS : va_S A s.heap s.heap [] := va_S.rf
  have hP : va_P D vwCl ([xObj a tc rc ro, xArr (t 0) (a 1) 30 (xN F), xArr (t 0) (a 2) 30 (xN T), xArr (t 0) (a 3) 30 L, xArr (t 1) (a 4) 30 (xB Z), xArr (t 0) (a 5) 12 E, xArr (t 0) (a 6) 144 B]) s.heap := hP
  have hD : va_D A ([xObj a tc rc ro, xArr (t 0) (a 1) 30 (xN F), xArr (t 0) (a 2) 30 (xN T), xArr (t 0) (a 3) 30 L, xArr (t 1) (a 4) 30 (xB Z), xArr (t 0) (a 5) 12 E, xArr (t 0) (a 6) 144 B]) := hD
  have hl := lv_entry ([.ref (a 0), .int p0]) (n := 2) (Nat.le_of_ble_eq_true rfl)
  rw [lg_entry_eq]
  generalize (lg_sl ([.ref (a 0), .int p0]) ++ List.replicate (2 - (lg_sl ([.ref (a 0), .int p0])).length) Slot.unset).toArray = ls at hl ⊢
  have hl : lv_has ls 2 [(0, .ref (a 0)), (1, .int p0)] := hl
  refine lv_aload_n hx hb dX0_knot_0 rfl (lv_at hl 0 rfl) ?_
  refine lv_iload_n hx hb dX0_knot_1 rfl (lv_at hl 1 rfl) ?_
  refine xt_V (b := a 0) (As := [.int p0]) (rest := []) ⟨hx, hb, hml, hown, hts⟩ (c_X0_checkRope l hfl D t a tc rc ro p0 N0 sa (by omega)) (cwV 1 hts gX0_knot_X0_checkRope rfl rfl rfl hd_X0_checkRope ⟨Nat.le_of_ble_eq_true rfl, Nat.le_of_ble_eq_true rfl⟩) hK hP (fun U hW hU => xTh.warm hW (fun q _ _ => by rw [hU]) hXX) (va_recv hK hP (ci := 0) (q0 := 0) rfl rfl) [0] rfl rfl hl.1 rfl (Nat.le_of_ble_eq_true rfl) dX0_knot_2 ⟨(Nat.le_of_ble_eq_true rfl), (Nat.le_of_ble_eq_true rfl)⟩ (fun E9 ce9 q9 H9 hbad hz9 hk9 hce9 hv9 hcl9 => ?_) (fun ok_1 => ?_)
  · exact xt_out hte hlocks ⟨by rw [hbad.1]; simp [kIn, hbad.2, xE], by simp [kIn, hbad.2]⟩ hz9 hk9 hce9 hv9 hcl9 (fun _ h => nomatch h) (Nat.le_of_ble_eq_true rfl) (Nat.le_of_ble_eq_true rfl)
  obtain ⟨k_2, hk_2, ek_2⟩ := inB_of ok_1 (by omega)
  have eik_2 : ix p0 = k_2 := by rw [ek_2]; exact ix_nI (by omega)
  have hl : lv_has ls 2 [(0, .ref (a 0)), (1, .int (nI k_2))] := by rw [← ek_2]; exact hl
  refine lv_aload_n hx hb dX0_knot_5 rfl (lv_at hl 0 rfl) ?_
  refine x0_get (v := .ref (a 4)) hx hb hts hin hown hK hP 0 rfl 5 (by decide) fl_19 rfl dX0_knot_6 rfl ?_
  refine lv_iload_n hx hb dX0_knot_9 rfl (lv_at hl 1 rfl) ?_
  refine lv_aload_n hx hb dX0_knot_10 rfl (lv_at hl 0 rfl) ?_
  refine x0_get (v := .ref (a 4)) hx hb hts hin hown hK hP 0 rfl 5 (by decide) fl_19 rfl dX0_knot_11 rfl ?_
  refine lv_iload_n hx hb dX0_knot_14 rfl (lv_at hl 1 rfl) ?_
  refine x_zald (f := xB Z) hx hb hK hP 4 1 rfl rfl (k := k_2) (by omega) (Nat.le_of_ble_eq_true rfl) dX0_knot_15 ?_
  refine x_top (w := bI (Z k_2)) rfl ?_
  refine lv_if_ne (x := bI (Z k_2)) (tgt := 23) hx hb dX0_knot_16 (by decide) (fun c_3 => ?_) (fun c_3 => ?_)
  · have c_3 := bI_n0 c_3
    refine lv_iconst (v := 0) hx hb dX0_knot_23 (by decide) ?_
    refine x_zast (x := false) (f := xB Z) hx hb hK hP hD hS 4 1 ([xObj a tc rc ro, xArr (t 0) (a 1) 30 (xN F), xArr (t 0) (a 2) 30 (xN T), xArr (t 0) (a 3) 30 L, xArr (t 1) (a 4) 30 (xB (updB Z k_2 false)), xArr (t 0) (a 5) 12 E, xArr (t 0) (a 6) 144 B]) rfl rfl (k := k_2) (by rw [upd_xB]; rfl) (by omega) (Nat.le_of_ble_eq_true rfl) dX0_knot_24 (fun H locs hP hD hS => ?_)
    refine lv_aload_n hx hb dX0_knot_25 rfl (lv_at hl 0 rfl) ?_
    refine xm_V (b := a 0) (As := []) (rest := []) (wr := []) ⟨hx, hb, hml, hown, hts⟩ xTrav_T (c_X0_settle l D t a tc rc ro F T L (updB Z k_2 false) E B _ (by omega) (by omega) hF) (cwV 0 hts gX0_knot_X0_settle rfl rfl rfl hd_X0_settle ⟨Nat.le_of_ble_eq_true rfl, Nat.le_of_ble_eq_true rfl⟩) hK hP hD hS hA (fun _ _ _ => trivial) (va_recv hK hP (ci := 0) (q0 := 0) rfl rfl) [0, 1, 2, 3, 4, 5, 6] [] rfl rfl (by decide) (by decide) (by decide) rfl hl.1 rfl (Nat.le_of_ble_eq_true rfl) dX0_knot_26 ⟨(Nat.le_of_ble_eq_true rfl), (Nat.le_of_ble_eq_true rfl)⟩ (fun u_4 H locs hu hP hD hS hz => ?_)
    have hP : va_P D vwCl ([xObj a tc rc (sRo F T L (updB Z k_2 false) tc rc E), xArr (t 0) (a 1) 30 (xN F), xArr (t 0) (a 2) 30 (xN T), xArr (t 0) (a 3) 30 L, xArr (t 1) (a 4) 30 (xB (updB Z k_2 false)), xArr (t 0) (a 5) 12 (sE F T L (updB Z k_2 false) tc rc E), xArr (t 0) (a 6) 144 (sB F T L (updB Z k_2 false) tc rc E B)]) H := hP
    have hD : va_D _ ([xObj a tc rc (sRo F T L (updB Z k_2 false) tc rc E), xArr (t 0) (a 1) 30 (xN F), xArr (t 0) (a 2) 30 (xN T), xArr (t 0) (a 3) 30 L, xArr (t 1) (a 4) 30 (xB (updB Z k_2 false)), xArr (t 0) (a 5) 12 (sE F T L (updB Z k_2 false) tc rc E), xArr (t 0) (a 6) 144 (sB F T L (updB Z k_2 false) tc rc E B)]) := hD
    refine lv_aload_n hx hb dX0_knot_29 rfl (lv_at hl 0 rfl) ?_
    refine x0_get (v := .ref (a 4)) hx hb hts hin hown hK hP 0 rfl 5 (by decide) fl_19 rfl dX0_knot_30 rfl ?_
    refine lv_iload_n hx hb dX0_knot_33 rfl (lv_at hl 1 rfl) ?_
    refine x_zald (f := xB (updB Z k_2 false)) hx hb hK hP 4 1 rfl rfl (k := k_2) (by omega) (Nat.le_of_ble_eq_true rfl) dX0_knot_34 ?_
    refine x_top (w := bI ((updB Z k_2 false) k_2)) rfl ?_
    have hz9 : updB Z k_2 false = updB Z (ix p0) (!(Z (ix p0))) := by rw [eik_2, c_3]; rfl
    have hP9 : va_P D vwCl ([xObj a tc rc (sRo F T L (updB Z (ix p0) (!(Z (ix p0)))) tc rc E), xArr (t 0) (a 1) 30 (xN F), xArr (t 0) (a 2) 30 (xN T), xArr (t 0) (a 3) 30 L, xArr (t 1) (a 4) 30 (xB (updB Z (ix p0) (!(Z (ix p0))))), xArr (t 0) (a 5) 12 (sE F T L (updB Z (ix p0) (!(Z (ix p0)))) tc rc E), xArr (t 0) (a 6) 144 (sB F T L (updB Z (ix p0) (!(Z (ix p0)))) tc rc E B)]) H := by rw [← hz9]; exact hP
    have hD9 : va_D A ([xObj a tc rc (sRo F T L (updB Z (ix p0) (!(Z (ix p0)))) tc rc E), xArr (t 0) (a 1) 30 (xN F), xArr (t 0) (a 2) 30 (xN T), xArr (t 0) (a 3) 30 L, xArr (t 1) (a 4) 30 (xB (updB Z (ix p0) (!(Z (ix p0))))), xArr (t 0) (a 5) 12 (sE F T L (updB Z (ix p0) (!(Z (ix p0)))) tc rc E), xArr (t 0) (a 6) 144 (sB F T L (updB Z (ix p0) (!(Z (ix p0)))) tc rc E B)]) := by rw [← hz9]; exact hD
    subst hAe
    refine W.widen (k := 1) (n := 6) (Nat.le_of_ble_eq_true rfl) (Nat.le_of_ble_eq_true rfl) ?_
    refine vx_ret ?_
    obtain ⟨hq9, hf9⟩ := xm_end (S := Unit) (pu := (fun u : Unit => kIn rc p0 = 0)) (r := (fun u : Unit => some (.int (bI (updB Z (ix p0) (!(Z (ix p0))) (ix p0)))))) (wc := [xObj a tc rc ro, xArr (t 0) (a 1) 30 (xN F), xArr (t 0) (a 2) 30 (xN T), xArr (t 0) (a 3) 30 L, xArr (t 1) (a 4) 30 (xB Z), xArr (t 0) (a 5) 12 E, xArr (t 0) (a 6) 144 B]) (w1 := (fun u : Unit => [xObj a tc rc (sRo F T L (updB Z (ix p0) (!(Z (ix p0)))) tc rc E), xArr (t 0) (a 1) 30 (xN F), xArr (t 0) (a 2) 30 (xN T), xArr (t 0) (a 3) 30 L, xArr (t 1) (a 4) 30 (xB (updB Z (ix p0) (!(Z (ix p0))))), xArr (t 0) (a 5) 12 (sE F T L (updB Z (ix p0) (!(Z (ix p0)))) tc rc E), xArr (t 0) (a 6) 144 (sB F T L (updB Z (ix p0) (!(Z (ix p0)))) tc rc E B)])) (o := some (.int (bI ((updB Z k_2 false) k_2)))) (args := ([.ref (a 0), .int p0] : List Value).toArray) () rfl (by simp [kIn, ok_1, eik_2, c_3]) (by rw [← hz9, eik_2]) hP9 hD9 hS
    exact W.zret hx hb hr (x_narB _) hq9 hf9 dX0_knot_35 hlocks
  · have c_3 := bI_0 c_3
    refine lv_iconst (v := 1) hx hb dX0_knot_19 (by decide) ?_
    refine lv_goto (tgt := 24) hx hb dX0_knot_20 (by decide) ?_
    refine x_zast (x := true) (f := xB Z) hx hb hK hP hD hS 4 1 ([xObj a tc rc ro, xArr (t 0) (a 1) 30 (xN F), xArr (t 0) (a 2) 30 (xN T), xArr (t 0) (a 3) 30 L, xArr (t 1) (a 4) 30 (xB (updB Z k_2 true)), xArr (t 0) (a 5) 12 E, xArr (t 0) (a 6) 144 B]) rfl rfl (k := k_2) (by rw [upd_xB]; rfl) (by omega) (Nat.le_of_ble_eq_true rfl) dX0_knot_24 (fun H locs hP hD hS => ?_)
    refine lv_aload_n hx hb dX0_knot_25 rfl (lv_at hl 0 rfl) ?_
    refine xm_V (b := a 0) (As := []) (rest := []) (wr := []) ⟨hx, hb, hml, hown, hts⟩ xTrav_T (c_X0_settle l D t a tc rc ro F T L (updB Z k_2 true) E B _ (by omega) (by omega) hF) (cwV 0 hts gX0_knot_X0_settle rfl rfl rfl hd_X0_settle ⟨Nat.le_of_ble_eq_true rfl, Nat.le_of_ble_eq_true rfl⟩) hK hP hD hS hA (fun _ _ _ => trivial) (va_recv hK hP (ci := 0) (q0 := 0) rfl rfl) [0, 1, 2, 3, 4, 5, 6] [] rfl rfl (by decide) (by decide) (by decide) rfl hl.1 rfl (Nat.le_of_ble_eq_true rfl) dX0_knot_26 ⟨(Nat.le_of_ble_eq_true rfl), (Nat.le_of_ble_eq_true rfl)⟩ (fun u_5 H locs hu hP hD hS hz => ?_)
    have hP : va_P D vwCl ([xObj a tc rc (sRo F T L (updB Z k_2 true) tc rc E), xArr (t 0) (a 1) 30 (xN F), xArr (t 0) (a 2) 30 (xN T), xArr (t 0) (a 3) 30 L, xArr (t 1) (a 4) 30 (xB (updB Z k_2 true)), xArr (t 0) (a 5) 12 (sE F T L (updB Z k_2 true) tc rc E), xArr (t 0) (a 6) 144 (sB F T L (updB Z k_2 true) tc rc E B)]) H := hP
    have hD : va_D _ ([xObj a tc rc (sRo F T L (updB Z k_2 true) tc rc E), xArr (t 0) (a 1) 30 (xN F), xArr (t 0) (a 2) 30 (xN T), xArr (t 0) (a 3) 30 L, xArr (t 1) (a 4) 30 (xB (updB Z k_2 true)), xArr (t 0) (a 5) 12 (sE F T L (updB Z k_2 true) tc rc E), xArr (t 0) (a 6) 144 (sB F T L (updB Z k_2 true) tc rc E B)]) := hD
    refine lv_aload_n hx hb dX0_knot_29 rfl (lv_at hl 0 rfl) ?_
    refine x0_get (v := .ref (a 4)) hx hb hts hin hown hK hP 0 rfl 5 (by decide) fl_19 rfl dX0_knot_30 rfl ?_
    refine lv_iload_n hx hb dX0_knot_33 rfl (lv_at hl 1 rfl) ?_
    refine x_zald (f := xB (updB Z k_2 true)) hx hb hK hP 4 1 rfl rfl (k := k_2) (by omega) (Nat.le_of_ble_eq_true rfl) dX0_knot_34 ?_
    refine x_top (w := bI ((updB Z k_2 true) k_2)) rfl ?_
    have hz9 : updB Z k_2 true = updB Z (ix p0) (!(Z (ix p0))) := by rw [eik_2, c_3]; rfl
    have hP9 : va_P D vwCl ([xObj a tc rc (sRo F T L (updB Z (ix p0) (!(Z (ix p0)))) tc rc E), xArr (t 0) (a 1) 30 (xN F), xArr (t 0) (a 2) 30 (xN T), xArr (t 0) (a 3) 30 L, xArr (t 1) (a 4) 30 (xB (updB Z (ix p0) (!(Z (ix p0))))), xArr (t 0) (a 5) 12 (sE F T L (updB Z (ix p0) (!(Z (ix p0)))) tc rc E), xArr (t 0) (a 6) 144 (sB F T L (updB Z (ix p0) (!(Z (ix p0)))) tc rc E B)]) H := by rw [← hz9]; exact hP
    have hD9 : va_D A ([xObj a tc rc (sRo F T L (updB Z (ix p0) (!(Z (ix p0)))) tc rc E), xArr (t 0) (a 1) 30 (xN F), xArr (t 0) (a 2) 30 (xN T), xArr (t 0) (a 3) 30 L, xArr (t 1) (a 4) 30 (xB (updB Z (ix p0) (!(Z (ix p0))))), xArr (t 0) (a 5) 12 (sE F T L (updB Z (ix p0) (!(Z (ix p0)))) tc rc E), xArr (t 0) (a 6) 144 (sB F T L (updB Z (ix p0) (!(Z (ix p0)))) tc rc E B)]) := by rw [← hz9]; exact hD
    subst hAe
    refine W.widen (k := 1) (n := 6) (Nat.le_of_ble_eq_true rfl) (Nat.le_of_ble_eq_true rfl) ?_
    refine vx_ret ?_
    obtain ⟨hq9, hf9⟩ := xm_end (S := Unit) (pu := (fun u : Unit => kIn rc p0 = 0)) (r := (fun u : Unit => some (.int (bI (updB Z (ix p0) (!(Z (ix p0))) (ix p0)))))) (wc := [xObj a tc rc ro, xArr (t 0) (a 1) 30 (xN F), xArr (t 0) (a 2) 30 (xN T), xArr (t 0) (a 3) 30 L, xArr (t 1) (a 4) 30 (xB Z), xArr (t 0) (a 5) 12 E, xArr (t 0) (a 6) 144 B]) (w1 := (fun u : Unit => [xObj a tc rc (sRo F T L (updB Z (ix p0) (!(Z (ix p0)))) tc rc E), xArr (t 0) (a 1) 30 (xN F), xArr (t 0) (a 2) 30 (xN T), xArr (t 0) (a 3) 30 L, xArr (t 1) (a 4) 30 (xB (updB Z (ix p0) (!(Z (ix p0))))), xArr (t 0) (a 5) 12 (sE F T L (updB Z (ix p0) (!(Z (ix p0)))) tc rc E), xArr (t 0) (a 6) 144 (sB F T L (updB Z (ix p0) (!(Z (ix p0)))) tc rc E B)])) (o := some (.int (bI ((updB Z k_2 true) k_2)))) (args := ([.ref (a 0), .int p0] : List Value).toArray) () rfl (by simp [kIn, ok_1, eik_2, c_3]) (by rw [← hz9, eik_2]) hP9 hD9 hS
    exact W.zret hx hb hr (x_narB _) hq9 hf9 dX0_knot_35 hlocks
set_option maxHeartbeats 4000000 in
set_option maxRecDepth 100000 in
theorem c_X0_count (l : Launch) (hfl : l.stackTraces = false) (D : va_G) (t : Nat → ClassId) (a : Nat → Nat) (tc rc : Nat) (ro : Int32) (F T : Nat → Nat) (L : Nat → Int32) (Z : Nat → Bool) (E R N : Nat → Int32) (p0 : Int32) (N0 : Nat) (sa : Nat → Nat) (sz : Nat) (htc : tc ≤ 12) (hrc : rc ≤ 30) (hF : ∀ r, r < rc → F r < tc ∧ T r < tc) : vx_Met l yX0_count wsX0_count ({ frames := 7, cells := 1, slots := 6, locals := 113 }) (xMu D (xTy t) (xTh N0 sa) [.ref (a 0), .int p0] [xObj a tc rc ro, xArr (t 0) (a 1) 30 (xN F), xArr (t 0) (a 2) 30 (xN T), xArr (t 0) (a 3) 30 L, xArr (t 1) (a 4) 30 (xB Z), xArr (t 0) (a 5) 12 E, xArr (t 0) (a 8) 12 R, xArr (t 0) (a 9) 12 N] sz) (xQm D (fun u : (Nat → Int32) × (Nat → Int32) => kIn 7 p0 = 0) (fun u : (Nat → Int32) × (Nat → Int32) => some (.int (cntR ro E F T L Z tc rc (ix p0)))) [xObj a tc rc ro, xArr (t 0) (a 1) 30 (xN F), xArr (t 0) (a 2) 30 (xN T), xArr (t 0) (a 3) 30 L, xArr (t 1) (a 4) 30 (xB Z), xArr (t 0) (a 5) 12 E, xArr (t 0) (a 8) 12 R, xArr (t 0) (a 9) 12 N] (fun u : (Nat → Int32) × (Nat → Int32) => [xObj a tc rc ro, xArr (t 0) (a 1) 30 (xN F), xArr (t 0) (a 2) 30 (xN T), xArr (t 0) (a 3) 30 L, xArr (t 1) (a 4) 30 (xB Z), xArr (t 0) (a 5) 12 E, xArr (t 0) (a 8) 12 u.1, xArr (t 0) (a 9) 12 u.2]) sz) (xXt (fun E7 => E7 = xE (kIn 7 p0) ∧ ¬ kIn 7 p0 = 0)) 1 6 (va_A [xObj a tc rc ro, xArr (t 0) (a 1) 30 (xN F), xArr (t 0) (a 2) 30 (xN T), xArr (t 0) (a 3) 30 L, xArr (t 1) (a 4) 30 (xB Z), xArr (t 0) (a 5) 12 E, xArr (t 0) (a 8) 12 R, xArr (t 0) (a 9) 12 N] sz) := by
  refine vx_ofW (cc := cX0_count) (maxL := 2) (ret := (some .int)) (by decide) rfl ?_
  intro p e s m args below meth c s₁ hB9 hml hte hv
  obtain ⟨rfl, hsz, hP, hK, hD0, hXX⟩ := hv
  have hx := hB9.exec
  have hb := hB9.bytes
  have hr := hB9.returns
  have hts := atoms_spec (ws := wsX0_count) hB9.pre
  have hown : s.vm.findClass RX0 = some m.cls := findClass_of_methodNamed hB9.named
  have hlocks := hB9.notSynchronized
  have hin : ∀ w ∈ wsX00, w ∈ wsX0_count := fun _ h => List.mem_cons_of_mem _ (List.mem_append_left _ (List.mem_append_right _ h))
  have fl_41 := hts (.fieldLink RX0 41 "RopeTimes" "turnCount" "I") (by decide +kernel)
  have fl_63 := hts (.fieldLink RX0 63 "RopeTimes" "ropeCount" "I") (by decide +kernel)
  have fl_94 := hts (.fieldLink RX0 94 "RopeTimes" "rounds" "I") (by decide +kernel)
  have fl_23 := hts (.fieldLink RX0 23 "RopeTimes" "earliest" "[I") (by decide +kernel)
  subst hsz
  have hD := hD0.self (sz := s.heap.size)
  generalize hAe : va_A ([xObj a tc rc ro, xArr (t 0) (a 1) 30 (xN F), xArr (t 0) (a 2) 30 (xN T), xArr (t 0) (a 3) 30 L, xArr (t 1) (a 4) 30 (xB Z), xArr (t 0) (a 5) 12 E, xArr (t 0) (a 8) 12 R, xArr (t 0) (a 9) 12 N]) s.heap.size = A at hD ⊢
  have hA : ∀ q : Nat, s.heap.size ≤ q → A q := fun q h => by rw [← hAe]; exact Or.inr h
  have hS : va_S A s.heap s.heap [] := va_S.rf
  have hP : va_P D vwCl ([xObj a tc rc ro, xArr (t 0) (a 1) 30 (xN F), xArr (t 0) (a 2) 30 (xN T), xArr (t 0) (a 3) 30 L, xArr (t 1) (a 4) 30 (xB Z), xArr (t 0) (a 5) 12 E, xArr (t 0) (a 8) 12 R, xArr (t 0) (a 9) 12 N]) s.heap := hP
  have hD : va_D A ([xObj a tc rc ro, xArr (t 0) (a 1) 30 (xN F), xArr (t 0) (a 2) 30 (xN T), xArr (t 0) (a 3) 30 L, xArr (t 1) (a 4) 30 (xB Z), xArr (t 0) (a 5) 12 E, xArr (t 0) (a 8) 12 R, xArr (t 0) (a 9) 12 N]) := hD
  have hl := lv_entry ([.ref (a 0), .int p0]) (n := 2) (Nat.le_of_ble_eq_true rfl)
  rw [lg_entry_eq]
  generalize (lg_sl ([.ref (a 0), .int p0]) ++ List.replicate (2 - (lg_sl ([.ref (a 0), .int p0])).length) Slot.unset).toArray = ls at hl ⊢
  have hl : lv_has ls 2 [(0, .ref (a 0)), (1, .int p0)] := hl
  refine lv_iload_n hx hb dX0_count_0 rfl (lv_at hl 1 rfl) ?_
  refine lv_bipush (v := 7) hx hb dX0_count_1 (by decide) ?_
  refine xt_S (As := [.int p0, .int 7]) (rest := []) ⟨hx, hb, hml, hown, hts⟩ (c_X0_checkKind l hfl D t p0 7 N0 sa) (va_cwS 2 hts gX0_count_X0_checkKind rfl rfl rfl hd_X0_checkKind ⟨Nat.le_of_ble_eq_true rfl, Nat.le_of_ble_eq_true rfl⟩) hK hP (fun U hW hU => xTh.warm hW (fun q _ _ => by rw [hU]) hXX) [] rfl rfl hl.1 rfl (Nat.le_of_ble_eq_true rfl) dX0_count_3 ⟨(Nat.le_of_ble_eq_true rfl), (Nat.le_of_ble_eq_true rfl)⟩ (fun E9 ce9 q9 H9 hbad hz9 hk9 hce9 hv9 hcl9 => ?_) (fun ok_1 => ?_)
  · exact xt_out hte hlocks ⟨by rw [hbad.1]; simp [kIn, hbad.2, xE], by simp [kIn, hbad.2]⟩ hz9 hk9 hce9 hv9 hcl9 (fun _ h => nomatch h) (Nat.le_of_ble_eq_true rfl) (Nat.le_of_ble_eq_true rfl)
  obtain ⟨k_2, hk_2, ek_2⟩ := inB_of ok_1 (by omega)
  have eik_2 : ix p0 = k_2 := by rw [ek_2]; exact ix_nI (by omega)
  have hl : lv_has ls 2 [(0, .ref (a 0)), (1, .int (nI k_2))] := by rw [← ek_2]; exact hl
  refine lv_iload_n hx hb dX0_count_6 rfl (lv_at hl 1 rfl) ?_
  rcases (by omega : k_2 = 0 ∨ k_2 = 1 ∨ k_2 = 2 ∨ k_2 = 3 ∨ k_2 = 4 ∨ k_2 = 5 ∨ 5 < k_2) with rfl | rfl | rfl | rfl | rfl | rfl | hgt_3
  · refine lv_tableIn (x := nI 0) (off := 37) (tgt := 44) hx hb dX0_count_7 (by decide) (by decide) rfl (by decide) ?_
    refine lv_aload_n hx hb dX0_count_44 rfl (lv_at hl 0 rfl) ?_
    refine x0_get (v := .int (nI tc)) hx hb hts hin hown hK hP 0 rfl 0 (by decide) fl_41 rfl dX0_count_45 rfl ?_
    subst hAe
    refine W.widen (k := 1) (n := 6) (Nat.le_of_ble_eq_true rfl) (Nat.le_of_ble_eq_true rfl) ?_
    refine vx_ret ?_
    obtain ⟨hq9, hf9⟩ := xm_end (S := (Nat → Int32) × (Nat → Int32)) (pu := (fun u : (Nat → Int32) × (Nat → Int32) => kIn 7 p0 = 0)) (r := (fun u : (Nat → Int32) × (Nat → Int32) => some (.int (cntR ro E F T L Z tc rc (ix p0))))) (wc := [xObj a tc rc ro, xArr (t 0) (a 1) 30 (xN F), xArr (t 0) (a 2) 30 (xN T), xArr (t 0) (a 3) 30 L, xArr (t 1) (a 4) 30 (xB Z), xArr (t 0) (a 5) 12 E, xArr (t 0) (a 8) 12 R, xArr (t 0) (a 9) 12 N]) (w1 := (fun u : (Nat → Int32) × (Nat → Int32) => [xObj a tc rc ro, xArr (t 0) (a 1) 30 (xN F), xArr (t 0) (a 2) 30 (xN T), xArr (t 0) (a 3) 30 L, xArr (t 1) (a 4) 30 (xB Z), xArr (t 0) (a 5) 12 E, xArr (t 0) (a 8) 12 u.1, xArr (t 0) (a 9) 12 u.2])) (o := some (.int (nI tc))) (args := ([.ref (a 0), .int p0] : List Value).toArray) (R, N) rfl (by simp [kIn, ok_1, eik_2]) (by first | (simp [cntR, ok_1, eik_2]; done) | (simp [cntR, ringC, ok_1, eik_2]; rw [ringA_any L Z hF tc 0 0 (R, N) (fun _ => 0, fun _ => 0) (by omega)])) hP hD hS
    exact W.iret hx hb hr hq9 hf9 dX0_count_48 hlocks
  · refine lv_tableIn (x := nI 1) (off := 42) (tgt := 49) hx hb dX0_count_7 (by decide) (by decide) rfl (by decide) ?_
    refine lv_aload_n hx hb dX0_count_49 rfl (lv_at hl 0 rfl) ?_
    refine x0_get (v := .int (nI rc)) hx hb hts hin hown hK hP 0 rfl 1 (by decide) fl_63 rfl dX0_count_50 rfl ?_
    subst hAe
    refine W.widen (k := 1) (n := 6) (Nat.le_of_ble_eq_true rfl) (Nat.le_of_ble_eq_true rfl) ?_
    refine vx_ret ?_
    obtain ⟨hq9, hf9⟩ := xm_end (S := (Nat → Int32) × (Nat → Int32)) (pu := (fun u : (Nat → Int32) × (Nat → Int32) => kIn 7 p0 = 0)) (r := (fun u : (Nat → Int32) × (Nat → Int32) => some (.int (cntR ro E F T L Z tc rc (ix p0))))) (wc := [xObj a tc rc ro, xArr (t 0) (a 1) 30 (xN F), xArr (t 0) (a 2) 30 (xN T), xArr (t 0) (a 3) 30 L, xArr (t 1) (a 4) 30 (xB Z), xArr (t 0) (a 5) 12 E, xArr (t 0) (a 8) 12 R, xArr (t 0) (a 9) 12 N]) (w1 := (fun u : (Nat → Int32) × (Nat → Int32) => [xObj a tc rc ro, xArr (t 0) (a 1) 30 (xN F), xArr (t 0) (a 2) 30 (xN T), xArr (t 0) (a 3) 30 L, xArr (t 1) (a 4) 30 (xB Z), xArr (t 0) (a 5) 12 E, xArr (t 0) (a 8) 12 u.1, xArr (t 0) (a 9) 12 u.2])) (o := some (.int (nI rc))) (args := ([.ref (a 0), .int p0] : List Value).toArray) (R, N) rfl (by simp [kIn, ok_1, eik_2]) (by first | (simp [cntR, ok_1, eik_2]; done) | (simp [cntR, ringC, ok_1, eik_2]; rw [ringA_any L Z hF tc 0 0 (R, N) (fun _ => 0, fun _ => 0) (by omega)])) hP hD hS
    exact W.iret hx hb hr hq9 hf9 dX0_count_53 hlocks
  · refine lv_tableIn (x := nI 2) (off := 47) (tgt := 54) hx hb dX0_count_7 (by decide) (by decide) rfl (by decide) ?_
    refine lv_aload_n hx hb dX0_count_54 rfl (lv_at hl 0 rfl) ?_
    refine xr_V (b := a 0) (As := []) (rest := []) ⟨hx, hb, hml, hown, hts⟩ (c_X0_tiedRopes l D t a tc rc ro Z (by omega)) (cwV 0 hts gX0_count_X0_tiedRopes rfl rfl rfl hd_X0_tiedRopes ⟨Nat.le_of_ble_eq_true rfl, Nat.le_of_ble_eq_true rfl⟩) hK hP (va_recv hK hP (ci := 0) (q0 := 0) rfl rfl) [0, 4] rfl rfl hl.1 rfl (Nat.le_of_ble_eq_true rfl) dX0_count_55 ⟨(Nat.le_of_ble_eq_true rfl), (Nat.le_of_ble_eq_true rfl)⟩ ?_
    subst hAe
    refine W.widen (k := 1) (n := 6) (Nat.le_of_ble_eq_true rfl) (Nat.le_of_ble_eq_true rfl) ?_
    refine vx_ret ?_
    obtain ⟨hq9, hf9⟩ := xm_end (S := (Nat → Int32) × (Nat → Int32)) (pu := (fun u : (Nat → Int32) × (Nat → Int32) => kIn 7 p0 = 0)) (r := (fun u : (Nat → Int32) × (Nat → Int32) => some (.int (cntR ro E F T L Z tc rc (ix p0))))) (wc := [xObj a tc rc ro, xArr (t 0) (a 1) 30 (xN F), xArr (t 0) (a 2) 30 (xN T), xArr (t 0) (a 3) 30 L, xArr (t 1) (a 4) 30 (xB Z), xArr (t 0) (a 5) 12 E, xArr (t 0) (a 8) 12 R, xArr (t 0) (a 9) 12 N]) (w1 := (fun u : (Nat → Int32) × (Nat → Int32) => [xObj a tc rc ro, xArr (t 0) (a 1) 30 (xN F), xArr (t 0) (a 2) 30 (xN T), xArr (t 0) (a 3) 30 L, xArr (t 1) (a 4) 30 (xB Z), xArr (t 0) (a 5) 12 E, xArr (t 0) (a 8) 12 u.1, xArr (t 0) (a 9) 12 u.2])) (o := some (.int (nI (countF Z rc 0 0)))) (args := ([.ref (a 0), .int p0] : List Value).toArray) (R, N) rfl (by simp [kIn, ok_1, eik_2]) (by first | (simp [cntR, ok_1, eik_2]; done) | (simp [cntR, ringC, ok_1, eik_2]; rw [ringA_any L Z hF tc 0 0 (R, N) (fun _ => 0, fun _ => 0) (by omega)])) hP hD hS
    exact W.iret hx hb hr hq9 hf9 dX0_count_58 hlocks
  · refine lv_tableIn (x := nI 3) (off := 52) (tgt := 59) hx hb dX0_count_7 (by decide) (by decide) rfl (by decide) ?_
    refine lv_aload_n hx hb dX0_count_59 rfl (lv_at hl 0 rfl) ?_
    refine x0_get (v := .int ro) hx hb hts hin hown hK hP 0 rfl 6 (by decide) fl_94 rfl dX0_count_60 rfl ?_
    subst hAe
    refine W.widen (k := 1) (n := 6) (Nat.le_of_ble_eq_true rfl) (Nat.le_of_ble_eq_true rfl) ?_
    refine vx_ret ?_
    obtain ⟨hq9, hf9⟩ := xm_end (S := (Nat → Int32) × (Nat → Int32)) (pu := (fun u : (Nat → Int32) × (Nat → Int32) => kIn 7 p0 = 0)) (r := (fun u : (Nat → Int32) × (Nat → Int32) => some (.int (cntR ro E F T L Z tc rc (ix p0))))) (wc := [xObj a tc rc ro, xArr (t 0) (a 1) 30 (xN F), xArr (t 0) (a 2) 30 (xN T), xArr (t 0) (a 3) 30 L, xArr (t 1) (a 4) 30 (xB Z), xArr (t 0) (a 5) 12 E, xArr (t 0) (a 8) 12 R, xArr (t 0) (a 9) 12 N]) (w1 := (fun u : (Nat → Int32) × (Nat → Int32) => [xObj a tc rc ro, xArr (t 0) (a 1) 30 (xN F), xArr (t 0) (a 2) 30 (xN T), xArr (t 0) (a 3) 30 L, xArr (t 1) (a 4) 30 (xB Z), xArr (t 0) (a 5) 12 E, xArr (t 0) (a 8) 12 u.1, xArr (t 0) (a 9) 12 u.2])) (o := some (.int ro)) (args := ([.ref (a 0), .int p0] : List Value).toArray) (R, N) rfl (by simp [kIn, ok_1, eik_2]) (by first | (simp [cntR, ok_1, eik_2]; done) | (simp [cntR, ringC, ok_1, eik_2]; rw [ringA_any L Z hF tc 0 0 (R, N) (fun _ => 0, fun _ => 0) (by omega)])) hP hD hS
    exact W.iret hx hb hr hq9 hf9 dX0_count_63 hlocks
  · refine lv_tableIn (x := nI 4) (off := 57) (tgt := 64) hx hb dX0_count_7 (by decide) (by decide) rfl (by decide) ?_
    refine lv_aload_n hx hb dX0_count_64 rfl (lv_at hl 0 rfl) ?_
    refine xr_V (b := a 0) (As := []) (rest := []) ⟨hx, hb, hml, hown, hts⟩ (c_X0_isPossible l D t a tc rc ro) (cwV 0 hts gX0_count_X0_isPossible rfl rfl rfl hd_X0_isPossible ⟨Nat.le_of_ble_eq_true rfl, Nat.le_of_ble_eq_true rfl⟩) hK hP (va_recv hK hP (ci := 0) (q0 := 0) rfl rfl) [0] rfl rfl hl.1 rfl (Nat.le_of_ble_eq_true rfl) dX0_count_65 ⟨(Nat.le_of_ble_eq_true rfl), (Nat.le_of_ble_eq_true rfl)⟩ ?_
    refine lv_if_eq (x := bI (decide (¬ ro = -1))) (tgt := 82) hx hb dX0_count_68 (by decide) (fun c_4 => ?_) (fun c_4 => ?_)
    · have c_4 := Classical.not_not.mp (of_decide_eq_false (bI_0 c_4))
      refine lv_iconst (v := (-1)) hx hb dX0_count_82 (by decide) ?_
      subst hAe
      refine W.widen (k := 1) (n := 6) (Nat.le_of_ble_eq_true rfl) (Nat.le_of_ble_eq_true rfl) ?_
      refine vx_ret ?_
      obtain ⟨hq9, hf9⟩ := xm_end (S := (Nat → Int32) × (Nat → Int32)) (pu := (fun u : (Nat → Int32) × (Nat → Int32) => kIn 7 p0 = 0)) (r := (fun u : (Nat → Int32) × (Nat → Int32) => some (.int (cntR ro E F T L Z tc rc (ix p0))))) (wc := [xObj a tc rc ro, xArr (t 0) (a 1) 30 (xN F), xArr (t 0) (a 2) 30 (xN T), xArr (t 0) (a 3) 30 L, xArr (t 1) (a 4) 30 (xB Z), xArr (t 0) (a 5) 12 E, xArr (t 0) (a 8) 12 R, xArr (t 0) (a 9) 12 N]) (w1 := (fun u : (Nat → Int32) × (Nat → Int32) => [xObj a tc rc ro, xArr (t 0) (a 1) 30 (xN F), xArr (t 0) (a 2) 30 (xN T), xArr (t 0) (a 3) 30 L, xArr (t 1) (a 4) 30 (xB Z), xArr (t 0) (a 5) 12 E, xArr (t 0) (a 8) 12 u.1, xArr (t 0) (a 9) 12 u.2])) (o := some (.int (-1))) (args := ([.ref (a 0), .int p0] : List Value).toArray) (R, N) rfl (by simp [kIn, ok_1, eik_2, c_4]) (by first | (simp [cntR, ok_1, eik_2, c_4]; done) | (simp [cntR, ringC, ok_1, eik_2, c_4]; rw [ringA_any L Z hF tc 0 0 (R, N) (fun _ => 0, fun _ => 0) (by omega)])) hP hD hS
      exact W.iret hx hb hr hq9 hf9 dX0_count_83 hlocks
    · have c_4 := of_decide_eq_true (bI_n0 c_4)
      refine lv_aload_n hx hb dX0_count_71 rfl (lv_at hl 0 rfl) ?_
      refine lv_aload_n hx hb dX0_count_72 rfl (lv_at hl 0 rfl) ?_
      refine x0_get (v := .ref (a 5)) hx hb hts hin hown hK hP 0 rfl 7 (by decide) fl_23 rfl dX0_count_73 rfl ?_
      refine xr_V (b := a 0) (As := [.ref (a 5)]) (rest := []) ⟨hx, hb, hml, hown, hts⟩ (c_X0_lastOf l D t a tc rc ro (a 5) E (by omega)) (cwV 1 hts gX0_count_X0_lastOf rfl rfl rfl hd_X0_lastOf ⟨Nat.le_of_ble_eq_true rfl, Nat.le_of_ble_eq_true rfl⟩) hK hP (va_recv hK hP (ci := 0) (q0 := 0) rfl rfl) [0, 5] rfl rfl hl.1 rfl (Nat.le_of_ble_eq_true rfl) dX0_count_76 ⟨(Nat.le_of_ble_eq_true rfl), (Nat.le_of_ble_eq_true rfl)⟩ ?_
      refine lv_goto (tgt := 83) hx hb dX0_count_79 (by decide) ?_
      subst hAe
      refine W.widen (k := 1) (n := 6) (Nat.le_of_ble_eq_true rfl) (Nat.le_of_ble_eq_true rfl) ?_
      refine vx_ret ?_
      obtain ⟨hq9, hf9⟩ := xm_end (S := (Nat → Int32) × (Nat → Int32)) (pu := (fun u : (Nat → Int32) × (Nat → Int32) => kIn 7 p0 = 0)) (r := (fun u : (Nat → Int32) × (Nat → Int32) => some (.int (cntR ro E F T L Z tc rc (ix p0))))) (wc := [xObj a tc rc ro, xArr (t 0) (a 1) 30 (xN F), xArr (t 0) (a 2) 30 (xN T), xArr (t 0) (a 3) 30 L, xArr (t 1) (a 4) 30 (xB Z), xArr (t 0) (a 5) 12 E, xArr (t 0) (a 8) 12 R, xArr (t 0) (a 9) 12 N]) (w1 := (fun u : (Nat → Int32) × (Nat → Int32) => [xObj a tc rc ro, xArr (t 0) (a 1) 30 (xN F), xArr (t 0) (a 2) 30 (xN T), xArr (t 0) (a 3) 30 L, xArr (t 1) (a 4) 30 (xB Z), xArr (t 0) (a 5) 12 E, xArr (t 0) (a 8) 12 u.1, xArr (t 0) (a 9) 12 u.2])) (o := some (.int (lastF E tc 0 0))) (args := ([.ref (a 0), .int p0] : List Value).toArray) (R, N) rfl (by simp [kIn, ok_1, eik_2, c_4]) (by first | (simp [cntR, ok_1, eik_2, c_4]; done) | (simp [cntR, ringC, ok_1, eik_2, c_4]; rw [ringA_any L Z hF tc 0 0 (R, N) (fun _ => 0, fun _ => 0) (by omega)])) hP hD hS
      exact W.iret hx hb hr hq9 hf9 dX0_count_83 hlocks
  · refine lv_tableIn (x := nI 5) (off := 77) (tgt := 84) hx hb dX0_count_7 (by decide) (by decide) rfl (by decide) ?_
    refine lv_aload_n hx hb dX0_count_84 rfl (lv_at hl 0 rfl) ?_
    refine xr_V (b := a 0) (As := []) (rest := []) ⟨hx, hb, hml, hown, hts⟩ (c_X0_tightRopes l D t a tc rc ro F T L Z E (by omega) (by omega) hF) (cwV 0 hts gX0_count_X0_tightRopes rfl rfl rfl hd_X0_tightRopes ⟨Nat.le_of_ble_eq_true rfl, Nat.le_of_ble_eq_true rfl⟩) hK hP (va_recv hK hP (ci := 0) (q0 := 0) rfl rfl) [0, 1, 2, 3, 4, 5] rfl rfl hl.1 rfl (Nat.le_of_ble_eq_true rfl) dX0_count_85 ⟨(Nat.le_of_ble_eq_true rfl), (Nat.le_of_ble_eq_true rfl)⟩ ?_
    subst hAe
    refine W.widen (k := 1) (n := 6) (Nat.le_of_ble_eq_true rfl) (Nat.le_of_ble_eq_true rfl) ?_
    refine vx_ret ?_
    obtain ⟨hq9, hf9⟩ := xm_end (S := (Nat → Int32) × (Nat → Int32)) (pu := (fun u : (Nat → Int32) × (Nat → Int32) => kIn 7 p0 = 0)) (r := (fun u : (Nat → Int32) × (Nat → Int32) => some (.int (cntR ro E F T L Z tc rc (ix p0))))) (wc := [xObj a tc rc ro, xArr (t 0) (a 1) 30 (xN F), xArr (t 0) (a 2) 30 (xN T), xArr (t 0) (a 3) 30 L, xArr (t 1) (a 4) 30 (xB Z), xArr (t 0) (a 5) 12 E, xArr (t 0) (a 8) 12 R, xArr (t 0) (a 9) 12 N]) (w1 := (fun u : (Nat → Int32) × (Nat → Int32) => [xObj a tc rc ro, xArr (t 0) (a 1) 30 (xN F), xArr (t 0) (a 2) 30 (xN T), xArr (t 0) (a 3) 30 L, xArr (t 1) (a 4) 30 (xB Z), xArr (t 0) (a 5) 12 E, xArr (t 0) (a 8) 12 u.1, xArr (t 0) (a 9) 12 u.2])) (o := some (.int (nI (countF (tightB ro E F T L Z) rc 0 0)))) (args := ([.ref (a 0), .int p0] : List Value).toArray) (R, N) rfl (by simp [kIn, ok_1, eik_2]) (by first | (simp [cntR, ok_1, eik_2]; done) | (simp [cntR, ringC, ok_1, eik_2]; rw [ringA_any L Z hF tc 0 0 (R, N) (fun _ => 0, fun _ => 0) (by omega)])) hP hD hS
    exact W.iret hx hb hr hq9 hf9 dX0_count_88 hlocks
  · refine lv_tableOut (x := nI k_2) (tgt := 89) hx hb dX0_count_7 (Or.inr (by rw [nI_toInt (by omega)]; omega)) (by decide) ?_
    refine lv_aload_n hx hb dX0_count_89 rfl (lv_at hl 0 rfl) ?_
    refine xr_V (b := a 0) (As := []) (rest := []) ⟨hx, hb, hml, hown, hts⟩ (c_X0_isPossible l D t a tc rc ro) (cwV 0 hts gX0_count_X0_isPossible rfl rfl rfl hd_X0_isPossible ⟨Nat.le_of_ble_eq_true rfl, Nat.le_of_ble_eq_true rfl⟩) hK hP (va_recv hK hP (ci := 0) (q0 := 0) rfl rfl) [0] rfl rfl hl.1 rfl (Nat.le_of_ble_eq_true rfl) dX0_count_90 ⟨(Nat.le_of_ble_eq_true rfl), (Nat.le_of_ble_eq_true rfl)⟩ ?_
    refine lv_if_eq (x := bI (decide (¬ ro = -1))) (tgt := 100) hx hb dX0_count_93 (by decide) (fun c_5 => ?_) (fun c_5 => ?_)
    · have c_5 := Classical.not_not.mp (of_decide_eq_false (bI_0 c_5))
      refine lv_aload_n hx hb dX0_count_100 rfl (lv_at hl 0 rfl) ?_
      refine xm_V (b := a 0) (As := []) (rest := []) (wr := [xArr (t 0) (a 5) 12 E]) ⟨hx, hb, hml, hown, hts⟩ xTrav_T (c_X0_shortRingLength l D t a tc rc ro F T L Z R N _ (by omega) (by omega) hF) (cwV 0 hts gX0_count_X0_shortRingLength rfl rfl rfl hd_X0_shortRingLength ⟨Nat.le_of_ble_eq_true rfl, Nat.le_of_ble_eq_true rfl⟩) hK hP hD hS hA (fun _ _ _ => trivial) (va_recv hK hP (ci := 0) (q0 := 0) rfl rfl) [0, 1, 2, 3, 4, 6, 7] [5] rfl rfl (by decide) (by decide) (by decide) rfl hl.1 rfl (Nat.le_of_ble_eq_true rfl) dX0_count_101 ⟨(Nat.le_of_ble_eq_true rfl), (Nat.le_of_ble_eq_true rfl)⟩ (fun u_6 H locs hu hP hD hS hz => ?_)
      have hP : va_P D vwCl ([xObj a tc rc ro, xArr (t 0) (a 1) 30 (xN F), xArr (t 0) (a 2) 30 (xN T), xArr (t 0) (a 3) 30 L, xArr (t 1) (a 4) 30 (xB Z), xArr (t 0) (a 5) 12 E, xArr (t 0) (a 8) 12 ((ringA F T L Z tc rc tc 0 0 (R, N)).2.1), xArr (t 0) (a 9) 12 ((ringA F T L Z tc rc tc 0 0 (R, N)).2.2)]) H := hP.sub [1, 2, 3, 4, 5, 0, 6, 7] rfl
      have hD : va_D _ ([xObj a tc rc ro, xArr (t 0) (a 1) 30 (xN F), xArr (t 0) (a 2) 30 (xN T), xArr (t 0) (a 3) 30 L, xArr (t 1) (a 4) 30 (xB Z), xArr (t 0) (a 5) 12 E, xArr (t 0) (a 8) 12 ((ringA F T L Z tc rc tc 0 0 (R, N)).2.1), xArr (t 0) (a 9) 12 ((ringA F T L Z tc rc tc 0 0 (R, N)).2.2)]) := hD.sub [1, 2, 3, 4, 5, 0, 6, 7] (by decide) rfl
      subst hAe
      refine W.widen (k := 1) (n := 6) (Nat.le_of_ble_eq_true rfl) (Nat.le_of_ble_eq_true rfl) ?_
      refine vx_ret ?_
      obtain ⟨hq9, hf9⟩ := xm_end (S := (Nat → Int32) × (Nat → Int32)) (pu := (fun u : (Nat → Int32) × (Nat → Int32) => kIn 7 p0 = 0)) (r := (fun u : (Nat → Int32) × (Nat → Int32) => some (.int (cntR ro E F T L Z tc rc (ix p0))))) (wc := [xObj a tc rc ro, xArr (t 0) (a 1) 30 (xN F), xArr (t 0) (a 2) 30 (xN T), xArr (t 0) (a 3) 30 L, xArr (t 1) (a 4) 30 (xB Z), xArr (t 0) (a 5) 12 E, xArr (t 0) (a 8) 12 R, xArr (t 0) (a 9) 12 N]) (w1 := (fun u : (Nat → Int32) × (Nat → Int32) => [xObj a tc rc ro, xArr (t 0) (a 1) 30 (xN F), xArr (t 0) (a 2) 30 (xN T), xArr (t 0) (a 3) 30 L, xArr (t 1) (a 4) 30 (xB Z), xArr (t 0) (a 5) 12 E, xArr (t 0) (a 8) 12 u.1, xArr (t 0) (a 9) 12 u.2])) (o := some (.int (nI ((ringA F T L Z tc rc tc 0 0 (R, N)).1)))) (args := ([.ref (a 0), .int p0] : List Value).toArray) ((ringA F T L Z tc rc tc 0 0 (R, N)).2.1, (ringA F T L Z tc rc tc 0 0 (R, N)).2.2) rfl (by simp [kIn, ok_1, eik_2, Nat.ne_of_gt (Nat.lt_of_le_of_lt (Nat.zero_le _) hgt_3), (show ¬ k_2 = 0 by omega), (show ¬ k_2 = 1 by omega), (show ¬ k_2 = 2 by omega), (show ¬ k_2 = 3 by omega), (show ¬ k_2 = 4 by omega), (show ¬ k_2 = 5 by omega), c_5]) (by first | (simp [cntR, ok_1, eik_2, Nat.ne_of_gt (Nat.lt_of_le_of_lt (Nat.zero_le _) hgt_3), (show ¬ k_2 = 0 by omega), (show ¬ k_2 = 1 by omega), (show ¬ k_2 = 2 by omega), (show ¬ k_2 = 3 by omega), (show ¬ k_2 = 4 by omega), (show ¬ k_2 = 5 by omega), c_5]; done) | (simp [cntR, ringC, ok_1, eik_2, Nat.ne_of_gt (Nat.lt_of_le_of_lt (Nat.zero_le _) hgt_3), (show ¬ k_2 = 0 by omega), (show ¬ k_2 = 1 by omega), (show ¬ k_2 = 2 by omega), (show ¬ k_2 = 3 by omega), (show ¬ k_2 = 4 by omega), (show ¬ k_2 = 5 by omega), c_5]; rw [ringA_any L Z hF tc 0 0 (R, N) (fun _ => 0, fun _ => 0) (by omega)])) hP hD hS
      exact W.iret hx hb hr hq9 hf9 dX0_count_104 hlocks
    · have c_5 := of_decide_eq_true (bI_n0 c_5)
      refine lv_iconst (v := 0) hx hb dX0_count_96 (by decide) ?_
      refine lv_goto (tgt := 104) hx hb dX0_count_97 (by decide) ?_
      subst hAe
      refine W.widen (k := 1) (n := 6) (Nat.le_of_ble_eq_true rfl) (Nat.le_of_ble_eq_true rfl) ?_
      refine vx_ret ?_
      obtain ⟨hq9, hf9⟩ := xm_end (S := (Nat → Int32) × (Nat → Int32)) (pu := (fun u : (Nat → Int32) × (Nat → Int32) => kIn 7 p0 = 0)) (r := (fun u : (Nat → Int32) × (Nat → Int32) => some (.int (cntR ro E F T L Z tc rc (ix p0))))) (wc := [xObj a tc rc ro, xArr (t 0) (a 1) 30 (xN F), xArr (t 0) (a 2) 30 (xN T), xArr (t 0) (a 3) 30 L, xArr (t 1) (a 4) 30 (xB Z), xArr (t 0) (a 5) 12 E, xArr (t 0) (a 8) 12 R, xArr (t 0) (a 9) 12 N]) (w1 := (fun u : (Nat → Int32) × (Nat → Int32) => [xObj a tc rc ro, xArr (t 0) (a 1) 30 (xN F), xArr (t 0) (a 2) 30 (xN T), xArr (t 0) (a 3) 30 L, xArr (t 1) (a 4) 30 (xB Z), xArr (t 0) (a 5) 12 E, xArr (t 0) (a 8) 12 u.1, xArr (t 0) (a 9) 12 u.2])) (o := some (.int 0)) (args := ([.ref (a 0), .int p0] : List Value).toArray) (R, N) rfl (by simp [kIn, ok_1, eik_2, Nat.ne_of_gt (Nat.lt_of_le_of_lt (Nat.zero_le _) hgt_3), (show ¬ k_2 = 0 by omega), (show ¬ k_2 = 1 by omega), (show ¬ k_2 = 2 by omega), (show ¬ k_2 = 3 by omega), (show ¬ k_2 = 4 by omega), (show ¬ k_2 = 5 by omega), c_5]) (by first | (simp [cntR, ok_1, eik_2, Nat.ne_of_gt (Nat.lt_of_le_of_lt (Nat.zero_le _) hgt_3), (show ¬ k_2 = 0 by omega), (show ¬ k_2 = 1 by omega), (show ¬ k_2 = 2 by omega), (show ¬ k_2 = 3 by omega), (show ¬ k_2 = 4 by omega), (show ¬ k_2 = 5 by omega), c_5]; done) | (simp [cntR, ringC, ok_1, eik_2, Nat.ne_of_gt (Nat.lt_of_le_of_lt (Nat.zero_le _) hgt_3), (show ¬ k_2 = 0 by omega), (show ¬ k_2 = 1 by omega), (show ¬ k_2 = 2 by omega), (show ¬ k_2 = 3 by omega), (show ¬ k_2 = 4 by omega), (show ¬ k_2 = 5 by omega), c_5]; rw [ringA_any L Z hF tc 0 0 (R, N) (fun _ => 0, fun _ => 0) (by omega)])) hP hD hS
      exact W.iret hx hb hr hq9 hf9 dX0_count_104 hlocks
set_option maxHeartbeats 4000000 in
set_option maxRecDepth 100000 in
theorem c_X0_advise (l : Launch) (D : va_G) (t : Nat → ClassId) (a : Nat → Nat) (tc rc : Nat) (ro : Int32) (F T : Nat → Nat) (L : Nat → Int32) (Z : Nat → Bool) (E X : Nat → Int32) (sz : Nat) (htc : tc ≤ 12) (hrc : rc ≤ 30) (hF : ∀ r, r < rc → F r < tc ∧ T r < tc) : Met l yX0_advise wsX0_advise ({ frames := 2, cells := 0, slots := 0, locals := 48 }) (xMu D (xTy t) (fun _ => True) [.ref (a 0)] [xObj a tc rc ro, xArr (t 0) (a 1) 30 (xN F), xArr (t 0) (a 2) 30 (xN T), xArr (t 0) (a 3) 30 L, xArr (t 1) (a 4) 30 (xB Z), xArr (t 0) (a 5) 12 E, xArr (t 0) (a 7) 12 X] sz) (xQm D (fun u : Nat → Int32 => True) (fun u : Nat → Int32 => some (.int (advC ro E F T L Z tc rc))) [xObj a tc rc ro, xArr (t 0) (a 1) 30 (xN F), xArr (t 0) (a 2) 30 (xN T), xArr (t 0) (a 3) 30 L, xArr (t 1) (a 4) 30 (xB Z), xArr (t 0) (a 5) 12 E, xArr (t 0) (a 7) 12 X] (fun u : Nat → Int32 => [xObj a tc rc ro, xArr (t 0) (a 1) 30 (xN F), xArr (t 0) (a 2) 30 (xN T), xArr (t 0) (a 3) 30 L, xArr (t 1) (a 4) 30 (xB Z), xArr (t 0) (a 5) 12 E, xArr (t 0) (a 7) 12 u]) sz) 0 0 (va_A [xObj a tc rc ro, xArr (t 0) (a 1) 30 (xN F), xArr (t 0) (a 2) 30 (xN T), xArr (t 0) (a 3) 30 L, xArr (t 1) (a 4) 30 (xB Z), xArr (t 0) (a 5) 12 E, xArr (t 0) (a 7) 12 X] sz) := by
  refine Met.ofW (cc := cX0_advise) (maxL := 5) (ret := (some .int)) (by decide) rfl ?_
  intro p e s m args below meth c s₁ hB9 hml hv
  obtain ⟨rfl, hsz, hP, hK, hD0, hXX⟩ := hv
  have hx := hB9.exec
  have hb := hB9.bytes
  have hr := hB9.returns
  have hts := atoms_spec (ws := wsX0_advise) hB9.pre
  have hown : s.vm.findClass RX0 = some m.cls := findClass_of_methodNamed hB9.named
  have hlocks := hB9.notSynchronized
  have hin : ∀ w ∈ wsX00, w ∈ wsX0_advise := fun _ h => List.mem_cons_of_mem _ (List.mem_append_right _ h)
  have fl_23 := hts (.fieldLink RX0 23 "RopeTimes" "earliest" "[I") (by decide +kernel)
  have kc_121 := hts (.constant RX0 121 (99999)) (by decide +kernel)
  have fl_63 := hts (.fieldLink RX0 63 "RopeTimes" "ropeCount" "I") (by decide +kernel)
  have fl_19 := hts (.fieldLink RX0 19 "RopeTimes" "tied" "[Z") (by decide +kernel)
  have fl_29 := hts (.fieldLink RX0 29 "RopeTimes" "trial" "[I") (by decide +kernel)
  subst hsz
  have hD := hD0.self (sz := s.heap.size)
  generalize hAe : va_A ([xObj a tc rc ro, xArr (t 0) (a 1) 30 (xN F), xArr (t 0) (a 2) 30 (xN T), xArr (t 0) (a 3) 30 L, xArr (t 1) (a 4) 30 (xB Z), xArr (t 0) (a 5) 12 E, xArr (t 0) (a 7) 12 X]) s.heap.size = A at hD ⊢
  have hA : ∀ q : Nat, s.heap.size ≤ q → A q := fun q h => by rw [← hAe]; exact Or.inr h
  have hS : va_S A s.heap s.heap [] := va_S.rf
  have hP : va_P D vwCl ([xObj a tc rc ro, xArr (t 0) (a 1) 30 (xN F), xArr (t 0) (a 2) 30 (xN T), xArr (t 0) (a 3) 30 L, xArr (t 1) (a 4) 30 (xB Z), xArr (t 0) (a 5) 12 E, xArr (t 0) (a 7) 12 X]) s.heap := hP
  have hD : va_D A ([xObj a tc rc ro, xArr (t 0) (a 1) 30 (xN F), xArr (t 0) (a 2) 30 (xN T), xArr (t 0) (a 3) 30 L, xArr (t 1) (a 4) 30 (xB Z), xArr (t 0) (a 5) 12 E, xArr (t 0) (a 7) 12 X]) := hD
  have hl := lv_entry ([.ref (a 0)]) (n := 5) (Nat.le_of_ble_eq_true rfl)
  rw [lg_entry_eq]
  generalize (lg_sl ([.ref (a 0)]) ++ List.replicate (5 - (lg_sl ([.ref (a 0)])).length) Slot.unset).toArray = ls at hl ⊢
  have hl : lv_has ls 5 [(0, .ref (a 0))] := hl
  refine lv_iconst (v := (-1)) hx hb dX0_advise_0 (by decide) ?_
  refine lv_istore_n (lv' := [(1, .int (-1)), (0, .ref (a 0))]) hx hb dX0_advise_1 rfl hl (by decide) rfl (fun ls hl => ?_)
  refine lv_aload_n hx hb dX0_advise_2 rfl (lv_at hl 1 rfl) ?_
  refine xr_V (b := a 0) (As := []) (rest := []) ⟨hx, hb, hml, hown, hts⟩ (c_X0_isPossible l D t a tc rc ro) (cwV 0 hts gX0_advise_X0_isPossible rfl rfl rfl hd_X0_isPossible ⟨Nat.le_of_ble_eq_true rfl, Nat.le_of_ble_eq_true rfl⟩) hK hP (va_recv hK hP (ci := 0) (q0 := 0) rfl rfl) [0] rfl rfl hl.1 rfl (Nat.le_of_ble_eq_true rfl) dX0_advise_3 ⟨(Nat.le_of_ble_eq_true rfl), (Nat.le_of_ble_eq_true rfl)⟩ ?_
  refine lv_if_eq (x := bI (decide (¬ ro = -1))) (tgt := 20) hx hb dX0_advise_6 (by decide) (fun c_1 => ?_) (fun c_1 => ?_)
  · have c_1 := Classical.not_not.mp (of_decide_eq_false (bI_0 c_1))
    refine lv_ldc (v := 99999) hx hb hown kc_121 dX0_advise_20 ?_
    refine lv_istore_n (lv' := [(2, .int 99999), (1, .int (-1)), (0, .ref (a 0))]) hx hb dX0_advise_22 rfl hl (by decide) rfl (fun ls hl => ?_)
    refine lv_iconst (v := 0) hx hb dX0_advise_23 (by decide) ?_
    refine lv_istore_n (lv' := [(3, .int 0), (2, .int 99999), (1, .int (-1)), (0, .ref (a 0))]) hx hb dX0_advise_24 rfl hl (by decide) rfl (fun ls hl => ?_)
    have lp_25 : ∀ (n25 : Nat) (r : Nat) (best : Int32) (least : Int32) (X1 : Nat → Int32), r + n25 = rc → advL F T L Z tc rc n25 r best least X1 = advL F T L Z tc rc rc 0 (-1) 99999 X → ∀ (H : Heap) (locs : List Loc), va_P D vwCl ([xObj a tc rc ro, xArr (t 0) (a 1) 30 (xN F), xArr (t 0) (a 2) 30 (xN T), xArr (t 0) (a 3) 30 L, xArr (t 1) (a 4) 30 (xB Z), xArr (t 0) (a 5) 12 E, xArr (t 0) (a 7) 12 X1]) H → va_D A ([xObj a tc rc ro, xArr (t 0) (a 1) 30 (xN F), xArr (t 0) (a 2) 30 (xN T), xArr (t 0) (a 3) 30 L, xArr (t 1) (a 4) 30 (xB Z), xArr (t 0) (a 5) 12 E, xArr (t 0) (a 7) 12 X1]) → va_S A s.heap H locs → ∀ ls : Array Slot, lv_has ls 5 [(3, .int (nI r)), (2, .int least), (1, .int best), (0, .ref (a 0))] → W p l e (headSpec wsX0_advise ({ frames := 2, cells := 0, slots := 0, locals := 48 } : Jvm.Room)).room s m (([.ref (a 0)] : List Value).toArray) below meth c H locs 0 0 (MQ below (xQm D (fun u : Nat → Int32 => True) (fun u : Nat → Int32 => some (.int (advC ro E F T L Z tc rc))) [xObj a tc rc ro, xArr (t 0) (a 1) 30 (xN F), xArr (t 0) (a 2) 30 (xN T), xArr (t 0) (a 3) 30 L, xArr (t 1) (a 4) 30 (xB Z), xArr (t 0) (a 5) 12 E, xArr (t 0) (a 7) 12 X] (fun u : Nat → Int32 => [xObj a tc rc ro, xArr (t 0) (a 1) 30 (xN F), xArr (t 0) (a 2) 30 (xN T), xArr (t 0) (a 3) 30 L, xArr (t 1) (a 4) 30 (xB Z), xArr (t 0) (a 5) 12 E, xArr (t 0) (a 7) 12 u]) s.heap.size) (([.ref (a 0)] : List Value).toArray) s 0 0 A) (F0 m 25 ls []) := by
      intro n25
      induction n25 using Nat.strongRecOn with
      | _ n25 ih_25 =>
        intro r best least X1 hm_25 hfin_25 H locs hP hD hS ls hl
        refine lv_iload_n hx hb dX0_advise_25 rfl (lv_at hl 0 rfl) ?_
        refine lv_aload_n hx hb dX0_advise_26 rfl (lv_at hl 3 rfl) ?_
        refine x0_get (v := .int (nI rc)) hx hb hts hin hown hK hP 0 rfl 1 (by decide) fl_63 rfl dX0_advise_27 rfl ?_
        refine lv_icmp_ge (x := nI r) (y := nI rc) (tgt := 82) hx hb dX0_advise_30 (by decide) (fun c_2 => ?_) (fun c_2 => ?_)
        · have c_2 := (nI_leI (a := rc) (b := r) (by omega) (by omega)).mp c_2
          have hn0_25 : n25 = 0 := by omega
          subst hn0_25
          obtain rfl : best = advL F T L Z tc rc rc 0 (-1) 99999 X := hfin_25
          refine lv_iload_n hx hb dX0_advise_82 rfl (lv_at hl 2 rfl) ?_
          subst hAe
          obtain ⟨hq9, hf9⟩ := xm_end (S := Nat → Int32) (pu := (fun u : Nat → Int32 => True)) (r := (fun u : Nat → Int32 => some (.int (advC ro E F T L Z tc rc)))) (wc := [xObj a tc rc ro, xArr (t 0) (a 1) 30 (xN F), xArr (t 0) (a 2) 30 (xN T), xArr (t 0) (a 3) 30 L, xArr (t 1) (a 4) 30 (xB Z), xArr (t 0) (a 5) 12 E, xArr (t 0) (a 7) 12 X]) (w1 := (fun u : Nat → Int32 => [xObj a tc rc ro, xArr (t 0) (a 1) 30 (xN F), xArr (t 0) (a 2) 30 (xN T), xArr (t 0) (a 3) 30 L, xArr (t 1) (a 4) 30 (xB Z), xArr (t 0) (a 5) 12 E, xArr (t 0) (a 7) 12 u])) (o := some (.int (advL F T L Z tc rc rc 0 (-1) 99999 X))) (args := ([.ref (a 0)] : List Value).toArray) X1 rfl trivial (by rw [advL_any L Z hF rc 0 _ _ X (fun _ => 0)]; simp [advC, c_1, c_2, Nat.not_lt.mpr c_2]) hP hD hS
          exact W.iret hx hb hr hq9 hf9 dX0_advise_83 hlocks
        · have c_2 : r < rc := Nat.lt_of_not_le (fun z9 => c_2 ((nI_leI (a := rc) (b := r) (by omega) (by omega)).mpr z9))
          obtain ⟨n259, rfl⟩ : ∃ z, n25 = z + 1 := ⟨n25 - 1, by omega⟩
          refine lv_aload_n hx hb dX0_advise_33 rfl (lv_at hl 3 rfl) ?_
          refine x0_get (v := .ref (a 4)) hx hb hts hin hown hK hP 0 rfl 5 (by decide) fl_19 rfl dX0_advise_34 rfl ?_
          refine lv_iload_n hx hb dX0_advise_37 rfl (lv_at hl 0 rfl) ?_
          refine x_zald (f := xB Z) hx hb hK hP 4 1 rfl rfl (k := r) (by omega) (Nat.le_of_ble_eq_true rfl) dX0_advise_38 ?_
          refine x_top (w := bI (Z r)) rfl ?_
          refine lv_if_eq (x := bI (Z r)) (tgt := 76) hx hb dX0_advise_39 (by decide) (fun c_3 => ?_) (fun c_3 => ?_)
          · have c_3 := bI_0 c_3
            refine lv_iinc (v := nI (r + 1)) (lv' := [(3, .int (nI (r + 1))), (2, .int least), (1, .int best), (0, .ref (a 0))]) hx hb dX0_advise_76 hl (k := 0) rfl (x_inc _) (by decide) rfl (fun ls hl => ?_)
            refine lv_goto (tgt := 25) hx hb dX0_advise_79 (by decide) ?_
            exact ih_25 n259 (by omega) (r + 1) best least X1 (by omega) (by rw [← hfin_25]; simp [advL, c_1, c_2, c_3]) _ _ hP hD hS _ (lv_sub hl [0, 1, 2, 3] rfl)
          · have c_3 := bI_n0 c_3
            refine lv_aload_n hx hb dX0_advise_42 rfl (lv_at hl 3 rfl) ?_
            refine lv_aload_n hx hb dX0_advise_43 rfl (lv_at hl 3 rfl) ?_
            refine x0_get (v := .ref (a 7)) hx hb hts hin hown hK hP 0 rfl 9 (by decide) fl_29 rfl dX0_advise_44 rfl ?_
            refine lv_iload_n hx hb dX0_advise_47 rfl (lv_at hl 0 rfl) ?_
            refine xm_V (b := a 0) (As := [.ref (a 7), .int (nI r)]) (rest := []) (wr := [xArr (t 0) (a 5) 12 E]) ⟨hx, hb, hml, hown, hts⟩ xTrav_T (c_X0_findEarliest l D t a tc rc ro F T L Z (a 7) X1 (nI r) _ (by omega) (by omega) hF) (cwV 2 hts gX0_advise_X0_findEarliest rfl rfl rfl hd_X0_findEarliest ⟨Nat.le_of_ble_eq_true rfl, Nat.le_of_ble_eq_true rfl⟩) hK hP hD hS hA (fun _ _ _ => trivial) (va_recv hK hP (ci := 0) (q0 := 0) rfl rfl) [0, 1, 2, 3, 4, 6] [5] rfl rfl (by decide) (by decide) (by decide) rfl hl.1 rfl (Nat.le_of_ble_eq_true rfl) dX0_advise_48 ⟨(Nat.le_of_ble_eq_true rfl), (Nat.le_of_ble_eq_true rfl)⟩ (fun u_4 H locs hu hP hD hS hz => ?_)
            have hP : va_P D vwCl ([xObj a tc rc ro, xArr (t 0) (a 1) 30 (xN F), xArr (t 0) (a 2) 30 (xN T), xArr (t 0) (a 3) 30 L, xArr (t 1) (a 4) 30 (xB Z), xArr (t 0) (a 5) 12 E, xArr (t 0) (a 7) 12 ((findE F T L (actC Z (nI r)) tc rc X1).1)]) H := hP.sub [1, 2, 3, 4, 5, 0, 6] rfl
            have hD : va_D _ ([xObj a tc rc ro, xArr (t 0) (a 1) 30 (xN F), xArr (t 0) (a 2) 30 (xN T), xArr (t 0) (a 3) 30 L, xArr (t 1) (a 4) 30 (xB Z), xArr (t 0) (a 5) 12 E, xArr (t 0) (a 7) 12 ((findE F T L (actC Z (nI r)) tc rc X1).1)]) := hD.sub [1, 2, 3, 4, 5, 0, 6] (by decide) rfl
            refine lv_iconst (v := (-1)) hx hb dX0_advise_51 (by decide) ?_
            refine lv_icmp_eq (x := (findE F T L (actC Z (nI r)) tc rc X1).2) (y := (-1)) (tgt := 76) hx hb dX0_advise_52 (by decide) (fun c_5 => ?_) (fun c_5 => ?_)
            · refine lv_iinc (v := nI (r + 1)) (lv' := [(3, .int (nI (r + 1))), (2, .int least), (1, .int best), (0, .ref (a 0))]) hx hb dX0_advise_76 hl (k := 0) rfl (x_inc _) (by decide) rfl (fun ls hl => ?_)
              refine lv_goto (tgt := 25) hx hb dX0_advise_79 (by decide) ?_
              exact ih_25 n259 (by omega) (r + 1) best least ((findE F T L (actC Z (nI r)) tc rc X1).1) (by omega) (by rw [← hfin_25]; simp [advL, c_1, c_2, c_3, c_5]) _ _ hP hD hS _ (lv_sub hl [0, 1, 2, 3] rfl)
            · refine lv_aload_n hx hb dX0_advise_55 rfl (lv_at hl 3 rfl) ?_
              refine lv_aload_n hx hb dX0_advise_56 rfl (lv_at hl 3 rfl) ?_
              refine x0_get (v := .ref (a 7)) hx hb hts hin hown hK hP 0 rfl 9 (by decide) fl_29 rfl dX0_advise_57 rfl ?_
              refine xr_V (b := a 0) (As := [.ref (a 7)]) (rest := []) ⟨hx, hb, hml, hown, hts⟩ (c_X0_lastOf l D t a tc rc ro (a 7) ((findE F T L (actC Z (nI r)) tc rc X1).1) (by omega)) (cwV 1 hts gX0_advise_X0_lastOf rfl rfl rfl hd_X0_lastOf ⟨Nat.le_of_ble_eq_true rfl, Nat.le_of_ble_eq_true rfl⟩) hK hP (va_recv hK hP (ci := 0) (q0 := 0) rfl rfl) [0, 6] rfl rfl hl.1 rfl (Nat.le_of_ble_eq_true rfl) dX0_advise_60 ⟨(Nat.le_of_ble_eq_true rfl), (Nat.le_of_ble_eq_true rfl)⟩ ?_
              refine lv_istore (lv' := [(4, .int (lastF ((findE F T L (actC Z (nI r)) tc rc X1).1) tc 0 0)), (3, .int (nI r)), (2, .int least), (1, .int best), (0, .ref (a 0))]) hx hb dX0_advise_63 hl (by decide) rfl (fun ls hl => ?_)
              refine lv_iload hx hb dX0_advise_65 (lv_at hl 0 rfl) ?_
              refine lv_iload_n hx hb dX0_advise_67 rfl (lv_at hl 2 rfl) ?_
              refine lv_icmp_ge (x := lastF ((findE F T L (actC Z (nI r)) tc rc X1).1) tc 0 0) (y := least) (tgt := 76) hx hb dX0_advise_68 (by decide) (fun c_6 => ?_) (fun c_6 => ?_)
              · have c_6 := Int32.not_lt.mpr c_6
                refine lv_iinc (v := nI (r + 1)) (lv' := [(3, .int (nI (r + 1))), (4, .int (lastF ((findE F T L (actC Z (nI r)) tc rc X1).1) tc 0 0)), (2, .int least), (1, .int best), (0, .ref (a 0))]) hx hb dX0_advise_76 hl (k := 1) rfl (x_inc _) (by decide) rfl (fun ls hl => ?_)
                refine lv_goto (tgt := 25) hx hb dX0_advise_79 (by decide) ?_
                exact ih_25 n259 (by omega) (r + 1) best least ((findE F T L (actC Z (nI r)) tc rc X1).1) (by omega) (by rw [← hfin_25]; simp [advL, c_1, c_2, c_3, c_5, c_6]) _ _ hP hD hS _ (lv_sub hl [0, 2, 3, 4] rfl)
              · have c_6 := Int32.not_le.mp c_6
                refine lv_iload hx hb dX0_advise_71 (lv_at hl 0 rfl) ?_
                refine lv_istore_n (lv' := [(2, .int (lastF ((findE F T L (actC Z (nI r)) tc rc X1).1) tc 0 0)), (4, .int (lastF ((findE F T L (actC Z (nI r)) tc rc X1).1) tc 0 0)), (3, .int (nI r)), (1, .int best), (0, .ref (a 0))]) hx hb dX0_advise_73 rfl hl (by decide) rfl (fun ls hl => ?_)
                refine lv_iload_n hx hb dX0_advise_74 rfl (lv_at hl 2 rfl) ?_
                refine lv_istore_n (lv' := [(1, .int (nI r)), (2, .int (lastF ((findE F T L (actC Z (nI r)) tc rc X1).1) tc 0 0)), (4, .int (lastF ((findE F T L (actC Z (nI r)) tc rc X1).1) tc 0 0)), (3, .int (nI r)), (0, .ref (a 0))]) hx hb dX0_advise_75 rfl hl (by decide) rfl (fun ls hl => ?_)
                refine lv_iinc (v := nI (r + 1)) (lv' := [(3, .int (nI (r + 1))), (1, .int (nI r)), (2, .int (lastF ((findE F T L (actC Z (nI r)) tc rc X1).1) tc 0 0)), (4, .int (lastF ((findE F T L (actC Z (nI r)) tc rc X1).1) tc 0 0)), (0, .ref (a 0))]) hx hb dX0_advise_76 hl (k := 3) rfl (x_inc _) (by decide) rfl (fun ls hl => ?_)
                refine lv_goto (tgt := 25) hx hb dX0_advise_79 (by decide) ?_
                exact ih_25 n259 (by omega) (r + 1) (nI r) (lastF ((findE F T L (actC Z (nI r)) tc rc X1).1) tc 0 0) ((findE F T L (actC Z (nI r)) tc rc X1).1) (by omega) (by rw [← hfin_25]; simp [advL, c_1, c_2, c_3, c_5, c_6]) _ _ hP hD hS _ (lv_sub hl [0, 2, 1, 4] rfl)
    exact lp_25 rc 0 (-1) 99999 X (by omega) rfl _ _ hP hD hS _ (lv_sub hl [0, 1, 2, 3] rfl)
  · have c_1 := of_decide_eq_true (bI_n0 c_1)
    refine lv_aload_n hx hb dX0_advise_9 rfl (lv_at hl 1 rfl) ?_
    refine lv_aload_n hx hb dX0_advise_10 rfl (lv_at hl 1 rfl) ?_
    refine x0_get (v := .ref (a 5)) hx hb hts hin hown hK hP 0 rfl 7 (by decide) fl_23 rfl dX0_advise_11 rfl ?_
    refine xr_V (b := a 0) (As := [.ref (a 5)]) (rest := []) ⟨hx, hb, hml, hown, hts⟩ (c_X0_lastOf l D t a tc rc ro (a 5) E (by omega)) (cwV 1 hts gX0_advise_X0_lastOf rfl rfl rfl hd_X0_lastOf ⟨Nat.le_of_ble_eq_true rfl, Nat.le_of_ble_eq_true rfl⟩) hK hP (va_recv hK hP (ci := 0) (q0 := 0) rfl rfl) [0, 5] rfl rfl hl.1 rfl (Nat.le_of_ble_eq_true rfl) dX0_advise_14 ⟨(Nat.le_of_ble_eq_true rfl), (Nat.le_of_ble_eq_true rfl)⟩ ?_
    refine lv_goto (tgt := 22) hx hb dX0_advise_17 (by decide) ?_
    refine lv_istore_n (lv' := [(2, .int (lastF E tc 0 0)), (1, .int (-1)), (0, .ref (a 0))]) hx hb dX0_advise_22 rfl hl (by decide) rfl (fun ls hl => ?_)
    refine lv_iconst (v := 0) hx hb dX0_advise_23 (by decide) ?_
    refine lv_istore_n (lv' := [(3, .int 0), (2, .int (lastF E tc 0 0)), (1, .int (-1)), (0, .ref (a 0))]) hx hb dX0_advise_24 rfl hl (by decide) rfl (fun ls hl => ?_)
    have lp_25 : ∀ (n25 : Nat) (r : Nat) (best : Int32) (least : Int32) (X1 : Nat → Int32), r + n25 = rc → advL F T L Z tc rc n25 r best least X1 = advL F T L Z tc rc rc 0 (-1) (lastF E tc 0 0) X → ∀ (H : Heap) (locs : List Loc), va_P D vwCl ([xObj a tc rc ro, xArr (t 0) (a 1) 30 (xN F), xArr (t 0) (a 2) 30 (xN T), xArr (t 0) (a 3) 30 L, xArr (t 1) (a 4) 30 (xB Z), xArr (t 0) (a 5) 12 E, xArr (t 0) (a 7) 12 X1]) H → va_D A ([xObj a tc rc ro, xArr (t 0) (a 1) 30 (xN F), xArr (t 0) (a 2) 30 (xN T), xArr (t 0) (a 3) 30 L, xArr (t 1) (a 4) 30 (xB Z), xArr (t 0) (a 5) 12 E, xArr (t 0) (a 7) 12 X1]) → va_S A s.heap H locs → ∀ ls : Array Slot, lv_has ls 5 [(3, .int (nI r)), (2, .int least), (1, .int best), (0, .ref (a 0))] → W p l e (headSpec wsX0_advise ({ frames := 2, cells := 0, slots := 0, locals := 48 } : Jvm.Room)).room s m (([.ref (a 0)] : List Value).toArray) below meth c H locs 0 0 (MQ below (xQm D (fun u : Nat → Int32 => True) (fun u : Nat → Int32 => some (.int (advC ro E F T L Z tc rc))) [xObj a tc rc ro, xArr (t 0) (a 1) 30 (xN F), xArr (t 0) (a 2) 30 (xN T), xArr (t 0) (a 3) 30 L, xArr (t 1) (a 4) 30 (xB Z), xArr (t 0) (a 5) 12 E, xArr (t 0) (a 7) 12 X] (fun u : Nat → Int32 => [xObj a tc rc ro, xArr (t 0) (a 1) 30 (xN F), xArr (t 0) (a 2) 30 (xN T), xArr (t 0) (a 3) 30 L, xArr (t 1) (a 4) 30 (xB Z), xArr (t 0) (a 5) 12 E, xArr (t 0) (a 7) 12 u]) s.heap.size) (([.ref (a 0)] : List Value).toArray) s 0 0 A) (F0 m 25 ls []) := by
      intro n25
      induction n25 using Nat.strongRecOn with
      | _ n25 ih_25 =>
        intro r best least X1 hm_25 hfin_25 H locs hP hD hS ls hl
        refine lv_iload_n hx hb dX0_advise_25 rfl (lv_at hl 0 rfl) ?_
        refine lv_aload_n hx hb dX0_advise_26 rfl (lv_at hl 3 rfl) ?_
        refine x0_get (v := .int (nI rc)) hx hb hts hin hown hK hP 0 rfl 1 (by decide) fl_63 rfl dX0_advise_27 rfl ?_
        refine lv_icmp_ge (x := nI r) (y := nI rc) (tgt := 82) hx hb dX0_advise_30 (by decide) (fun c_7 => ?_) (fun c_7 => ?_)
        · have c_7 := (nI_leI (a := rc) (b := r) (by omega) (by omega)).mp c_7
          have hn0_25 : n25 = 0 := by omega
          subst hn0_25
          obtain rfl : best = advL F T L Z tc rc rc 0 (-1) (lastF E tc 0 0) X := hfin_25
          refine lv_iload_n hx hb dX0_advise_82 rfl (lv_at hl 2 rfl) ?_
          subst hAe
          obtain ⟨hq9, hf9⟩ := xm_end (S := Nat → Int32) (pu := (fun u : Nat → Int32 => True)) (r := (fun u : Nat → Int32 => some (.int (advC ro E F T L Z tc rc)))) (wc := [xObj a tc rc ro, xArr (t 0) (a 1) 30 (xN F), xArr (t 0) (a 2) 30 (xN T), xArr (t 0) (a 3) 30 L, xArr (t 1) (a 4) 30 (xB Z), xArr (t 0) (a 5) 12 E, xArr (t 0) (a 7) 12 X]) (w1 := (fun u : Nat → Int32 => [xObj a tc rc ro, xArr (t 0) (a 1) 30 (xN F), xArr (t 0) (a 2) 30 (xN T), xArr (t 0) (a 3) 30 L, xArr (t 1) (a 4) 30 (xB Z), xArr (t 0) (a 5) 12 E, xArr (t 0) (a 7) 12 u])) (o := some (.int (advL F T L Z tc rc rc 0 (-1) (lastF E tc 0 0) X))) (args := ([.ref (a 0)] : List Value).toArray) X1 rfl trivial (by rw [advL_any L Z hF rc 0 _ _ X (fun _ => 0)]; simp [advC, c_1, c_7, Nat.not_lt.mpr c_7]) hP hD hS
          exact W.iret hx hb hr hq9 hf9 dX0_advise_83 hlocks
        · have c_7 : r < rc := Nat.lt_of_not_le (fun z9 => c_7 ((nI_leI (a := rc) (b := r) (by omega) (by omega)).mpr z9))
          obtain ⟨n259, rfl⟩ : ∃ z, n25 = z + 1 := ⟨n25 - 1, by omega⟩
          refine lv_aload_n hx hb dX0_advise_33 rfl (lv_at hl 3 rfl) ?_
          refine x0_get (v := .ref (a 4)) hx hb hts hin hown hK hP 0 rfl 5 (by decide) fl_19 rfl dX0_advise_34 rfl ?_
          refine lv_iload_n hx hb dX0_advise_37 rfl (lv_at hl 0 rfl) ?_
          refine x_zald (f := xB Z) hx hb hK hP 4 1 rfl rfl (k := r) (by omega) (Nat.le_of_ble_eq_true rfl) dX0_advise_38 ?_
          refine x_top (w := bI (Z r)) rfl ?_
          refine lv_if_eq (x := bI (Z r)) (tgt := 76) hx hb dX0_advise_39 (by decide) (fun c_8 => ?_) (fun c_8 => ?_)
          · have c_8 := bI_0 c_8
            refine lv_iinc (v := nI (r + 1)) (lv' := [(3, .int (nI (r + 1))), (2, .int least), (1, .int best), (0, .ref (a 0))]) hx hb dX0_advise_76 hl (k := 0) rfl (x_inc _) (by decide) rfl (fun ls hl => ?_)
            refine lv_goto (tgt := 25) hx hb dX0_advise_79 (by decide) ?_
            exact ih_25 n259 (by omega) (r + 1) best least X1 (by omega) (by rw [← hfin_25]; simp [advL, c_1, c_7, c_8]) _ _ hP hD hS _ (lv_sub hl [0, 1, 2, 3] rfl)
          · have c_8 := bI_n0 c_8
            refine lv_aload_n hx hb dX0_advise_42 rfl (lv_at hl 3 rfl) ?_
            refine lv_aload_n hx hb dX0_advise_43 rfl (lv_at hl 3 rfl) ?_
            refine x0_get (v := .ref (a 7)) hx hb hts hin hown hK hP 0 rfl 9 (by decide) fl_29 rfl dX0_advise_44 rfl ?_
            refine lv_iload_n hx hb dX0_advise_47 rfl (lv_at hl 0 rfl) ?_
            refine xm_V (b := a 0) (As := [.ref (a 7), .int (nI r)]) (rest := []) (wr := [xArr (t 0) (a 5) 12 E]) ⟨hx, hb, hml, hown, hts⟩ xTrav_T (c_X0_findEarliest l D t a tc rc ro F T L Z (a 7) X1 (nI r) _ (by omega) (by omega) hF) (cwV 2 hts gX0_advise_X0_findEarliest rfl rfl rfl hd_X0_findEarliest ⟨Nat.le_of_ble_eq_true rfl, Nat.le_of_ble_eq_true rfl⟩) hK hP hD hS hA (fun _ _ _ => trivial) (va_recv hK hP (ci := 0) (q0 := 0) rfl rfl) [0, 1, 2, 3, 4, 6] [5] rfl rfl (by decide) (by decide) (by decide) rfl hl.1 rfl (Nat.le_of_ble_eq_true rfl) dX0_advise_48 ⟨(Nat.le_of_ble_eq_true rfl), (Nat.le_of_ble_eq_true rfl)⟩ (fun u_9 H locs hu hP hD hS hz => ?_)
            have hP : va_P D vwCl ([xObj a tc rc ro, xArr (t 0) (a 1) 30 (xN F), xArr (t 0) (a 2) 30 (xN T), xArr (t 0) (a 3) 30 L, xArr (t 1) (a 4) 30 (xB Z), xArr (t 0) (a 5) 12 E, xArr (t 0) (a 7) 12 ((findE F T L (actC Z (nI r)) tc rc X1).1)]) H := hP.sub [1, 2, 3, 4, 5, 0, 6] rfl
            have hD : va_D _ ([xObj a tc rc ro, xArr (t 0) (a 1) 30 (xN F), xArr (t 0) (a 2) 30 (xN T), xArr (t 0) (a 3) 30 L, xArr (t 1) (a 4) 30 (xB Z), xArr (t 0) (a 5) 12 E, xArr (t 0) (a 7) 12 ((findE F T L (actC Z (nI r)) tc rc X1).1)]) := hD.sub [1, 2, 3, 4, 5, 0, 6] (by decide) rfl
            refine lv_iconst (v := (-1)) hx hb dX0_advise_51 (by decide) ?_
            refine lv_icmp_eq (x := (findE F T L (actC Z (nI r)) tc rc X1).2) (y := (-1)) (tgt := 76) hx hb dX0_advise_52 (by decide) (fun c_10 => ?_) (fun c_10 => ?_)
            · refine lv_iinc (v := nI (r + 1)) (lv' := [(3, .int (nI (r + 1))), (2, .int least), (1, .int best), (0, .ref (a 0))]) hx hb dX0_advise_76 hl (k := 0) rfl (x_inc _) (by decide) rfl (fun ls hl => ?_)
              refine lv_goto (tgt := 25) hx hb dX0_advise_79 (by decide) ?_
              exact ih_25 n259 (by omega) (r + 1) best least ((findE F T L (actC Z (nI r)) tc rc X1).1) (by omega) (by rw [← hfin_25]; simp [advL, c_1, c_7, c_8, c_10]) _ _ hP hD hS _ (lv_sub hl [0, 1, 2, 3] rfl)
            · refine lv_aload_n hx hb dX0_advise_55 rfl (lv_at hl 3 rfl) ?_
              refine lv_aload_n hx hb dX0_advise_56 rfl (lv_at hl 3 rfl) ?_
              refine x0_get (v := .ref (a 7)) hx hb hts hin hown hK hP 0 rfl 9 (by decide) fl_29 rfl dX0_advise_57 rfl ?_
              refine xr_V (b := a 0) (As := [.ref (a 7)]) (rest := []) ⟨hx, hb, hml, hown, hts⟩ (c_X0_lastOf l D t a tc rc ro (a 7) ((findE F T L (actC Z (nI r)) tc rc X1).1) (by omega)) (cwV 1 hts gX0_advise_X0_lastOf rfl rfl rfl hd_X0_lastOf ⟨Nat.le_of_ble_eq_true rfl, Nat.le_of_ble_eq_true rfl⟩) hK hP (va_recv hK hP (ci := 0) (q0 := 0) rfl rfl) [0, 6] rfl rfl hl.1 rfl (Nat.le_of_ble_eq_true rfl) dX0_advise_60 ⟨(Nat.le_of_ble_eq_true rfl), (Nat.le_of_ble_eq_true rfl)⟩ ?_
              refine lv_istore (lv' := [(4, .int (lastF ((findE F T L (actC Z (nI r)) tc rc X1).1) tc 0 0)), (3, .int (nI r)), (2, .int least), (1, .int best), (0, .ref (a 0))]) hx hb dX0_advise_63 hl (by decide) rfl (fun ls hl => ?_)
              refine lv_iload hx hb dX0_advise_65 (lv_at hl 0 rfl) ?_
              refine lv_iload_n hx hb dX0_advise_67 rfl (lv_at hl 2 rfl) ?_
              refine lv_icmp_ge (x := lastF ((findE F T L (actC Z (nI r)) tc rc X1).1) tc 0 0) (y := least) (tgt := 76) hx hb dX0_advise_68 (by decide) (fun c_11 => ?_) (fun c_11 => ?_)
              · have c_11 := Int32.not_lt.mpr c_11
                refine lv_iinc (v := nI (r + 1)) (lv' := [(3, .int (nI (r + 1))), (4, .int (lastF ((findE F T L (actC Z (nI r)) tc rc X1).1) tc 0 0)), (2, .int least), (1, .int best), (0, .ref (a 0))]) hx hb dX0_advise_76 hl (k := 1) rfl (x_inc _) (by decide) rfl (fun ls hl => ?_)
                refine lv_goto (tgt := 25) hx hb dX0_advise_79 (by decide) ?_
                exact ih_25 n259 (by omega) (r + 1) best least ((findE F T L (actC Z (nI r)) tc rc X1).1) (by omega) (by rw [← hfin_25]; simp [advL, c_1, c_7, c_8, c_10, c_11]) _ _ hP hD hS _ (lv_sub hl [0, 2, 3, 4] rfl)
              · have c_11 := Int32.not_le.mp c_11
                refine lv_iload hx hb dX0_advise_71 (lv_at hl 0 rfl) ?_
                refine lv_istore_n (lv' := [(2, .int (lastF ((findE F T L (actC Z (nI r)) tc rc X1).1) tc 0 0)), (4, .int (lastF ((findE F T L (actC Z (nI r)) tc rc X1).1) tc 0 0)), (3, .int (nI r)), (1, .int best), (0, .ref (a 0))]) hx hb dX0_advise_73 rfl hl (by decide) rfl (fun ls hl => ?_)
                refine lv_iload_n hx hb dX0_advise_74 rfl (lv_at hl 2 rfl) ?_
                refine lv_istore_n (lv' := [(1, .int (nI r)), (2, .int (lastF ((findE F T L (actC Z (nI r)) tc rc X1).1) tc 0 0)), (4, .int (lastF ((findE F T L (actC Z (nI r)) tc rc X1).1) tc 0 0)), (3, .int (nI r)), (0, .ref (a 0))]) hx hb dX0_advise_75 rfl hl (by decide) rfl (fun ls hl => ?_)
                refine lv_iinc (v := nI (r + 1)) (lv' := [(3, .int (nI (r + 1))), (1, .int (nI r)), (2, .int (lastF ((findE F T L (actC Z (nI r)) tc rc X1).1) tc 0 0)), (4, .int (lastF ((findE F T L (actC Z (nI r)) tc rc X1).1) tc 0 0)), (0, .ref (a 0))]) hx hb dX0_advise_76 hl (k := 3) rfl (x_inc _) (by decide) rfl (fun ls hl => ?_)
                refine lv_goto (tgt := 25) hx hb dX0_advise_79 (by decide) ?_
                exact ih_25 n259 (by omega) (r + 1) (nI r) (lastF ((findE F T L (actC Z (nI r)) tc rc X1).1) tc 0 0) ((findE F T L (actC Z (nI r)) tc rc X1).1) (by omega) (by rw [← hfin_25]; simp [advL, c_1, c_7, c_8, c_10, c_11]) _ _ hP hD hS _ (lv_sub hl [0, 2, 1, 4] rfl)
    exact lp_25 rc 0 (-1) (lastF E tc 0 0) X (by omega) rfl _ _ hP hD hS _ (lv_sub hl [0, 1, 2, 3] rfl)
