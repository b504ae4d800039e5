theorem hd_X0_mean : yX0_mean.cls = RX0 ∧ yX0_mean.cls ≠ "java/lang/invoke/MethodHandle" ∧ yX0_mean.cls ≠ "java/lang/invoke/VarHandle" ∧ (parseMethodDescriptor yX0_mean.desc).map (fun d => d.parameters.length) = some 0 := by decide +kernel
set_option maxHeartbeats 4000000 in
set_option maxRecDepth 100000 in
theorem c_X0_mean (l : Launch) (D : va_G) (t : Nat → ClassId) (a : Nat → Nat) (tc rc : Nat) (ro : Int32) (E : Nat → Int32) (htc : tc ≤ 12) : MetD lw_cs l yX0_mean wsX0_mean ({ frames := 1, cells := 0, slots := 0, locals := 20 }) (xRo D (xTy t) [.ref (a 0)] [xObj a tc rc ro, xArr (t 0) (a 5) 12 E]) (xQd (meanF ro E tc)) 0 0 (fun _ => False) := by
  refine MetD.ofW (cc := cX0_mean) (maxL := 3) (ret := (some .double)) (by decide) rfl ?_
  intro p e s m args below meth c s₁ hB9 hml hv hd0
  obtain ⟨rfl, hP, hK⟩ := hv
  have hx := hB9.exec
  have hb := hB9.bytes
  have hr := hB9.returns
  have hts := atoms_spec (ws := wsX0_mean) hB9.pre
  have hown : s.vm.findClass RX0 = some m.cls := findClass_of_methodNamed hB9.named
  have hlocks := hB9.notSynchronized
  have hts0 := hts
  have hts := dr_words hts s.drawn
  have hown : (s.setDrawn s.drawn).vm.findClass RX0 = some m.cls := hown
  have hK : va_K D vwCl (xTy t) (s.setDrawn s.drawn) := hK
  have hin : ∀ w ∈ wsX00, w ∈ wsX0_mean := fun _ h => List.mem_cons_of_mem _ (List.mem_append_right _ h)
  have fl_41 := hts (.fieldLink RX0 41 "RopeTimes" "turnCount" "I") (by decide +kernel)
  have fl_23 := hts (.fieldLink RX0 23 "RopeTimes" "earliest" "[I") (by decide +kernel)
  have hl := lv_entry ([.ref (a 0)]) (n := 3) (Nat.le_of_ble_eq_true rfl)
  rw [lg_entry_eq]
  generalize (lg_sl ([.ref (a 0)]) ++ List.replicate (3 - (lg_sl ([.ref (a 0)])).length) Slot.unset).toArray = ls at hl ⊢
  have hl : lv_has ls 3 [(0, .ref (a 0))] := hl
  refine lv_aload_n hx hb dX0_mean_0 rfl (lv_at hl 0 rfl) ?_
  refine x0_get (v := .int (nI tc)) hx hb hts hin hown hK hP 0 rfl 0 (by decide) fl_41 rfl dX0_mean_1 rfl ?_
  refine lv_if_eq (x := nI tc) (tgt := 14) hx hb dX0_mean_4 (by decide) (fun c_1 => ?_) (fun c_1 => ?_)
  · have c_1 := (nI_eq (a := tc) (b := 0) (by omega) (by omega)).mp c_1
    refine lv_dconst0 hx hb dX0_mean_14 ?_
    exact xd_ret (X := meanF ro E tc) (r := FP.dconst0) hd0 hx hb hr hlocks (by simp [meanF, alike64, c_1]) dX0_mean_15
  · have c_1 : ¬ tc = 0 := fun z9 => c_1 ((nI_eq (a := tc) (b := 0) (by omega) (by omega)).mpr z9)
    refine lv_aload_n hx hb dX0_mean_7 rfl (lv_at hl 0 rfl) ?_
    refine xr_V (b := a 0) (As := []) (rest := []) ⟨hx, hb, hml, hown, hts⟩ (c_X0_isPossible l D t a tc rc ro) (cwV 0 hts gX0_mean_X0_isPossible rfl rfl rfl hd_X0_isPossible ⟨Nat.le_of_ble_eq_true rfl, Nat.le_of_ble_eq_true rfl⟩) hK hP (va_recv hK hP (ci := 0) (q0 := 0) rfl rfl) [0] rfl rfl hl.1 rfl (Nat.le_of_ble_eq_true rfl) dX0_mean_8 ⟨(Nat.le_of_ble_eq_true rfl), (Nat.le_of_ble_eq_true rfl)⟩ ?_
    refine lv_if_ne (x := bI (decide (¬ ro = -1))) (tgt := 16) hx hb dX0_mean_11 (by decide) (fun c_2 => ?_) (fun c_2 => ?_)
    · have c_2 := of_decide_eq_true (bI_n0 c_2)
      refine lv_iconst (v := 0) hx hb dX0_mean_16 (by decide) ?_
      refine lv_istore_n (lv' := [(1, .int 0), (0, .ref (a 0))]) hx hb dX0_mean_17 rfl hl (by decide) rfl (fun ls hl => ?_)
      refine lv_iconst (v := 0) hx hb dX0_mean_18 (by decide) ?_
      refine lv_istore_n (lv' := [(2, .int 0), (1, .int 0), (0, .ref (a 0))]) hx hb dX0_mean_19 rfl hl (by decide) rfl (fun ls hl => ?_)
      have lp_20 : ∀ (n20 : Nat) (i : Nat) (sm : Int32), i + n20 = tc → sumF E n20 i sm = sumF E tc 0 0 → ∀ ls : Array Slot, lv_has ls 3 [(2, .int (nI i)), (1, .int sm), (0, .ref (a 0))] → W p l e (headSpec wsX0_mean ({ frames := 1, cells := 0, slots := 0, locals := 20 } : Jvm.Room)).room (s.setDrawn s.drawn) m (([.ref (a 0)] : List Value).toArray) below meth c s.heap [] 0 0 (MQD lw_cs below (xQd (meanF ro E tc)) (([.ref (a 0)] : List Value).toArray) s 0 0 (fun _ => False)) (F0 m 20 ls []) := by
        intro n20
        induction n20 using Nat.strongRecOn with
        | _ n20 ih_20 =>
          intro i sm hm_20 hfin_20 ls hl
          refine lv_iload_n hx hb dX0_mean_20 rfl (lv_at hl 0 rfl) ?_
          refine lv_aload_n hx hb dX0_mean_21 rfl (lv_at hl 2 rfl) ?_
          refine x0_get (v := .int (nI tc)) hx hb hts hin hown hK hP 0 rfl 0 (by decide) fl_41 rfl dX0_mean_22 rfl ?_
          refine lv_icmp_ge (x := nI i) (y := nI tc) (tgt := 43) hx hb dX0_mean_25 (by decide) (fun c_3 => ?_) (fun c_3 => ?_)
          · have c_3 := (nI_leI (a := tc) (b := i) (by omega) (by omega)).mp c_3
            have hn0_20 : n20 = 0 := by omega
            subst hn0_20
            obtain rfl : sm = sumF E tc 0 0 := hfin_20
            refine lv_iload_n hx hb dX0_mean_43 rfl (lv_at hl 1 rfl) ?_
            refine lv_i2d hx hb dX0_mean_44 ?_
            refine lv_aload_n hx hb dX0_mean_45 rfl (lv_at hl 2 rfl) ?_
            refine x0_get (v := .int (nI tc)) hx hb hts hin hown hK hP 0 rfl 0 (by decide) fl_41 rfl dX0_mean_46 rfl ?_
            refine lv_i2d hx hb dX0_mean_49 ?_
            refine lv_ddiv_any hd0 lw_bits hx hb dX0_mean_50 (fun r9 d9 hal9 hd9 => ?_)
            exact xd_ret (X := meanF ro E tc) (r := r9) hd9 hx hb hr hlocks (by rw [meanF, if_neg (by simp [c_1, c_2, c_3, Nat.not_lt.mpr c_3])]; exact hal9) dX0_mean_51
          · have c_3 : i < tc := Nat.lt_of_not_le (fun z9 => c_3 ((nI_leI (a := tc) (b := i) (by omega) (by omega)).mpr z9))
            obtain ⟨n209, rfl⟩ : ∃ z, n20 = z + 1 := ⟨n20 - 1, by omega⟩
            refine lv_iload_n hx hb dX0_mean_28 rfl (lv_at hl 1 rfl) ?_
            refine lv_aload_n hx hb dX0_mean_29 rfl (lv_at hl 2 rfl) ?_
            refine x0_get (v := .ref (a 5)) hx hb hts hin hown hK hP 0 rfl 7 (by decide) fl_23 rfl dX0_mean_30 rfl ?_
            refine lv_iload_n hx hb dX0_mean_33 rfl (lv_at hl 0 rfl) ?_
            refine x_iald (f := E) hx hb hK hP 1 0 rfl rfl (k := i) (by omega) (Nat.le_of_ble_eq_true rfl) dX0_mean_34 ?_
            refine lv_iadd (x := sm) (y := E i) hx hb dX0_mean_35 ?_
            refine lv_istore_n (lv' := [(1, .int (sm + (E i))), (2, .int (nI i)), (0, .ref (a 0))]) hx hb dX0_mean_36 rfl hl (by decide) rfl (fun ls hl => ?_)
            refine lv_iinc (v := nI (i + 1)) (lv' := [(2, .int (nI (i + 1))), (1, .int (sm + (E i))), (0, .ref (a 0))]) hx hb dX0_mean_37 hl (k := 1) rfl (x_inc _) (by decide) rfl (fun ls hl => ?_)
            refine lv_goto (tgt := 20) hx hb dX0_mean_40 (by decide) ?_
            exact ih_20 n209 (by omega) (i + 1) (sm + (E i)) (by omega) (by rw [← hfin_20]; rfl) _ (lv_sub hl [0, 1, 2] rfl)
      exact lp_20 tc 0 0 (by omega) rfl _ (lv_sub hl [0, 1, 2] rfl)
    · have c_2 := Classical.not_not.mp (of_decide_eq_false (bI_0 c_2))
      refine lv_dconst0 hx hb dX0_mean_14 ?_
      exact xd_ret (X := meanF ro E tc) (r := FP.dconst0) hd0 hx hb hr hlocks (by simp [meanF, alike64, c_1, c_2]) dX0_mean_15
set_option maxHeartbeats 4000000 in
set_option maxRecDepth 100000 in
theorem c_X0_init (l : Launch) (D : va_G) (t : Nat → ClassId) (h0 : Nat) (sz : Nat) : Met l yX0_init wsX0_init ({ frames := 5, cells := 9, slots := 312, locals := 112 }) (xMu D (xTy t) (fun _ => True) [.ref h0] [(h0, .inr (0, [.int 0, .int 0, .null, .null, .null, .null, .int 0, .null, .null, .null, .null, .null]))] sz) (xQm D (fun u : Nat → Nat => u 0 = h0) (fun u : Nat → Nat => none) [(h0, .inr (0, [.int 0, .int 0, .null, .null, .null, .null, .int 0, .null, .null, .null, .null, .null]))] (fun u : Nat → Nat => [xObj u 0 0 (sRo (fun _ => 0) (fun _ => 0) (fun _ => 0) (fun _ => false) 0 0 (fun _ => 0)), xArr (t 0) (u 1) 30 (xN (fun _ => 0)), xArr (t 0) (u 2) 30 (xN (fun _ => 0)), xArr (t 0) (u 3) 30 (fun _ => 0), xArr (t 1) (u 4) 30 (xB (fun _ => false)), xArr (t 0) (u 5) 12 (sE (fun _ => 0) (fun _ => 0) (fun _ => 0) (fun _ => false) 0 0 (fun _ => 0)), xArr (t 0) (u 6) 144 (sB (fun _ => 0) (fun _ => 0) (fun _ => 0) (fun _ => false) 0 0 (fun _ => 0) (fun _ => 0)), xArr (t 0) (u 7) 12 (fun _ => 0), xArr (t 0) (u 8) 12 (fun _ => 0), xArr (t 0) (u 9) 12 (fun _ => 0)]) sz) 9 312 (va_A [(h0, .inr (0, [.int 0, .int 0, .null, .null, .null, .null, .int 0, .null, .null, .null, .null, .null]))] sz) := by
  refine Met.ofW (cc := cX0_init) (maxL := 1) (ret := none) (by decide) rfl ?_
  intro p e s m args below meth c s₁ hB9 hml hv
  obtain ⟨rfl, hsz, hP, hK, hD0, hXX⟩ := hv
  have hx := hB9.exec
  have hb := hB9.bytes
  have hr := hB9.returns
  have hts := atoms_spec (ws := wsX0_init) hB9.pre
  have hown : s.vm.findClass RX0 = some m.cls := findClass_of_methodNamed hB9.named
  have hlocks := hB9.notSynchronized
  have hin : ∀ w ∈ wsX00, w ∈ wsX0_init := fun _ h => List.mem_cons_of_mem _ (List.mem_append_right _ h)
  have fl_9 := hts (.fieldLink RX0 9 "RopeTimes" "from" "[I") (by decide +kernel)
  have fl_13 := hts (.fieldLink RX0 13 "RopeTimes" "to" "[I") (by decide +kernel)
  have fl_16 := hts (.fieldLink RX0 16 "RopeTimes" "length" "[I") (by decide +kernel)
  have fl_19 := hts (.fieldLink RX0 19 "RopeTimes" "tied" "[Z") (by decide +kernel)
  have fl_23 := hts (.fieldLink RX0 23 "RopeTimes" "earliest" "[I") (by decide +kernel)
  have fl_26 := hts (.fieldLink RX0 26 "RopeTimes" "bound" "[I") (by decide +kernel)
  have fl_29 := hts (.fieldLink RX0 29 "RopeTimes" "trial" "[I") (by decide +kernel)
  have fl_32 := hts (.fieldLink RX0 32 "RopeTimes" "reach" "[I") (by decide +kernel)
  have fl_35 := hts (.fieldLink RX0 35 "RopeTimes" "nextReach" "[I") (by decide +kernel)
  subst hsz
  have hD := hD0.self (sz := s.heap.size)
  generalize hAe : va_A ([(h0, .inr (0, [.int 0, .int 0, .null, .null, .null, .null, .int 0, .null, .null, .null, .null, .null]))]) s.heap.size = A at hD ⊢
  have hA : ∀ q : Nat, s.heap.size ≤ q → A q := fun q h => by rw [← hAe]; exact Or.inr h
  have hS : va_S A s.heap s.heap [] := va_S.rf
  have hP : va_P D vwCl ([(h0, .inr (0, [.int 0, .int 0, .null, .null, .null, .null, .int 0, .null, .null, .null, .null, .null]))]) s.heap := hP
  have hD : va_D A ([(h0, .inr (0, [.int 0, .int 0, .null, .null, .null, .null, .int 0, .null, .null, .null, .null, .null]))]) := hD
  have hl := lv_entry ([.ref h0]) (n := 1) (Nat.le_of_ble_eq_true rfl)
  rw [lg_entry_eq]
  generalize (lg_sl ([.ref h0]) ++ List.replicate (1 - (lg_sl ([.ref h0])).length) Slot.unset).toArray = ls at hl ⊢
  have hl : lv_has ls 1 [(0, .ref h0)] := hl
  have hini9 : meth.name = "<init>" := (name_of_methodNamed hB9.named hB9.method).1
  refine lv_aload_n hx hb dX0_init_0 rfl (lv_at hl 0 rfl) ?_
  refine W.objInit hx hb hown (hts (.methodLink RX0 1 objectInit) (by decide +kernel)) (hts (.instanceMethod objectInit) (by decide +kernel)) (hts (.code objectInit ⟨#[0xb1]⟩ 1 none) (by decide +kernel)) rfl (hl.1.trans hml.symm) rfl dX0_init_1 (Nat.le_of_ble_eq_true rfl) (Nat.le_of_ble_eq_true rfl) ?_
  refine W.eq (g2 := F0 m 4 ls []) rfl ?_
  refine lv_aload_n hx hb dX0_init_4 rfl (lv_at hl 0 rfl) ?_
  refine lv_bipush (v := 30) hx hb dX0_init_5 (by decide) ?_
  refine x_newa (atype := .int) (ty := .int) (a0 := (30, .inl (fun _ => 0))) (n := 30) (N' := 30) (cT := t 0) hx hb (hts (.arrayClass .int) (by decide +kernel)) rfl 0 rfl (by intro C h; cases h) hK hP hD hS hA (fun _ => rfl) (by decide) (by decide) (Nat.le_of_ble_eq_true rfl) (Nat.le_of_ble_eq_true rfl) (Nat.le_of_ble_eq_true rfl) dX0_init_7 (fun q_1 H hP hD hS => ?_)
  have hP : va_P D vwCl ([(h0, .inr (0, [.int 0, .int 0, .null, .null, .null, .null, .int 0, .null, .null, .null, .null, .null])), xArr (t 0) q_1 30 (fun _ => 0)]) H := hP
  have hD : va_D _ ([(h0, .inr (0, [.int 0, .int 0, .null, .null, .null, .null, .int 0, .null, .null, .null, .null, .null])), xArr (t 0) q_1 30 (fun _ => 0)]) := hD
  refine x0_putF (ty := .array .int) (v := .ref q_1) hx hb hts hin hown hK hP hD hS 0 ([(h0, .inr (0, [.int 0, .int 0, .ref q_1, .null, .null, .null, .int 0, .null, .null, .null, .null, .null])), xArr (t 0) q_1 30 (fun _ => 0)]) rfl 2 (by decide) fl_9 rfl hini9 (by decide +kernel) rfl rfl (Nat.le_of_ble_eq_true rfl) rfl dX0_init_9 rfl (fun H locs hP hD hS => ?_)
  refine lv_aload_n hx hb dX0_init_12 rfl (lv_at hl 0 rfl) ?_
  refine lv_bipush (v := 30) hx hb dX0_init_13 (by decide) ?_
  refine x_newa (atype := .int) (ty := .int) (a0 := (30, .inl (fun _ => 0))) (n := 30) (N' := 30) (cT := t 0) hx hb (hts (.arrayClass .int) (by decide +kernel)) rfl 0 rfl (by intro C h; cases h) hK hP hD hS hA (fun _ => rfl) (by decide) (by decide) (Nat.le_of_ble_eq_true rfl) (Nat.le_of_ble_eq_true rfl) (Nat.le_of_ble_eq_true rfl) dX0_init_15 (fun q_2 H hP hD hS => ?_)
  have hP : va_P D vwCl ([(h0, .inr (0, [.int 0, .int 0, .ref q_1, .null, .null, .null, .int 0, .null, .null, .null, .null, .null])), xArr (t 0) q_1 30 (fun _ => 0), xArr (t 0) q_2 30 (fun _ => 0)]) H := hP
  have hD : va_D _ ([(h0, .inr (0, [.int 0, .int 0, .ref q_1, .null, .null, .null, .int 0, .null, .null, .null, .null, .null])), xArr (t 0) q_1 30 (fun _ => 0), xArr (t 0) q_2 30 (fun _ => 0)]) := hD
  refine x0_putF (ty := .array .int) (v := .ref q_2) hx hb hts hin hown hK hP hD hS 0 ([(h0, .inr (0, [.int 0, .int 0, .ref q_1, .ref q_2, .null, .null, .int 0, .null, .null, .null, .null, .null])), xArr (t 0) q_1 30 (fun _ => 0), xArr (t 0) q_2 30 (fun _ => 0)]) rfl 3 (by decide) fl_13 rfl hini9 (by decide +kernel) rfl rfl (Nat.le_of_ble_eq_true rfl) rfl dX0_init_17 rfl (fun H locs hP hD hS => ?_)
  refine lv_aload_n hx hb dX0_init_20 rfl (lv_at hl 0 rfl) ?_
  refine lv_bipush (v := 30) hx hb dX0_init_21 (by decide) ?_
  refine x_newa (atype := .int) (ty := .int) (a0 := (30, .inl (fun _ => 0))) (n := 30) (N' := 30) (cT := t 0) hx hb (hts (.arrayClass .int) (by decide +kernel)) rfl 0 rfl (by intro C h; cases h) hK hP hD hS hA (fun _ => rfl) (by decide) (by decide) (Nat.le_of_ble_eq_true rfl) (Nat.le_of_ble_eq_true rfl) (Nat.le_of_ble_eq_true rfl) dX0_init_23 (fun q_3 H hP hD hS => ?_)
  have hP : va_P D vwCl ([(h0, .inr (0, [.int 0, .int 0, .ref q_1, .ref q_2, .null, .null, .int 0, .null, .null, .null, .null, .null])), xArr (t 0) q_1 30 (fun _ => 0), xArr (t 0) q_2 30 (fun _ => 0), xArr (t 0) q_3 30 (fun _ => 0)]) H := hP
  have hD : va_D _ ([(h0, .inr (0, [.int 0, .int 0, .ref q_1, .ref q_2, .null, .null, .int 0, .null, .null, .null, .null, .null])), xArr (t 0) q_1 30 (fun _ => 0), xArr (t 0) q_2 30 (fun _ => 0), xArr (t 0) q_3 30 (fun _ => 0)]) := hD
  refine x0_putF (ty := .array .int) (v := .ref q_3) hx hb hts hin hown hK hP hD hS 0 ([(h0, .inr (0, [.int 0, .int 0, .ref q_1, .ref q_2, .ref q_3, .null, .int 0, .null, .null, .null, .null, .null])), xArr (t 0) q_1 30 (fun _ => 0), xArr (t 0) q_2 30 (fun _ => 0), xArr (t 0) q_3 30 (fun _ => 0)]) rfl 4 (by decide) fl_16 rfl hini9 (by decide +kernel) rfl rfl (Nat.le_of_ble_eq_true rfl) rfl dX0_init_25 rfl (fun H locs hP hD hS => ?_)
  refine lv_aload_n hx hb dX0_init_28 rfl (lv_at hl 0 rfl) ?_
  refine lv_bipush (v := 30) hx hb dX0_init_29 (by decide) ?_
  refine x_newa (atype := .boolean) (ty := .boolean) (a0 := (30, .inl (fun _ => 0))) (n := 30) (N' := 30) (cT := t 1) hx hb (hts (.arrayClass .boolean) (by decide +kernel)) rfl 1 rfl (by intro C h; cases h) hK hP hD hS hA (fun _ => rfl) (by decide) (by decide) (Nat.le_of_ble_eq_true rfl) (Nat.le_of_ble_eq_true rfl) (Nat.le_of_ble_eq_true rfl) dX0_init_31 (fun q_4 H hP hD hS => ?_)
  have hP : va_P D vwCl ([(h0, .inr (0, [.int 0, .int 0, .ref q_1, .ref q_2, .ref q_3, .null, .int 0, .null, .null, .null, .null, .null])), xArr (t 0) q_1 30 (fun _ => 0), xArr (t 0) q_2 30 (fun _ => 0), xArr (t 0) q_3 30 (fun _ => 0), xArr (t 1) q_4 30 (fun _ => 0)]) H := hP
  have hD : va_D _ ([(h0, .inr (0, [.int 0, .int 0, .ref q_1, .ref q_2, .ref q_3, .null, .int 0, .null, .null, .null, .null, .null])), xArr (t 0) q_1 30 (fun _ => 0), xArr (t 0) q_2 30 (fun _ => 0), xArr (t 0) q_3 30 (fun _ => 0), xArr (t 1) q_4 30 (fun _ => 0)]) := hD
  refine x0_putF (ty := .array .boolean) (v := .ref q_4) hx hb hts hin hown hK hP hD hS 0 ([(h0, .inr (0, [.int 0, .int 0, .ref q_1, .ref q_2, .ref q_3, .ref q_4, .int 0, .null, .null, .null, .null, .null])), xArr (t 0) q_1 30 (fun _ => 0), xArr (t 0) q_2 30 (fun _ => 0), xArr (t 0) q_3 30 (fun _ => 0), xArr (t 1) q_4 30 (fun _ => 0)]) rfl 5 (by decide) fl_19 rfl hini9 (by decide +kernel) rfl rfl (Nat.le_of_ble_eq_true rfl) rfl dX0_init_33 rfl (fun H locs hP hD hS => ?_)
  refine lv_aload_n hx hb dX0_init_36 rfl (lv_at hl 0 rfl) ?_
  refine lv_bipush (v := 12) hx hb dX0_init_37 (by decide) ?_
  refine x_newa (atype := .int) (ty := .int) (a0 := (12, .inl (fun _ => 0))) (n := 12) (N' := 12) (cT := t 0) hx hb (hts (.arrayClass .int) (by decide +kernel)) rfl 0 rfl (by intro C h; cases h) hK hP hD hS hA (fun _ => rfl) (by decide) (by decide) (Nat.le_of_ble_eq_true rfl) (Nat.le_of_ble_eq_true rfl) (Nat.le_of_ble_eq_true rfl) dX0_init_39 (fun q_5 H hP hD hS => ?_)
  have hP : va_P D vwCl ([(h0, .inr (0, [.int 0, .int 0, .ref q_1, .ref q_2, .ref q_3, .ref q_4, .int 0, .null, .null, .null, .null, .null])), xArr (t 0) q_1 30 (fun _ => 0), xArr (t 0) q_2 30 (fun _ => 0), xArr (t 0) q_3 30 (fun _ => 0), xArr (t 1) q_4 30 (fun _ => 0), xArr (t 0) q_5 12 (fun _ => 0)]) H := hP
  have hD : va_D _ ([(h0, .inr (0, [.int 0, .int 0, .ref q_1, .ref q_2, .ref q_3, .ref q_4, .int 0, .null, .null, .null, .null, .null])), xArr (t 0) q_1 30 (fun _ => 0), xArr (t 0) q_2 30 (fun _ => 0), xArr (t 0) q_3 30 (fun _ => 0), xArr (t 1) q_4 30 (fun _ => 0), xArr (t 0) q_5 12 (fun _ => 0)]) := hD
  refine x0_putF (ty := .array .int) (v := .ref q_5) hx hb hts hin hown hK hP hD hS 0 ([(h0, .inr (0, [.int 0, .int 0, .ref q_1, .ref q_2, .ref q_3, .ref q_4, .int 0, .ref q_5, .null, .null, .null, .null])), xArr (t 0) q_1 30 (fun _ => 0), xArr (t 0) q_2 30 (fun _ => 0), xArr (t 0) q_3 30 (fun _ => 0), xArr (t 1) q_4 30 (fun _ => 0), xArr (t 0) q_5 12 (fun _ => 0)]) rfl 7 (by decide) fl_23 rfl hini9 (by decide +kernel) rfl rfl (Nat.le_of_ble_eq_true rfl) rfl dX0_init_41 rfl (fun H locs hP hD hS => ?_)
  refine lv_aload_n hx hb dX0_init_44 rfl (lv_at hl 0 rfl) ?_
  refine lv_sipush (v := 144) hx hb dX0_init_45 (by decide) ?_
  refine x_newa (atype := .int) (ty := .int) (a0 := (144, .inl (fun _ => 0))) (n := 144) (N' := 144) (cT := t 0) hx hb (hts (.arrayClass .int) (by decide +kernel)) rfl 0 rfl (by intro C h; cases h) hK hP hD hS hA (fun _ => rfl) (by decide) (by decide) (Nat.le_of_ble_eq_true rfl) (Nat.le_of_ble_eq_true rfl) (Nat.le_of_ble_eq_true rfl) dX0_init_48 (fun q_6 H hP hD hS => ?_)
  have hP : va_P D vwCl ([(h0, .inr (0, [.int 0, .int 0, .ref q_1, .ref q_2, .ref q_3, .ref q_4, .int 0, .ref q_5, .null, .null, .null, .null])), xArr (t 0) q_1 30 (fun _ => 0), xArr (t 0) q_2 30 (fun _ => 0), xArr (t 0) q_3 30 (fun _ => 0), xArr (t 1) q_4 30 (fun _ => 0), xArr (t 0) q_5 12 (fun _ => 0), xArr (t 0) q_6 144 (fun _ => 0)]) H := hP
  have hD : va_D _ ([(h0, .inr (0, [.int 0, .int 0, .ref q_1, .ref q_2, .ref q_3, .ref q_4, .int 0, .ref q_5, .null, .null, .null, .null])), xArr (t 0) q_1 30 (fun _ => 0), xArr (t 0) q_2 30 (fun _ => 0), xArr (t 0) q_3 30 (fun _ => 0), xArr (t 1) q_4 30 (fun _ => 0), xArr (t 0) q_5 12 (fun _ => 0), xArr (t 0) q_6 144 (fun _ => 0)]) := hD
  refine x0_putF (ty := .array .int) (v := .ref q_6) hx hb hts hin hown hK hP hD hS 0 ([(h0, .inr (0, [.int 0, .int 0, .ref q_1, .ref q_2, .ref q_3, .ref q_4, .int 0, .ref q_5, .ref q_6, .null, .null, .null])), xArr (t 0) q_1 30 (fun _ => 0), xArr (t 0) q_2 30 (fun _ => 0), xArr (t 0) q_3 30 (fun _ => 0), xArr (t 1) q_4 30 (fun _ => 0), xArr (t 0) q_5 12 (fun _ => 0), xArr (t 0) q_6 144 (fun _ => 0)]) rfl 8 (by decide) fl_26 rfl hini9 (by decide +kernel) rfl rfl (Nat.le_of_ble_eq_true rfl) rfl dX0_init_50 rfl (fun H locs hP hD hS => ?_)
  refine lv_aload_n hx hb dX0_init_53 rfl (lv_at hl 0 rfl) ?_
  refine lv_bipush (v := 12) hx hb dX0_init_54 (by decide) ?_
  refine x_newa (atype := .int) (ty := .int) (a0 := (12, .inl (fun _ => 0))) (n := 12) (N' := 12) (cT := t 0) hx hb (hts (.arrayClass .int) (by decide +kernel)) rfl 0 rfl (by intro C h; cases h) hK hP hD hS hA (fun _ => rfl) (by decide) (by decide) (Nat.le_of_ble_eq_true rfl) (Nat.le_of_ble_eq_true rfl) (Nat.le_of_ble_eq_true rfl) dX0_init_56 (fun q_7 H hP hD hS => ?_)
  have hP : va_P D vwCl ([(h0, .inr (0, [.int 0, .int 0, .ref q_1, .ref q_2, .ref q_3, .ref q_4, .int 0, .ref q_5, .ref q_6, .null, .null, .null])), xArr (t 0) q_1 30 (fun _ => 0), xArr (t 0) q_2 30 (fun _ => 0), xArr (t 0) q_3 30 (fun _ => 0), xArr (t 1) q_4 30 (fun _ => 0), xArr (t 0) q_5 12 (fun _ => 0), xArr (t 0) q_6 144 (fun _ => 0), xArr (t 0) q_7 12 (fun _ => 0)]) H := hP
  have hD : va_D _ ([(h0, .inr (0, [.int 0, .int 0, .ref q_1, .ref q_2, .ref q_3, .ref q_4, .int 0, .ref q_5, .ref q_6, .null, .null, .null])), xArr (t 0) q_1 30 (fun _ => 0), xArr (t 0) q_2 30 (fun _ => 0), xArr (t 0) q_3 30 (fun _ => 0), xArr (t 1) q_4 30 (fun _ => 0), xArr (t 0) q_5 12 (fun _ => 0), xArr (t 0) q_6 144 (fun _ => 0), xArr (t 0) q_7 12 (fun _ => 0)]) := hD
  refine x0_putF (ty := .array .int) (v := .ref q_7) hx hb hts hin hown hK hP hD hS 0 ([(h0, .inr (0, [.int 0, .int 0, .ref q_1, .ref q_2, .ref q_3, .ref q_4, .int 0, .ref q_5, .ref q_6, .ref q_7, .null, .null])), xArr (t 0) q_1 30 (fun _ => 0), xArr (t 0) q_2 30 (fun _ => 0), xArr (t 0) q_3 30 (fun _ => 0), xArr (t 1) q_4 30 (fun _ => 0), xArr (t 0) q_5 12 (fun _ => 0), xArr (t 0) q_6 144 (fun _ => 0), xArr (t 0) q_7 12 (fun _ => 0)]) rfl 9 (by decide) fl_29 rfl hini9 (by decide +kernel) rfl rfl (Nat.le_of_ble_eq_true rfl) rfl dX0_init_58 rfl (fun H locs hP hD hS => ?_)
  refine lv_aload_n hx hb dX0_init_61 rfl (lv_at hl 0 rfl) ?_
  refine lv_bipush (v := 12) hx hb dX0_init_62 (by decide) ?_
  refine x_newa (atype := .int) (ty := .int) (a0 := (12, .inl (fun _ => 0))) (n := 12) (N' := 12) (cT := t 0) hx hb (hts (.arrayClass .int) (by decide +kernel)) rfl 0 rfl (by intro C h; cases h) hK hP hD hS hA (fun _ => rfl) (by decide) (by decide) (Nat.le_of_ble_eq_true rfl) (Nat.le_of_ble_eq_true rfl) (Nat.le_of_ble_eq_true rfl) dX0_init_64 (fun q_8 H hP hD hS => ?_)
  have hP : va_P D vwCl ([(h0, .inr (0, [.int 0, .int 0, .ref q_1, .ref q_2, .ref q_3, .ref q_4, .int 0, .ref q_5, .ref q_6, .ref q_7, .null, .null])), xArr (t 0) q_1 30 (fun _ => 0), xArr (t 0) q_2 30 (fun _ => 0), xArr (t 0) q_3 30 (fun _ => 0), xArr (t 1) q_4 30 (fun _ => 0), xArr (t 0) q_5 12 (fun _ => 0), xArr (t 0) q_6 144 (fun _ => 0), xArr (t 0) q_7 12 (fun _ => 0), xArr (t 0) q_8 12 (fun _ => 0)]) H := hP
  have hD : va_D _ ([(h0, .inr (0, [.int 0, .int 0, .ref q_1, .ref q_2, .ref q_3, .ref q_4, .int 0, .ref q_5, .ref q_6, .ref q_7, .null, .null])), xArr (t 0) q_1 30 (fun _ => 0), xArr (t 0) q_2 30 (fun _ => 0), xArr (t 0) q_3 30 (fun _ => 0), xArr (t 1) q_4 30 (fun _ => 0), xArr (t 0) q_5 12 (fun _ => 0), xArr (t 0) q_6 144 (fun _ => 0), xArr (t 0) q_7 12 (fun _ => 0), xArr (t 0) q_8 12 (fun _ => 0)]) := hD
  refine x0_putF (ty := .array .int) (v := .ref q_8) hx hb hts hin hown hK hP hD hS 0 ([(h0, .inr (0, [.int 0, .int 0, .ref q_1, .ref q_2, .ref q_3, .ref q_4, .int 0, .ref q_5, .ref q_6, .ref q_7, .ref q_8, .null])), xArr (t 0) q_1 30 (fun _ => 0), xArr (t 0) q_2 30 (fun _ => 0), xArr (t 0) q_3 30 (fun _ => 0), xArr (t 1) q_4 30 (fun _ => 0), xArr (t 0) q_5 12 (fun _ => 0), xArr (t 0) q_6 144 (fun _ => 0), xArr (t 0) q_7 12 (fun _ => 0), xArr (t 0) q_8 12 (fun _ => 0)]) rfl 10 (by decide) fl_32 rfl hini9 (by decide +kernel) rfl rfl (Nat.le_of_ble_eq_true rfl) rfl dX0_init_66 rfl (fun H locs hP hD hS => ?_)
  refine lv_aload_n hx hb dX0_init_69 rfl (lv_at hl 0 rfl) ?_
  refine lv_bipush (v := 12) hx hb dX0_init_70 (by decide) ?_
  refine x_newa (atype := .int) (ty := .int) (a0 := (12, .inl (fun _ => 0))) (n := 12) (N' := 12) (cT := t 0) hx hb (hts (.arrayClass .int) (by decide +kernel)) rfl 0 rfl (by intro C h; cases h) hK hP hD hS hA (fun _ => rfl) (by decide) (by decide) (Nat.le_of_ble_eq_true rfl) (Nat.le_of_ble_eq_true rfl) (Nat.le_of_ble_eq_true rfl) dX0_init_72 (fun q_9 H hP hD hS => ?_)
  have hP : va_P D vwCl ([(h0, .inr (0, [.int 0, .int 0, .ref q_1, .ref q_2, .ref q_3, .ref q_4, .int 0, .ref q_5, .ref q_6, .ref q_7, .ref q_8, .null])), xArr (t 0) q_1 30 (fun _ => 0), xArr (t 0) q_2 30 (fun _ => 0), xArr (t 0) q_3 30 (fun _ => 0), xArr (t 1) q_4 30 (fun _ => 0), xArr (t 0) q_5 12 (fun _ => 0), xArr (t 0) q_6 144 (fun _ => 0), xArr (t 0) q_7 12 (fun _ => 0), xArr (t 0) q_8 12 (fun _ => 0), xArr (t 0) q_9 12 (fun _ => 0)]) H := hP
  have hD : va_D _ ([(h0, .inr (0, [.int 0, .int 0, .ref q_1, .ref q_2, .ref q_3, .ref q_4, .int 0, .ref q_5, .ref q_6, .ref q_7, .ref q_8, .null])), xArr (t 0) q_1 30 (fun _ => 0), xArr (t 0) q_2 30 (fun _ => 0), xArr (t 0) q_3 30 (fun _ => 0), xArr (t 1) q_4 30 (fun _ => 0), xArr (t 0) q_5 12 (fun _ => 0), xArr (t 0) q_6 144 (fun _ => 0), xArr (t 0) q_7 12 (fun _ => 0), xArr (t 0) q_8 12 (fun _ => 0), xArr (t 0) q_9 12 (fun _ => 0)]) := hD
  refine x0_putF (ty := .array .int) (v := .ref q_9) hx hb hts hin hown hK hP hD hS 0 ([(h0, .inr (0, [.int 0, .int 0, .ref q_1, .ref q_2, .ref q_3, .ref q_4, .int 0, .ref q_5, .ref q_6, .ref q_7, .ref q_8, .ref q_9])), xArr (t 0) q_1 30 (fun _ => 0), xArr (t 0) q_2 30 (fun _ => 0), xArr (t 0) q_3 30 (fun _ => 0), xArr (t 1) q_4 30 (fun _ => 0), xArr (t 0) q_5 12 (fun _ => 0), xArr (t 0) q_6 144 (fun _ => 0), xArr (t 0) q_7 12 (fun _ => 0), xArr (t 0) q_8 12 (fun _ => 0), xArr (t 0) q_9 12 (fun _ => 0)]) rfl 11 (by decide) fl_35 rfl hini9 (by decide +kernel) rfl rfl (Nat.le_of_ble_eq_true rfl) rfl dX0_init_74 rfl (fun H locs hP hD hS => ?_)
  obtain ⟨a, ha⟩ : ∃ a : Nat → Nat, a = xAd h0 q_1 q_2 q_3 q_4 q_5 q_6 q_7 q_8 q_9 := ⟨_, rfl⟩
  have ha0 : a 0 = h0 := by rw [ha]; rfl
  have hP : va_P D vwCl ([xObj a 0 0 0, xArr (t 0) (a 1) 30 (xN (fun _ => 0)), xArr (t 0) (a 2) 30 (xN (fun _ => 0)), xArr (t 0) (a 3) 30 (fun _ => 0), xArr (t 1) (a 4) 30 (xB (fun _ => false)), xArr (t 0) (a 5) 12 (fun _ => 0), xArr (t 0) (a 6) 144 (fun _ => 0), xArr (t 0) (a 7) 12 (fun _ => 0), xArr (t 0) (a 8) 12 (fun _ => 0), xArr (t 0) (a 9) 12 (fun _ => 0)]) H := by rw [ha]; exact hP
  have hD : va_D A ([xObj a 0 0 0, xArr (t 0) (a 1) 30 (xN (fun _ => 0)), xArr (t 0) (a 2) 30 (xN (fun _ => 0)), xArr (t 0) (a 3) 30 (fun _ => 0), xArr (t 1) (a 4) 30 (xB (fun _ => false)), xArr (t 0) (a 5) 12 (fun _ => 0), xArr (t 0) (a 6) 144 (fun _ => 0), xArr (t 0) (a 7) 12 (fun _ => 0), xArr (t 0) (a 8) 12 (fun _ => 0), xArr (t 0) (a 9) 12 (fun _ => 0)]) := by rw [ha]; exact hD
  have hl : lv_has ls 1 [(0, .ref (a 0))] := by rw [ha0]; exact hl
  have hF : ∀ r, r < 0 → (fun _ => 0 : Nat → Nat) r < 0 ∧ (fun _ => 0 : Nat → Nat) r < 0 := fun r hr => absurd hr (Nat.not_lt_zero r)
  refine lv_aload_n hx hb dX0_init_77 rfl (lv_at hl 0 rfl) ?_
  refine xm_V (b := a 0) (As := []) (rest := []) (wr := [xArr (t 0) (a 7) 12 (fun _ => 0), xArr (t 0) (a 8) 12 (fun _ => 0), xArr (t 0) (a 9) 12 (fun _ => 0)]) ⟨hx, hb, hml, hown, hts⟩ xTrav_T (c_X0_settle l D t a 0 0 0 (fun _ => 0) (fun _ => 0) (fun _ => 0) (fun _ => false) (fun _ => 0) (fun _ => 0) _ (by omega) (by omega) hF) (cwV 0 hts gX0_init_X0_settle rfl rfl rfl hd_X0_settle ⟨Nat.le_of_ble_eq_true rfl, Nat.le_of_ble_eq_true rfl⟩) hK hP hD hS hA (fun _ _ _ => trivial) (va_recv hK hP (ci := 0) (q0 := 0) rfl rfl) [0, 1, 2, 3, 4, 5, 6] [7, 8, 9] rfl rfl (by decide) (by decide) (by decide) rfl hl.1 rfl (Nat.le_of_ble_eq_true rfl) dX0_init_78 ⟨(Nat.le_of_ble_eq_true rfl), (Nat.le_of_ble_eq_true rfl)⟩ (fun u_10 H locs hu hP hD hS hz => ?_)
  have hP : va_P D vwCl ([xObj a 0 0 (sRo (fun _ => 0) (fun _ => 0) (fun _ => 0) (fun _ => false) 0 0 (fun _ => 0)), xArr (t 0) (a 1) 30 (xN (fun _ => 0)), xArr (t 0) (a 2) 30 (xN (fun _ => 0)), xArr (t 0) (a 3) 30 (fun _ => 0), xArr (t 1) (a 4) 30 (xB (fun _ => false)), xArr (t 0) (a 5) 12 (sE (fun _ => 0) (fun _ => 0) (fun _ => 0) (fun _ => false) 0 0 (fun _ => 0)), xArr (t 0) (a 6) 144 (sB (fun _ => 0) (fun _ => 0) (fun _ => 0) (fun _ => false) 0 0 (fun _ => 0) (fun _ => 0)), xArr (t 0) (a 7) 12 (fun _ => 0), xArr (t 0) (a 8) 12 (fun _ => 0), xArr (t 0) (a 9) 12 (fun _ => 0)]) H := hP.sub [3, 4, 5, 6, 7, 8, 9, 0, 1, 2] rfl
  have hD : va_D _ ([xObj a 0 0 (sRo (fun _ => 0) (fun _ => 0) (fun _ => 0) (fun _ => false) 0 0 (fun _ => 0)), xArr (t 0) (a 1) 30 (xN (fun _ => 0)), xArr (t 0) (a 2) 30 (xN (fun _ => 0)), xArr (t 0) (a 3) 30 (fun _ => 0), xArr (t 1) (a 4) 30 (xB (fun _ => false)), xArr (t 0) (a 5) 12 (sE (fun _ => 0) (fun _ => 0) (fun _ => 0) (fun _ => false) 0 0 (fun _ => 0)), xArr (t 0) (a 6) 144 (sB (fun _ => 0) (fun _ => 0) (fun _ => 0) (fun _ => false) 0 0 (fun _ => 0) (fun _ => 0)), xArr (t 0) (a 7) 12 (fun _ => 0), xArr (t 0) (a 8) 12 (fun _ => 0), xArr (t 0) (a 9) 12 (fun _ => 0)]) := hD.sub [3, 4, 5, 6, 7, 8, 9, 0, 1, 2] (by decide) rfl
  subst hAe
  obtain ⟨hq9, hf9⟩ := xm_end (S := Nat → Nat) (pu := (fun u : Nat → Nat => u 0 = h0)) (r := (fun u : Nat → Nat => none)) (wc := [(h0, .inr (0, [.int 0, .int 0, .null, .null, .null, .null, .int 0, .null, .null, .null, .null, .null]))]) (w1 := (fun u : Nat → Nat => [xObj u 0 0 (sRo (fun _ => 0) (fun _ => 0) (fun _ => 0) (fun _ => false) 0 0 (fun _ => 0)), xArr (t 0) (u 1) 30 (xN (fun _ => 0)), xArr (t 0) (u 2) 30 (xN (fun _ => 0)), xArr (t 0) (u 3) 30 (fun _ => 0), xArr (t 1) (u 4) 30 (xB (fun _ => false)), xArr (t 0) (u 5) 12 (sE (fun _ => 0) (fun _ => 0) (fun _ => 0) (fun _ => false) 0 0 (fun _ => 0)), xArr (t 0) (u 6) 144 (sB (fun _ => 0) (fun _ => 0) (fun _ => 0) (fun _ => false) 0 0 (fun _ => 0) (fun _ => 0)), xArr (t 0) (u 7) 12 (fun _ => 0), xArr (t 0) (u 8) 12 (fun _ => 0), xArr (t 0) (u 9) 12 (fun _ => 0)])) (o := none) (args := ([.ref h0] : List Value).toArray) a rfl ha0 rfl hP hD hS
  exact W.vret hx hb hr hq9 hf9 dX0_init_81 hlocks
