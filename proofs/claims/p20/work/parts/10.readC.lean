theorem hd_X0_isPossible : yX0_isPossible.cls = RX0 ∧ yX0_isPossible.cls ≠ "java/lang/invoke/MethodHandle" ∧ yX0_isPossible.cls ≠ "java/lang/invoke/VarHandle" ∧ (parseMethodDescriptor yX0_isPossible.desc).map (fun d => d.parameters.length) = some 0 := by decide +kernel
theorem hd_X0_boundFrom : yX0_boundFrom.cls = RX0 ∧ yX0_boundFrom.cls ≠ "java/lang/invoke/MethodHandle" ∧ yX0_boundFrom.cls ≠ "java/lang/invoke/VarHandle" ∧ (parseMethodDescriptor yX0_boundFrom.desc).map (fun d => d.parameters.length) = some 2 := by decide +kernel
theorem hd_X0_lastOf : yX0_lastOf.cls = RX0 ∧ yX0_lastOf.cls ≠ "java/lang/invoke/MethodHandle" ∧ yX0_lastOf.cls ≠ "java/lang/invoke/VarHandle" ∧ (parseMethodDescriptor yX0_lastOf.desc).map (fun d => d.parameters.length) = some 1 := by decide +kernel
theorem hd_X0_tiedRopes : yX0_tiedRopes.cls = RX0 ∧ yX0_tiedRopes.cls ≠ "java/lang/invoke/MethodHandle" ∧ yX0_tiedRopes.cls ≠ "java/lang/invoke/VarHandle" ∧ (parseMethodDescriptor yX0_tiedRopes.desc).map (fun d => d.parameters.length) = some 0 := by decide +kernel
theorem hd_X0_tiedEndsAt : yX0_tiedEndsAt.cls = RX0 ∧ yX0_tiedEndsAt.cls ≠ "java/lang/invoke/MethodHandle" ∧ yX0_tiedEndsAt.cls ≠ "java/lang/invoke/VarHandle" ∧ (parseMethodDescriptor yX0_tiedEndsAt.desc).map (fun d => d.parameters.length) = some 2 := by decide +kernel
theorem hd_X0_isTight : yX0_isTight.cls = RX0 ∧ yX0_isTight.cls ≠ "java/lang/invoke/MethodHandle" ∧ yX0_isTight.cls ≠ "java/lang/invoke/VarHandle" ∧ (parseMethodDescriptor yX0_isTight.desc).map (fun d => d.parameters.length) = some 1 := by decide +kernel
theorem hd_X0_tightRopes : yX0_tightRopes.cls = RX0 ∧ yX0_tightRopes.cls ≠ "java/lang/invoke/MethodHandle" ∧ yX0_tightRopes.cls ≠ "java/lang/invoke/VarHandle" ∧ (parseMethodDescriptor yX0_tightRopes.desc).map (fun d => d.parameters.length) = some 0 := by decide +kernel
theorem hd_X0_leastLength : yX0_leastLength.cls = RX0 ∧ yX0_leastLength.cls ≠ "java/lang/invoke/MethodHandle" ∧ yX0_leastLength.cls ≠ "java/lang/invoke/VarHandle" ∧ (parseMethodDescriptor yX0_leastLength.desc).map (fun d => d.parameters.length) = some 2 := by decide +kernel
set_option maxHeartbeats 4000000 in
set_option maxRecDepth 100000 in
theorem c_X0_isPossible (l : Launch) (D : va_G) (t : Nat → ClassId) (a : Nat → Nat) (tc rc : Nat) (ro : Int32) : Met l yX0_isPossible wsX0_isPossible ({ frames := 0, cells := 0, slots := 0, locals := 0 }) (xRo D (xTy t) [.ref (a 0)] [xObj a tc rc ro]) (xQr (.int (bI (decide (¬ ro = -1))))) 0 0 (fun _ => False) := by
  refine Met.ofW (cc := cX0_isPossible) (maxL := 1) (ret := (some .boolean)) (by decide) rfl ?_
  intro p e s m args below meth c s₁ hB9 hml hv
  obtain ⟨rfl, hP, hK⟩ := hv
  have hx := hB9.exec
  have hb := hB9.bytes
  have hr := hB9.returns
  have hts := atoms_spec (ws := wsX0_isPossible) hB9.pre
  have hown : s.vm.findClass RX0 = some m.cls := findClass_of_methodNamed hB9.named
  have hlocks := hB9.notSynchronized
  have hin : ∀ w ∈ wsX00, w ∈ wsX0_isPossible := fun _ h => List.mem_cons_of_mem _ (List.mem_append_right _ h)
  have fl_94 := hts (.fieldLink RX0 94 "RopeTimes" "rounds" "I") (by decide +kernel)
  have hl := lv_entry ([.ref (a 0)]) (n := 1) (Nat.le_of_ble_eq_true rfl)
  rw [lg_entry_eq]
  generalize (lg_sl ([.ref (a 0)]) ++ List.replicate (1 - (lg_sl ([.ref (a 0)])).length) Slot.unset).toArray = ls at hl ⊢
  have hl : lv_has ls 1 [(0, .ref (a 0))] := hl
  refine lv_aload_n hx hb dX0_isPossible_0 rfl (lv_at hl 0 rfl) ?_
  refine x0_get (v := .int ro) hx hb hts hin hown hK hP 0 rfl 6 (by decide) fl_94 rfl dX0_isPossible_1 rfl ?_
  refine lv_iconst (v := (-1)) hx hb dX0_isPossible_4 (by decide) ?_
  refine lv_icmp_eq (x := ro) (y := (-1)) (tgt := 12) hx hb dX0_isPossible_5 (by decide) (fun c_1 => ?_) (fun c_1 => ?_)
  · refine lv_iconst (v := 0) hx hb dX0_isPossible_12 (by decide) ?_
    exact x_zret (v := 0) hx hb hr hlocks (by simp [bI, c_1]) dX0_isPossible_13
  · refine lv_iconst (v := 1) hx hb dX0_isPossible_8 (by decide) ?_
    refine lv_goto (tgt := 13) hx hb dX0_isPossible_9 (by decide) ?_
    exact x_zret (v := 1) hx hb hr hlocks (by simp [bI, c_1]) dX0_isPossible_13
set_option maxHeartbeats 4000000 in
set_option maxRecDepth 100000 in
theorem c_X0_boundFrom (l : Launch) (D : va_G) (t : Nat → ClassId) (a : Nat → Nat) (tc rc : Nat) (ro : Int32) (B : Nat → Int32) (i j : Nat) (hi : i < 12) (hj : j < 12) : Met l yX0_boundFrom wsX0_boundFrom ({ frames := 0, cells := 0, slots := 0, locals := 0 }) (xRo D (xTy t) [.ref (a 0), .int (nI i), .int (nI j)] [xObj a tc rc ro, xArr (t 0) (a 6) 144 B]) (xQr (.int (B (i * 12 + j)))) 0 0 (fun _ => False) := by
  refine Met.ofW (cc := cX0_boundFrom) (maxL := 3) (ret := (some .int)) (by decide) rfl ?_
  intro p e s m args below meth c s₁ hB9 hml hv
  obtain ⟨rfl, hP, hK⟩ := hv
  have hx := hB9.exec
  have hb := hB9.bytes
  have hr := hB9.returns
  have hts := atoms_spec (ws := wsX0_boundFrom) hB9.pre
  have hown : s.vm.findClass RX0 = some m.cls := findClass_of_methodNamed hB9.named
  have hlocks := hB9.notSynchronized
  have hin : ∀ w ∈ wsX00, w ∈ wsX0_boundFrom := fun _ h => List.mem_cons_of_mem _ (List.mem_append_right _ h)
  have fl_26 := hts (.fieldLink RX0 26 "RopeTimes" "bound" "[I") (by decide +kernel)
  have hl := lv_entry ([.ref (a 0), .int (nI i), .int (nI j)]) (n := 3) (Nat.le_of_ble_eq_true rfl)
  rw [lg_entry_eq]
  generalize (lg_sl ([.ref (a 0), .int (nI i), .int (nI j)]) ++ List.replicate (3 - (lg_sl ([.ref (a 0), .int (nI i), .int (nI j)])).length) Slot.unset).toArray = ls at hl ⊢
  have hl : lv_has ls 3 [(0, .ref (a 0)), (1, .int (nI i)), (2, .int (nI j))] := hl
  refine lv_aload_n hx hb dX0_boundFrom_0 rfl (lv_at hl 0 rfl) ?_
  refine x0_get (v := .ref (a 6)) hx hb hts hin hown hK hP 0 rfl 8 (by decide) fl_26 rfl dX0_boundFrom_1 rfl ?_
  refine lv_iload_n hx hb dX0_boundFrom_4 rfl (lv_at hl 1 rfl) ?_
  refine lv_bipush (v := 12) hx hb dX0_boundFrom_5 (by decide) ?_
  refine lv_imul (x := nI i) (y := 12) hx hb dX0_boundFrom_7 ?_
  refine x_top (w := nI (i * 12)) (pk_mul i 12) ?_
  refine lv_iload_n hx hb dX0_boundFrom_8 rfl (lv_at hl 2 rfl) ?_
  refine lv_iadd (x := nI (i * 12)) (y := nI j) hx hb dX0_boundFrom_9 ?_
  refine x_top (w := nI (i * 12 + j)) (nI_add (i * 12) j) ?_
  refine x_iald (f := B) hx hb hK hP 1 0 rfl rfl (k := i * 12 + j) (by omega) (Nat.le_of_ble_eq_true rfl) dX0_boundFrom_10 ?_
  exact x_iret (v := B (i * 12 + j)) hx hb hr hlocks rfl dX0_boundFrom_11
set_option maxHeartbeats 4000000 in
set_option maxRecDepth 100000 in
theorem c_X0_lastOf (l : Launch) (D : va_G) (t : Nat → ClassId) (a : Nat → Nat) (tc rc : Nat) (ro : Int32) (q : Nat) (E : Nat → Int32) (htc : tc ≤ 12) : Met l yX0_lastOf wsX0_lastOf ({ frames := 1, cells := 0, slots := 0, locals := 21 }) (xRo D (xTy t) [.ref (a 0), .ref q] [xObj a tc rc ro, xArr (t 0) q 12 E]) (xQr (.int (lastF E tc 0 0))) 0 0 (fun _ => False) := by
  refine Met.ofW (cc := cX0_lastOf) (maxL := 4) (ret := (some .int)) (by decide) rfl ?_
  intro p e s m args below meth c s₁ hB9 hml hv
  obtain ⟨rfl, hP, hK⟩ := hv
  have hx := hB9.exec
  have hb := hB9.bytes
  have hr := hB9.returns
  have hts := atoms_spec (ws := wsX0_lastOf) hB9.pre
  have hown : s.vm.findClass RX0 = some m.cls := findClass_of_methodNamed hB9.named
  have hlocks := hB9.notSynchronized
  have hin : ∀ w ∈ wsX00, w ∈ wsX0_lastOf := fun _ h => List.mem_cons_of_mem _ (List.mem_append_right _ h)
  have fl_41 := hts (.fieldLink RX0 41 "RopeTimes" "turnCount" "I") (by decide +kernel)
  have ml_180 := hts (.methodLink RX0 180 Lib.Math.max.name) (by decide +kernel)
  have ms_max := hts (.static Lib.Math.max.name) (by decide +kernel)
  have mc_max := hts (.code Lib.Math.max.name Lib.Math.max.code 2 (some .int)) (by decide +kernel)
  have mi_Math := hts (.initialized "java/lang/Math") (by decide +kernel)
  have hl := lv_entry ([.ref (a 0), .ref q]) (n := 4) (Nat.le_of_ble_eq_true rfl)
  rw [lg_entry_eq]
  generalize (lg_sl ([.ref (a 0), .ref q]) ++ List.replicate (4 - (lg_sl ([.ref (a 0), .ref q])).length) Slot.unset).toArray = ls at hl ⊢
  have hl : lv_has ls 4 [(0, .ref (a 0)), (1, .ref q)] := hl
  refine lv_iconst (v := 0) hx hb dX0_lastOf_0 (by decide) ?_
  refine lv_istore_n (lv' := [(2, .int 0), (0, .ref (a 0)), (1, .ref q)]) hx hb dX0_lastOf_1 rfl hl (by decide) rfl (fun ls hl => ?_)
  refine lv_iconst (v := 0) hx hb dX0_lastOf_2 (by decide) ?_
  refine lv_istore_n (lv' := [(3, .int 0), (2, .int 0), (0, .ref (a 0)), (1, .ref q)]) hx hb dX0_lastOf_3 rfl hl (by decide) rfl (fun ls hl => ?_)
  have lp_4 : ∀ (n4 : Nat) (i : Nat) (mx : Int32), i + n4 = tc → lastF E n4 i mx = lastF E tc 0 0 → ∀ ls : Array Slot, lv_has ls 4 [(3, .int (nI i)), (2, .int mx), (0, .ref (a 0)), (1, .ref q)] → W p l e (headSpec wsX0_lastOf ({ frames := 1, cells := 0, slots := 0, locals := 21 } : Jvm.Room)).room s m (([.ref (a 0), .ref q] : List Value).toArray) below meth c s.heap [] 0 0 (MQ below (xQr (.int (lastF E tc 0 0))) (([.ref (a 0), .ref q] : List Value).toArray) s 0 0 (fun _ => False)) (F0 m 4 ls []) := by
    intro n4
    induction n4 using Nat.strongRecOn with
    | _ n4 ih_4 =>
      intro i mx hm_4 hfin_4 ls hl
      refine lv_iload_n hx hb dX0_lastOf_4 rfl (lv_at hl 0 rfl) ?_
      refine lv_aload_n hx hb dX0_lastOf_5 rfl (lv_at hl 2 rfl) ?_
      refine x0_get (v := .int (nI tc)) hx hb hts hin hown hK hP 0 rfl 0 (by decide) fl_41 rfl dX0_lastOf_6 rfl ?_
      refine lv_icmp_ge (x := nI i) (y := nI tc) (tgt := 26) hx hb dX0_lastOf_9 (by decide) (fun c_1 => ?_) (fun c_1 => ?_)
      · have c_1 := (nI_leI (a := tc) (b := i) (by omega) (by omega)).mp c_1
        have hn0_4 : n4 = 0 := by omega
        subst hn0_4
        obtain rfl : mx = lastF E tc 0 0 := hfin_4
        refine lv_iload_n hx hb dX0_lastOf_26 rfl (lv_at hl 1 rfl) ?_
        exact x_iret (v := lastF E tc 0 0) hx hb hr hlocks rfl dX0_lastOf_27
      · have c_1 : i < tc := Nat.lt_of_not_le (fun z9 => c_1 ((nI_leI (a := tc) (b := i) (by omega) (by omega)).mpr z9))
        obtain ⟨n49, rfl⟩ : ∃ z, n4 = z + 1 := ⟨n4 - 1, by omega⟩
        refine lv_iload_n hx hb dX0_lastOf_12 rfl (lv_at hl 1 rfl) ?_
        refine lv_aload_n hx hb dX0_lastOf_13 rfl (lv_at hl 3 rfl) ?_
        refine lv_iload_n hx hb dX0_lastOf_14 rfl (lv_at hl 0 rfl) ?_
        refine x_iald (f := E) hx hb hK hP 1 0 rfl rfl (k := i) (by omega) (Nat.le_of_ble_eq_true rfl) dX0_lastOf_15 ?_
        refine va_mmax (x := mx) (y := E i) hx hb (hml.trans hl.1.symm) hown ml_180 ms_max mi_Math mc_max (Nat.le_of_ble_eq_true rfl) (Nat.le_of_ble_eq_true rfl) (Nat.le_of_ble_eq_true rfl) (Nat.le_of_ble_eq_true rfl) dX0_lastOf_16 ?_
        refine x_top (w := mxI mx (E i)) rfl ?_
        refine lv_istore_n (lv' := [(2, .int (mxI mx (E i))), (3, .int (nI i)), (0, .ref (a 0)), (1, .ref q)]) hx hb dX0_lastOf_19 rfl hl (by decide) rfl (fun ls hl => ?_)
        refine lv_iinc (v := nI (i + 1)) (lv' := [(3, .int (nI (i + 1))), (2, .int (mxI mx (E i))), (0, .ref (a 0)), (1, .ref q)]) hx hb dX0_lastOf_20 hl (k := 1) rfl (x_inc _) (by decide) rfl (fun ls hl => ?_)
        refine lv_goto (tgt := 4) hx hb dX0_lastOf_23 (by decide) ?_
        exact ih_4 n49 (by omega) (i + 1) (mxI mx (E i)) (by omega) (by rw [← hfin_4]; simp only [lastF, c_1]; first | rfl | done) _ (lv_sub hl [0, 1, 2, 3] rfl)
  exact lp_4 tc 0 0 (by omega) rfl _ (lv_sub hl [0, 1, 2, 3] rfl)
set_option maxHeartbeats 4000000 in
set_option maxRecDepth 100000 in
theorem c_X0_tiedRopes (l : Launch) (D : va_G) (t : Nat → ClassId) (a : Nat → Nat) (tc rc : Nat) (ro : Int32) (Z : Nat → Bool) (hrc : rc ≤ 30) : Met l yX0_tiedRopes wsX0_tiedRopes ({ frames := 0, cells := 0, slots := 0, locals := 0 }) (xRo D (xTy t) [.ref (a 0)] [xObj a tc rc ro, xArr (t 1) (a 4) 30 (xB Z)]) (xQr (.int (nI (countF Z rc 0 0)))) 0 0 (fun _ => False) := by
  refine Met.ofW (cc := cX0_tiedRopes) (maxL := 3) (ret := (some .int)) (by decide) rfl ?_
  intro p e s m args below meth c s₁ hB9 hml hv
  obtain ⟨rfl, hP, hK⟩ := hv
  have hx := hB9.exec
  have hb := hB9.bytes
  have hr := hB9.returns
  have hts := atoms_spec (ws := wsX0_tiedRopes) hB9.pre
  have hown : s.vm.findClass RX0 = some m.cls := findClass_of_methodNamed hB9.named
  have hlocks := hB9.notSynchronized
  have hin : ∀ w ∈ wsX00, w ∈ wsX0_tiedRopes := fun _ h => List.mem_cons_of_mem _ (List.mem_append_right _ h)
  have fl_63 := hts (.fieldLink RX0 63 "RopeTimes" "ropeCount" "I") (by decide +kernel)
  have fl_19 := hts (.fieldLink RX0 19 "RopeTimes" "tied" "[Z") (by decide +kernel)
  have hl := lv_entry ([.ref (a 0)]) (n := 3) (Nat.le_of_ble_eq_true rfl)
  rw [lg_entry_eq]
  generalize (lg_sl ([.ref (a 0)]) ++ List.replicate (3 - (lg_sl ([.ref (a 0)])).length) Slot.unset).toArray = ls at hl ⊢
  have hl : lv_has ls 3 [(0, .ref (a 0))] := hl
  refine lv_iconst (v := 0) hx hb dX0_tiedRopes_0 (by decide) ?_
  refine lv_istore_n (lv' := [(1, .int 0), (0, .ref (a 0))]) hx hb dX0_tiedRopes_1 rfl hl (by decide) rfl (fun ls hl => ?_)
  refine lv_iconst (v := 0) hx hb dX0_tiedRopes_2 (by decide) ?_
  refine lv_istore_n (lv' := [(2, .int 0), (1, .int 0), (0, .ref (a 0))]) hx hb dX0_tiedRopes_3 rfl hl (by decide) rfl (fun ls hl => ?_)
  have lp_4 : ∀ (n4 : Nat) (i : Nat) (k : Nat), i + n4 = rc → countF Z n4 i k = countF Z rc 0 0 → ∀ ls : Array Slot, lv_has ls 3 [(2, .int (nI i)), (1, .int (nI k)), (0, .ref (a 0))] → W p l e (headSpec wsX0_tiedRopes ({ frames := 0, cells := 0, slots := 0, locals := 0 } : Jvm.Room)).room s m (([.ref (a 0)] : List Value).toArray) below meth c s.heap [] 0 0 (MQ below (xQr (.int (nI (countF Z rc 0 0)))) (([.ref (a 0)] : List Value).toArray) s 0 0 (fun _ => False)) (F0 m 4 ls []) := by
    intro n4
    induction n4 using Nat.strongRecOn with
    | _ n4 ih_4 =>
      intro i k hm_4 hfin_4 ls hl
      refine lv_iload_n hx hb dX0_tiedRopes_4 rfl (lv_at hl 0 rfl) ?_
      refine lv_aload_n hx hb dX0_tiedRopes_5 rfl (lv_at hl 2 rfl) ?_
      refine x0_get (v := .int (nI rc)) hx hb hts hin hown hK hP 0 rfl 1 (by decide) fl_63 rfl dX0_tiedRopes_6 rfl ?_
      refine lv_icmp_ge (x := nI i) (y := nI rc) (tgt := 30) hx hb dX0_tiedRopes_9 (by decide) (fun c_1 => ?_) (fun c_1 => ?_)
      · have c_1 := (nI_leI (a := rc) (b := i) (by omega) (by omega)).mp c_1
        have hn0_4 : n4 = 0 := by omega
        subst hn0_4
        obtain rfl : k = countF Z rc 0 0 := hfin_4
        refine lv_iload_n hx hb dX0_tiedRopes_30 rfl (lv_at hl 1 rfl) ?_
        exact x_iret (v := nI (countF Z rc 0 0)) hx hb hr hlocks rfl dX0_tiedRopes_31
      · have c_1 : i < rc := Nat.lt_of_not_le (fun z9 => c_1 ((nI_leI (a := rc) (b := i) (by omega) (by omega)).mpr z9))
        obtain ⟨n49, rfl⟩ : ∃ z, n4 = z + 1 := ⟨n4 - 1, by omega⟩
        refine lv_aload_n hx hb dX0_tiedRopes_12 rfl (lv_at hl 2 rfl) ?_
        refine x0_get (v := .ref (a 4)) hx hb hts hin hown hK hP 0 rfl 5 (by decide) fl_19 rfl dX0_tiedRopes_13 rfl ?_
        refine lv_iload_n hx hb dX0_tiedRopes_16 rfl (lv_at hl 0 rfl) ?_
        refine x_zald (f := xB Z) hx hb hK hP 1 1 rfl rfl (k := i) (by omega) (Nat.le_of_ble_eq_true rfl) dX0_tiedRopes_17 ?_
        refine x_top (w := bI (Z i)) rfl ?_
        refine lv_if_eq (x := bI (Z i)) (tgt := 24) hx hb dX0_tiedRopes_18 (by decide) (fun c_2 => ?_) (fun c_2 => ?_)
        · have c_2 := bI_0 c_2
          refine lv_iinc (v := nI (i + 1)) (lv' := [(2, .int (nI (i + 1))), (1, .int (nI k)), (0, .ref (a 0))]) hx hb dX0_tiedRopes_24 hl (k := 0) rfl (x_inc _) (by decide) rfl (fun ls hl => ?_)
          refine lv_goto (tgt := 4) hx hb dX0_tiedRopes_27 (by decide) ?_
          exact ih_4 n49 (by omega) (i + 1) k (by omega) (by rw [← hfin_4]; simp [countF, c_1, c_2]) _ (lv_sub hl [0, 1, 2] rfl)
        · have c_2 := bI_n0 c_2
          refine lv_iinc (v := nI (k + 1)) (lv' := [(1, .int (nI (k + 1))), (2, .int (nI i)), (0, .ref (a 0))]) hx hb dX0_tiedRopes_21 hl (k := 1) rfl (x_inc _) (by decide) rfl (fun ls hl => ?_)
          refine lv_iinc (v := nI (i + 1)) (lv' := [(2, .int (nI (i + 1))), (1, .int (nI (k + 1))), (0, .ref (a 0))]) hx hb dX0_tiedRopes_24 hl (k := 1) rfl (x_inc _) (by decide) rfl (fun ls hl => ?_)
          refine lv_goto (tgt := 4) hx hb dX0_tiedRopes_27 (by decide) ?_
          exact ih_4 n49 (by omega) (i + 1) (k + 1) (by omega) (by rw [← hfin_4]; simp [countF, c_1, c_2]) _ (lv_sub hl [0, 1, 2] rfl)
  exact lp_4 rc 0 0 (by omega) rfl _ (lv_sub hl [0, 1, 2] rfl)
set_option maxHeartbeats 4000000 in
set_option maxRecDepth 100000 in
theorem c_X0_tiedEndsAt (l : Launch) (D : va_G) (t : Nat → ClassId) (a : Nat → Nat) (tc rc : Nat) (ro : Int32) (Z : Nat → Bool) (q : Nat) (G : Nat → Nat) (w : Nat) (hrc : rc ≤ 30) (hw : w < 12) (hG : ∀ r, r < rc → G r < 12) : Met l yX0_tiedEndsAt wsX0_tiedEndsAt ({ frames := 0, cells := 0, slots := 0, locals := 0 }) (xRo D (xTy t) [.ref (a 0), .int (nI w), .ref q] [xObj a tc rc ro, xArr (t 1) (a 4) 30 (xB Z), xArr (t 0) q 30 (xN G)]) (xQr (.int (nI (countF (fun r => Z r && decide (G r = w)) rc 0 0)))) 0 0 (fun _ => False) := by
  refine Met.ofW (cc := cX0_tiedEndsAt) (maxL := 5) (ret := (some .int)) (by decide) rfl ?_
  intro p e s m args below meth c s₁ hB9 hml hv
  obtain ⟨rfl, hP, hK⟩ := hv
  have hx := hB9.exec
  have hb := hB9.bytes
  have hr := hB9.returns
  have hts := atoms_spec (ws := wsX0_tiedEndsAt) hB9.pre
  have hown : s.vm.findClass RX0 = some m.cls := findClass_of_methodNamed hB9.named
  have hlocks := hB9.notSynchronized
  have hin : ∀ w ∈ wsX00, w ∈ wsX0_tiedEndsAt := fun _ h => List.mem_cons_of_mem _ (List.mem_append_right _ h)
  have fl_63 := hts (.fieldLink RX0 63 "RopeTimes" "ropeCount" "I") (by decide +kernel)
  have fl_19 := hts (.fieldLink RX0 19 "RopeTimes" "tied" "[Z") (by decide +kernel)
  have hl := lv_entry ([.ref (a 0), .int (nI w), .ref q]) (n := 5) (Nat.le_of_ble_eq_true rfl)
  rw [lg_entry_eq]
  generalize (lg_sl ([.ref (a 0), .int (nI w), .ref q]) ++ List.replicate (5 - (lg_sl ([.ref (a 0), .int (nI w), .ref q])).length) Slot.unset).toArray = ls at hl ⊢
  have hl : lv_has ls 5 [(0, .ref (a 0)), (1, .int (nI w)), (2, .ref q)] := hl
  refine lv_iconst (v := 0) hx hb dX0_tiedEndsAt_0 (by decide) ?_
  refine lv_istore_n (lv' := [(3, .int 0), (0, .ref (a 0)), (1, .int (nI w)), (2, .ref q)]) hx hb dX0_tiedEndsAt_1 rfl hl (by decide) rfl (fun ls hl => ?_)
  refine lv_iconst (v := 0) hx hb dX0_tiedEndsAt_2 (by decide) ?_
  refine lv_istore (lv' := [(4, .int 0), (3, .int 0), (0, .ref (a 0)), (1, .int (nI w)), (2, .ref q)]) hx hb dX0_tiedEndsAt_3 hl (by decide) rfl (fun ls hl => ?_)
  have lp_5 : ∀ (n5 : Nat) (i : Nat) (k : Nat), i + n5 = rc → countF (fun r => Z r && decide (G r = w)) n5 i k = countF (fun r => Z r && decide (G r = w)) rc 0 0 → ∀ ls : Array Slot, lv_has ls 5 [(4, .int (nI i)), (3, .int (nI k)), (0, .ref (a 0)), (1, .int (nI w)), (2, .ref q)] → W p l e (headSpec wsX0_tiedEndsAt ({ frames := 0, cells := 0, slots := 0, locals := 0 } : Jvm.Room)).room s m (([.ref (a 0), .int (nI w), .ref q] : List Value).toArray) below meth c s.heap [] 0 0 (MQ below (xQr (.int (nI (countF (fun r => Z r && decide (G r = w)) rc 0 0)))) (([.ref (a 0), .int (nI w), .ref q] : List Value).toArray) s 0 0 (fun _ => False)) (F0 m 5 ls []) := by
    intro n5
    induction n5 using Nat.strongRecOn with
    | _ n5 ih_5 =>
      intro i k hm_5 hfin_5 ls hl
      refine lv_iload hx hb dX0_tiedEndsAt_5 (lv_at hl 0 rfl) ?_
      refine lv_aload_n hx hb dX0_tiedEndsAt_7 rfl (lv_at hl 2 rfl) ?_
      refine x0_get (v := .int (nI rc)) hx hb hts hin hown hK hP 0 rfl 1 (by decide) fl_63 rfl dX0_tiedEndsAt_8 rfl ?_
      refine lv_icmp_ge (x := nI i) (y := nI rc) (tgt := 41) hx hb dX0_tiedEndsAt_11 (by decide) (fun c_1 => ?_) (fun c_1 => ?_)
      · have c_1 := (nI_leI (a := rc) (b := i) (by omega) (by omega)).mp c_1
        have hn0_5 : n5 = 0 := by omega
        subst hn0_5
        obtain rfl : k = countF (fun r => Z r && decide (G r = w)) rc 0 0 := hfin_5
        refine lv_iload_n hx hb dX0_tiedEndsAt_41 rfl (lv_at hl 1 rfl) ?_
        exact x_iret (v := nI (countF (fun r => Z r && decide (G r = w)) rc 0 0)) hx hb hr hlocks rfl dX0_tiedEndsAt_42
      · have c_1 : i < rc := Nat.lt_of_not_le (fun z9 => c_1 ((nI_leI (a := rc) (b := i) (by omega) (by omega)).mpr z9))
        obtain ⟨n59, rfl⟩ : ∃ z, n5 = z + 1 := ⟨n5 - 1, by omega⟩
        refine lv_aload_n hx hb dX0_tiedEndsAt_14 rfl (lv_at hl 2 rfl) ?_
        refine x0_get (v := .ref (a 4)) hx hb hts hin hown hK hP 0 rfl 5 (by decide) fl_19 rfl dX0_tiedEndsAt_15 rfl ?_
        refine lv_iload hx hb dX0_tiedEndsAt_18 (lv_at hl 0 rfl) ?_
        refine x_zald (f := xB Z) hx hb hK hP 1 1 rfl rfl (k := i) (by omega) (Nat.le_of_ble_eq_true rfl) dX0_tiedEndsAt_20 ?_
        refine x_top (w := bI (Z i)) rfl ?_
        refine lv_if_eq (x := bI (Z i)) (tgt := 35) hx hb dX0_tiedEndsAt_21 (by decide) (fun c_2 => ?_) (fun c_2 => ?_)
        · have c_2 := bI_0 c_2
          refine lv_iinc (v := nI (i + 1)) (lv' := [(4, .int (nI (i + 1))), (3, .int (nI k)), (0, .ref (a 0)), (1, .int (nI w)), (2, .ref q)]) hx hb dX0_tiedEndsAt_35 hl (k := 0) rfl (x_inc _) (by decide) rfl (fun ls hl => ?_)
          refine lv_goto (tgt := 5) hx hb dX0_tiedEndsAt_38 (by decide) ?_
          exact ih_5 n59 (by omega) (i + 1) k (by omega) (by rw [← hfin_5]; simp [countF, c_1, c_2]) _ (lv_sub hl [0, 1, 2, 3, 4] rfl)
        · have c_2 := bI_n0 c_2
          refine lv_aload_n hx hb dX0_tiedEndsAt_24 rfl (lv_at hl 4 rfl) ?_
          refine lv_iload hx hb dX0_tiedEndsAt_25 (lv_at hl 0 rfl) ?_
          refine x_iald (f := xN G) hx hb hK hP 2 0 rfl rfl (k := i) (by omega) (Nat.le_of_ble_eq_true rfl) dX0_tiedEndsAt_27 ?_
          refine x_top (w := nI (G i)) rfl ?_
          have hf_3 := hG i (by omega)
          refine lv_iload_n hx hb dX0_tiedEndsAt_28 rfl (lv_at hl 3 rfl) ?_
          refine lv_icmp_ne (x := nI (G i)) (y := nI w) (tgt := 35) hx hb dX0_tiedEndsAt_29 (by decide) (fun c_4 => ?_) (fun c_4 => ?_)
          · have c_4 : ¬ (G i) = w := fun z9 => c_4 ((nI_eq (a := G i) (b := w) (by omega) (by omega)).mpr z9)
            refine lv_iinc (v := nI (i + 1)) (lv' := [(4, .int (nI (i + 1))), (3, .int (nI k)), (0, .ref (a 0)), (1, .int (nI w)), (2, .ref q)]) hx hb dX0_tiedEndsAt_35 hl (k := 0) rfl (x_inc _) (by decide) rfl (fun ls hl => ?_)
            refine lv_goto (tgt := 5) hx hb dX0_tiedEndsAt_38 (by decide) ?_
            exact ih_5 n59 (by omega) (i + 1) k (by omega) (by rw [← hfin_5]; simp [countF, c_1, c_2, c_4]) _ (lv_sub hl [0, 1, 2, 3, 4] rfl)
          · have c_4 := (nI_eq (a := G i) (b := w) (by omega) (by omega)).mp c_4
            refine lv_iinc (v := nI (k + 1)) (lv' := [(3, .int (nI (k + 1))), (4, .int (nI i)), (0, .ref (a 0)), (1, .int (nI w)), (2, .ref q)]) hx hb dX0_tiedEndsAt_32 hl (k := 1) rfl (x_inc _) (by decide) rfl (fun ls hl => ?_)
            refine lv_iinc (v := nI (i + 1)) (lv' := [(4, .int (nI (i + 1))), (3, .int (nI (k + 1))), (0, .ref (a 0)), (1, .int (nI w)), (2, .ref q)]) hx hb dX0_tiedEndsAt_35 hl (k := 1) rfl (x_inc _) (by decide) rfl (fun ls hl => ?_)
            refine lv_goto (tgt := 5) hx hb dX0_tiedEndsAt_38 (by decide) ?_
            exact ih_5 n59 (by omega) (i + 1) (k + 1) (by omega) (by rw [← hfin_5]; simp [countF, c_1, c_2, c_4]) _ (lv_sub hl [0, 1, 2, 3, 4] rfl)
  exact lp_5 rc 0 0 (by omega) rfl _ (lv_sub hl [0, 1, 2, 3, 4] rfl)
set_option maxHeartbeats 4000000 in
set_option maxRecDepth 100000 in
theorem c_X0_isTight (l : Launch) (D : va_G) (t : Nat → ClassId) (a : Nat → Nat) (tc rc : Nat) (ro : Int32) (F T : Nat → Nat) (L : Nat → Int32) (Z : Nat → Bool) (E : Nat → Int32) (r : Nat) (htc : tc ≤ 12) (hrc : rc ≤ 30) (hF : ∀ r, r < rc → F r < tc ∧ T r < tc) (hr9 : r < rc) : Met l yX0_isTight wsX0_isTight ({ frames := 1, cells := 0, slots := 0, locals := 20 }) (xRo D (xTy t) [.ref (a 0), .int (nI r)] [xObj a tc rc ro, xArr (t 0) (a 1) 30 (xN F), xArr (t 0) (a 2) 30 (xN T), xArr (t 0) (a 3) 30 L, xArr (t 1) (a 4) 30 (xB Z), xArr (t 0) (a 5) 12 E]) (xQr (.int (bI (tightB ro E F T L Z r)))) 0 0 (fun _ => False) := by
  refine Met.ofW (cc := cX0_isTight) (maxL := 2) (ret := (some .boolean)) (by decide) rfl ?_
  intro p e s m args below meth c s₁ hB9 hml hv
  obtain ⟨rfl, hP, hK⟩ := hv
  have hx := hB9.exec
  have hb := hB9.bytes
  have hr := hB9.returns
  have hts := atoms_spec (ws := wsX0_isTight) hB9.pre
  have hown : s.vm.findClass RX0 = some m.cls := findClass_of_methodNamed hB9.named
  have hlocks := hB9.notSynchronized
  have hin : ∀ w ∈ wsX00, w ∈ wsX0_isTight := fun _ h => List.mem_cons_of_mem _ (List.mem_append_right _ h)
  have fl_19 := hts (.fieldLink RX0 19 "RopeTimes" "tied" "[Z") (by decide +kernel)
  have fl_23 := hts (.fieldLink RX0 23 "RopeTimes" "earliest" "[I") (by decide +kernel)
  have fl_13 := hts (.fieldLink RX0 13 "RopeTimes" "to" "[I") (by decide +kernel)
  have fl_9 := hts (.fieldLink RX0 9 "RopeTimes" "from" "[I") (by decide +kernel)
  have fl_16 := hts (.fieldLink RX0 16 "RopeTimes" "length" "[I") (by decide +kernel)
  have hl := lv_entry ([.ref (a 0), .int (nI r)]) (n := 2) (Nat.le_of_ble_eq_true rfl)
  rw [lg_entry_eq]
  generalize (lg_sl ([.ref (a 0), .int (nI r)]) ++ List.replicate (2 - (lg_sl ([.ref (a 0), .int (nI r)])).length) Slot.unset).toArray = ls at hl ⊢
  have hl : lv_has ls 2 [(0, .ref (a 0)), (1, .int (nI r))] := hl
  refine lv_aload_n hx hb dX0_isTight_0 rfl (lv_at hl 0 rfl) ?_
  refine xr_V (b := a 0) (As := []) (rest := []) ⟨hx, hb, hml, hown, hts⟩ (c_X0_isPossible l D t a tc rc ro) (cwV 0 hts gX0_isTight_X0_isPossible rfl rfl rfl hd_X0_isPossible ⟨Nat.le_of_ble_eq_true rfl, Nat.le_of_ble_eq_true rfl⟩) hK hP (va_recv hK hP (ci := 0) (q0 := 0) rfl rfl) [0] rfl rfl hl.1 rfl (Nat.le_of_ble_eq_true rfl) dX0_isTight_1 ⟨(Nat.le_of_ble_eq_true rfl), (Nat.le_of_ble_eq_true rfl)⟩ ?_
  refine lv_if_eq (x := bI (decide (¬ ro = -1))) (tgt := 52) hx hb dX0_isTight_4 (by decide) (fun c_1 => ?_) (fun c_1 => ?_)
  · have c_1 := Classical.not_not.mp (of_decide_eq_false (bI_0 c_1))
    refine lv_iconst (v := 0) hx hb dX0_isTight_52 (by decide) ?_
    exact x_zret (v := 0) hx hb hr hlocks (by simp_all [tightB, bI]) dX0_isTight_53
  · have c_1 := of_decide_eq_true (bI_n0 c_1)
    refine lv_aload_n hx hb dX0_isTight_7 rfl (lv_at hl 0 rfl) ?_
    refine x0_get (v := .ref (a 4)) hx hb hts hin hown hK hP 0 rfl 5 (by decide) fl_19 rfl dX0_isTight_8 rfl ?_
    refine lv_iload_n hx hb dX0_isTight_11 rfl (lv_at hl 1 rfl) ?_
    refine x_zald (f := xB Z) hx hb hK hP 4 1 rfl rfl (k := r) (by omega) (Nat.le_of_ble_eq_true rfl) dX0_isTight_12 ?_
    refine x_top (w := bI (Z r)) rfl ?_
    refine lv_if_eq (x := bI (Z r)) (tgt := 52) hx hb dX0_isTight_13 (by decide) (fun c_2 => ?_) (fun c_2 => ?_)
    · have c_2 := bI_0 c_2
      refine lv_iconst (v := 0) hx hb dX0_isTight_52 (by decide) ?_
      exact x_zret (v := 0) hx hb hr hlocks (by simp_all [tightB, bI]) dX0_isTight_53
    · have c_2 := bI_n0 c_2
      refine lv_aload_n hx hb dX0_isTight_16 rfl (lv_at hl 0 rfl) ?_
      refine x0_get (v := .ref (a 5)) hx hb hts hin hown hK hP 0 rfl 7 (by decide) fl_23 rfl dX0_isTight_17 rfl ?_
      refine lv_aload_n hx hb dX0_isTight_20 rfl (lv_at hl 0 rfl) ?_
      refine x0_get (v := .ref (a 2)) hx hb hts hin hown hK hP 0 rfl 3 (by decide) fl_13 rfl dX0_isTight_21 rfl ?_
      refine lv_iload_n hx hb dX0_isTight_24 rfl (lv_at hl 1 rfl) ?_
      refine x_iald (f := xN T) hx hb hK hP 2 0 rfl rfl (k := r) (by omega) (Nat.le_of_ble_eq_true rfl) dX0_isTight_25 ?_
      refine x_top (w := nI (T r)) rfl ?_
      have hf_3 := hF r (by omega)
      refine x_iald (f := E) hx hb hK hP 5 0 rfl rfl (k := T r) (by omega) (Nat.le_of_ble_eq_true rfl) dX0_isTight_26 ?_
      refine lv_aload_n hx hb dX0_isTight_27 rfl (lv_at hl 0 rfl) ?_
      refine x0_get (v := .ref (a 5)) hx hb hts hin hown hK hP 0 rfl 7 (by decide) fl_23 rfl dX0_isTight_28 rfl ?_
      refine lv_aload_n hx hb dX0_isTight_31 rfl (lv_at hl 0 rfl) ?_
      refine x0_get (v := .ref (a 1)) hx hb hts hin hown hK hP 0 rfl 2 (by decide) fl_9 rfl dX0_isTight_32 rfl ?_
      refine lv_iload_n hx hb dX0_isTight_35 rfl (lv_at hl 1 rfl) ?_
      refine x_iald (f := xN F) hx hb hK hP 1 0 rfl rfl (k := r) (by omega) (Nat.le_of_ble_eq_true rfl) dX0_isTight_36 ?_
      refine x_top (w := nI (F r)) rfl ?_
      have hf_4 := hF r (by omega)
      refine x_iald (f := E) hx hb hK hP 5 0 rfl rfl (k := F r) (by omega) (Nat.le_of_ble_eq_true rfl) dX0_isTight_37 ?_
      refine lv_aload_n hx hb dX0_isTight_38 rfl (lv_at hl 0 rfl) ?_
      refine x0_get (v := .ref (a 3)) hx hb hts hin hown hK hP 0 rfl 4 (by decide) fl_16 rfl dX0_isTight_39 rfl ?_
      refine lv_iload_n hx hb dX0_isTight_42 rfl (lv_at hl 1 rfl) ?_
      refine x_iald (f := L) hx hb hK hP 3 0 rfl rfl (k := r) (by omega) (Nat.le_of_ble_eq_true rfl) dX0_isTight_43 ?_
      refine lv_iadd (x := E (F r)) (y := L r) hx hb dX0_isTight_44 ?_
      refine lv_icmp_ne (x := E (T r)) (y := (E (F r)) + (L r)) (tgt := 52) hx hb dX0_isTight_45 (by decide) (fun c_5 => ?_) (fun c_5 => ?_)
      · refine lv_iconst (v := 0) hx hb dX0_isTight_52 (by decide) ?_
        exact x_zret (v := 0) hx hb hr hlocks (by simp_all [tightB, bI]) dX0_isTight_53
      · refine lv_iconst (v := 1) hx hb dX0_isTight_48 (by decide) ?_
        refine lv_goto (tgt := 53) hx hb dX0_isTight_49 (by decide) ?_
        exact x_zret (v := 1) hx hb hr hlocks (by simp_all [tightB, bI]) dX0_isTight_53
set_option maxHeartbeats 4000000 in
set_option maxRecDepth 100000 in
theorem c_X0_tightRopes (l : Launch) (D : va_G) (t : Nat → ClassId) (a : Nat → Nat) (tc rc : Nat) (ro : Int32) (F T : Nat → Nat) (L : Nat → Int32) (Z : Nat → Bool) (E : Nat → Int32) (htc : tc ≤ 12) (hrc : rc ≤ 30) (hF : ∀ r, r < rc → F r < tc ∧ T r < tc) : Met l yX0_tightRopes wsX0_tightRopes ({ frames := 2, cells := 0, slots := 0, locals := 41 }) (xRo D (xTy t) [.ref (a 0)] [xObj a tc rc ro, xArr (t 0) (a 1) 30 (xN F), xArr (t 0) (a 2) 30 (xN T), xArr (t 0) (a 3) 30 L, xArr (t 1) (a 4) 30 (xB Z), xArr (t 0) (a 5) 12 E]) (xQr (.int (nI (countF (tightB ro E F T L Z) rc 0 0)))) 0 0 (fun _ => False) := by
  refine Met.ofW (cc := cX0_tightRopes) (maxL := 3) (ret := (some .int)) (by decide) rfl ?_
  intro p e s m args below meth c s₁ hB9 hml hv
  obtain ⟨rfl, hP, hK⟩ := hv
  have hx := hB9.exec
  have hb := hB9.bytes
  have hr := hB9.returns
  have hts := atoms_spec (ws := wsX0_tightRopes) hB9.pre
  have hown : s.vm.findClass RX0 = some m.cls := findClass_of_methodNamed hB9.named
  have hlocks := hB9.notSynchronized
  have hin : ∀ w ∈ wsX00, w ∈ wsX0_tightRopes := fun _ h => List.mem_cons_of_mem _ (List.mem_append_right _ h)
  have fl_63 := hts (.fieldLink RX0 63 "RopeTimes" "ropeCount" "I") (by decide +kernel)
  have hl := lv_entry ([.ref (a 0)]) (n := 3) (Nat.le_of_ble_eq_true rfl)
  rw [lg_entry_eq]
  generalize (lg_sl ([.ref (a 0)]) ++ List.replicate (3 - (lg_sl ([.ref (a 0)])).length) Slot.unset).toArray = ls at hl ⊢
  have hl : lv_has ls 3 [(0, .ref (a 0))] := hl
  refine lv_iconst (v := 0) hx hb dX0_tightRopes_0 (by decide) ?_
  refine lv_istore_n (lv' := [(1, .int 0), (0, .ref (a 0))]) hx hb dX0_tightRopes_1 rfl hl (by decide) rfl (fun ls hl => ?_)
  refine lv_iconst (v := 0) hx hb dX0_tightRopes_2 (by decide) ?_
  refine lv_istore_n (lv' := [(2, .int 0), (1, .int 0), (0, .ref (a 0))]) hx hb dX0_tightRopes_3 rfl hl (by decide) rfl (fun ls hl => ?_)
  have lp_4 : ∀ (n4 : Nat) (i : Nat) (k : Nat), i + n4 = rc → countF (tightB ro E F T L Z) n4 i k = countF (tightB ro E F T L Z) rc 0 0 → ∀ ls : Array Slot, lv_has ls 3 [(2, .int (nI i)), (1, .int (nI k)), (0, .ref (a 0))] → W p l e (headSpec wsX0_tightRopes ({ frames := 2, cells := 0, slots := 0, locals := 41 } : Jvm.Room)).room s m (([.ref (a 0)] : List Value).toArray) below meth c s.heap [] 0 0 (MQ below (xQr (.int (nI (countF (tightB ro E F T L Z) rc 0 0)))) (([.ref (a 0)] : List Value).toArray) s 0 0 (fun _ => False)) (F0 m 4 ls []) := by
    intro n4
    induction n4 using Nat.strongRecOn with
    | _ n4 ih_4 =>
      intro i k hm_4 hfin_4 ls hl
      refine lv_iload_n hx hb dX0_tightRopes_4 rfl (lv_at hl 0 rfl) ?_
      refine lv_aload_n hx hb dX0_tightRopes_5 rfl (lv_at hl 2 rfl) ?_
      refine x0_get (v := .int (nI rc)) hx hb hts hin hown hK hP 0 rfl 1 (by decide) fl_63 rfl dX0_tightRopes_6 rfl ?_
      refine lv_icmp_ge (x := nI i) (y := nI rc) (tgt := 29) hx hb dX0_tightRopes_9 (by decide) (fun c_1 => ?_) (fun c_1 => ?_)
      · have c_1 := (nI_leI (a := rc) (b := i) (by omega) (by omega)).mp c_1
        have hn0_4 : n4 = 0 := by omega
        subst hn0_4
        obtain rfl : k = countF (tightB ro E F T L Z) rc 0 0 := hfin_4
        refine lv_iload_n hx hb dX0_tightRopes_29 rfl (lv_at hl 1 rfl) ?_
        exact x_iret (v := nI (countF (tightB ro E F T L Z) rc 0 0)) hx hb hr hlocks rfl dX0_tightRopes_30
      · have c_1 : i < rc := Nat.lt_of_not_le (fun z9 => c_1 ((nI_leI (a := rc) (b := i) (by omega) (by omega)).mpr z9))
        obtain ⟨n49, rfl⟩ : ∃ z, n4 = z + 1 := ⟨n4 - 1, by omega⟩
        refine lv_aload_n hx hb dX0_tightRopes_12 rfl (lv_at hl 2 rfl) ?_
        refine lv_iload_n hx hb dX0_tightRopes_13 rfl (lv_at hl 0 rfl) ?_
        refine xr_V (b := a 0) (As := [.int (nI i)]) (rest := []) ⟨hx, hb, hml, hown, hts⟩ (c_X0_isTight l D t a tc rc ro F T L Z E i (by omega) (by omega) hF (by omega)) (cwV 1 hts gX0_tightRopes_X0_isTight rfl rfl rfl hd_X0_isTight ⟨Nat.le_of_ble_eq_true rfl, Nat.le_of_ble_eq_true rfl⟩) hK hP (va_recv hK hP (ci := 0) (q0 := 0) rfl rfl) [0, 1, 2, 3, 4, 5] rfl rfl hl.1 rfl (Nat.le_of_ble_eq_true rfl) dX0_tightRopes_14 ⟨(Nat.le_of_ble_eq_true rfl), (Nat.le_of_ble_eq_true rfl)⟩ ?_
        refine lv_if_eq (x := bI (tightB ro E F T L Z i)) (tgt := 23) hx hb dX0_tightRopes_17 (by decide) (fun c_2 => ?_) (fun c_2 => ?_)
        · have c_2 := bI_0 c_2
          refine lv_iinc (v := nI (i + 1)) (lv' := [(2, .int (nI (i + 1))), (1, .int (nI k)), (0, .ref (a 0))]) hx hb dX0_tightRopes_23 hl (k := 0) rfl (x_inc _) (by decide) rfl (fun ls hl => ?_)
          refine lv_goto (tgt := 4) hx hb dX0_tightRopes_26 (by decide) ?_
          exact ih_4 n49 (by omega) (i + 1) k (by omega) (by rw [← hfin_4]; simp [countF, c_1, c_2]) _ (lv_sub hl [0, 1, 2] rfl)
        · have c_2 := bI_n0 c_2
          refine lv_iinc (v := nI (k + 1)) (lv' := [(1, .int (nI (k + 1))), (2, .int (nI i)), (0, .ref (a 0))]) hx hb dX0_tightRopes_20 hl (k := 1) rfl (x_inc _) (by decide) rfl (fun ls hl => ?_)
          refine lv_iinc (v := nI (i + 1)) (lv' := [(2, .int (nI (i + 1))), (1, .int (nI (k + 1))), (0, .ref (a 0))]) hx hb dX0_tightRopes_23 hl (k := 1) rfl (x_inc _) (by decide) rfl (fun ls hl => ?_)
          refine lv_goto (tgt := 4) hx hb dX0_tightRopes_26 (by decide) ?_
          exact ih_4 n49 (by omega) (i + 1) (k + 1) (by omega) (by rw [← hfin_4]; simp [countF, c_1, c_2]) _ (lv_sub hl [0, 1, 2] rfl)
  exact lp_4 rc 0 0 (by omega) rfl _ (lv_sub hl [0, 1, 2] rfl)
set_option maxHeartbeats 4000000 in
set_option maxRecDepth 100000 in
theorem c_X0_leastLength (l : Launch) (D : va_G) (t : Nat → ClassId) (a : Nat → Nat) (tc rc : Nat) (ro : Int32) (B : Nat → Int32) (i j : Nat) (hi : i < 12) (hj : j < 12) : Met l yX0_leastLength wsX0_leastLength ({ frames := 1, cells := 0, slots := 0, locals := 22 }) (xRo D (xTy t) [.ref (a 0), .int (nI i), .int (nI j)] [xObj a tc rc ro, xArr (t 0) (a 6) 144 B]) (xQr (.int (leastF B i j))) 0 0 (fun _ => False) := by
  refine Met.ofW (cc := cX0_leastLength) (maxL := 4) (ret := (some .int)) (by decide) rfl ?_
  intro p e s m args below meth c s₁ hB9 hml hv
  obtain ⟨rfl, hP, hK⟩ := hv
  have hx := hB9.exec
  have hb := hB9.bytes
  have hr := hB9.returns
  have hts := atoms_spec (ws := wsX0_leastLength) hB9.pre
  have hown : s.vm.findClass RX0 = some m.cls := findClass_of_methodNamed hB9.named
  have hlocks := hB9.notSynchronized
  have hin : ∀ w ∈ wsX00, w ∈ wsX0_leastLength := fun _ h => List.mem_cons_of_mem _ (List.mem_append_right _ h)
  have kc_121 := hts (.constant RX0 121 (99999)) (by decide +kernel)
  have ml_180 := hts (.methodLink RX0 180 Lib.Math.max.name) (by decide +kernel)
  have ms_max := hts (.static Lib.Math.max.name) (by decide +kernel)
  have mc_max := hts (.code Lib.Math.max.name Lib.Math.max.code 2 (some .int)) (by decide +kernel)
  have mi_Math := hts (.initialized "java/lang/Math") (by decide +kernel)
  have hl := lv_entry ([.ref (a 0), .int (nI i), .int (nI j)]) (n := 4) (Nat.le_of_ble_eq_true rfl)
  rw [lg_entry_eq]
  generalize (lg_sl ([.ref (a 0), .int (nI i), .int (nI j)]) ++ List.replicate (4 - (lg_sl ([.ref (a 0), .int (nI i), .int (nI j)])).length) Slot.unset).toArray = ls at hl ⊢
  have hl : lv_has ls 4 [(0, .ref (a 0)), (1, .int (nI i)), (2, .int (nI j))] := hl
  refine lv_aload_n hx hb dX0_leastLength_0 rfl (lv_at hl 0 rfl) ?_
  refine lv_iload_n hx hb dX0_leastLength_1 rfl (lv_at hl 2 rfl) ?_
  refine lv_iload_n hx hb dX0_leastLength_2 rfl (lv_at hl 1 rfl) ?_
  refine xr_V (b := a 0) (As := [.int (nI j), .int (nI i)]) (rest := []) ⟨hx, hb, hml, hown, hts⟩ (c_X0_boundFrom l D t a tc rc ro B j i (by omega) (by omega)) (cwV 2 hts gX0_leastLength_X0_boundFrom rfl rfl rfl hd_X0_boundFrom ⟨Nat.le_of_ble_eq_true rfl, Nat.le_of_ble_eq_true rfl⟩) hK hP (va_recv hK hP (ci := 0) (q0 := 0) rfl rfl) [0, 1] rfl rfl hl.1 rfl (Nat.le_of_ble_eq_true rfl) dX0_leastLength_3 ⟨(Nat.le_of_ble_eq_true rfl), (Nat.le_of_ble_eq_true rfl)⟩ ?_
  refine lv_istore_n (lv' := [(3, .int (B (j * 12 + i))), (0, .ref (a 0)), (1, .int (nI i)), (2, .int (nI j))]) hx hb dX0_leastLength_6 rfl hl (by decide) rfl (fun ls hl => ?_)
  refine lv_iload_n hx hb dX0_leastLength_7 rfl (lv_at hl 0 rfl) ?_
  refine lv_ldc (v := 99999) hx hb hown kc_121 dX0_leastLength_8 ?_
  refine lv_icmp_ne (x := B (j * 12 + i)) (y := 99999) (tgt := 18) hx hb dX0_leastLength_10 (by decide) (fun c_1 => ?_) (fun c_1 => ?_)
  · refine lv_bipush (v := (-99)) hx hb dX0_leastLength_18 (by decide) ?_
    refine lv_iload_n hx hb dX0_leastLength_20 rfl (lv_at hl 0 rfl) ?_
    refine lv_ineg hx hb dX0_leastLength_21 ?_
    refine va_mmax (x := (-99)) (y := -(B (j * 12 + i))) hx hb (hml.trans hl.1.symm) hown ml_180 ms_max mi_Math mc_max (Nat.le_of_ble_eq_true rfl) (Nat.le_of_ble_eq_true rfl) (Nat.le_of_ble_eq_true rfl) (Nat.le_of_ble_eq_true rfl) dX0_leastLength_22 ?_
    refine x_top (w := mxI (-99) (-(B (j * 12 + i)))) rfl ?_
    exact x_iret (v := mxI (-99) (-(B (j * 12 + i)))) hx hb hr hlocks (by simp [leastF, c_1]) dX0_leastLength_25
  · refine lv_bipush (v := (-99)) hx hb dX0_leastLength_13 (by decide) ?_
    refine lv_goto (tgt := 25) hx hb dX0_leastLength_15 (by decide) ?_
    exact x_iret (v := (-99)) hx hb hr hlocks (by simp [leastF, c_1]) dX0_leastLength_25
