theorem hd_L_below : yL_below.cls ≠ "java/lang/invoke/MethodHandle" ∧ yL_below.cls ≠ "java/lang/invoke/VarHandle" ∧ (parseMethodDescriptor yL_below.desc).map (fun d => d.parameters.length) = some 2 := by decide +kernel
theorem hd_L_cell : yL_cell.cls ≠ "java/lang/invoke/MethodHandle" ∧ yL_cell.cls ≠ "java/lang/invoke/VarHandle" ∧ (parseMethodDescriptor yL_cell.desc).map (fun d => d.parameters.length) = some 2 := by decide +kernel
theorem hd_L_act : yL_act.cls ≠ "java/lang/invoke/MethodHandle" ∧ yL_act.cls ≠ "java/lang/invoke/VarHandle" ∧ (parseMethodDescriptor yL_act.desc).map (fun d => d.parameters.length) = some 3 := by decide +kernel
theorem hd_L_build : yL_build.cls ≠ "java/lang/invoke/MethodHandle" ∧ yL_build.cls ≠ "java/lang/invoke/VarHandle" ∧ (parseMethodDescriptor yL_build.desc).map (fun d => d.parameters.length) = some 2 := by decide +kernel
theorem hd_X1_isSame : yX1_isSame.cls = RX1 ∧ yX1_isSame.cls ≠ "java/lang/invoke/MethodHandle" ∧ yX1_isSame.cls ≠ "java/lang/invoke/VarHandle" ∧ (parseMethodDescriptor yX1_isSame.desc).map (fun d => d.parameters.length) = some 1 := by decide +kernel
set_option maxHeartbeats 4000000 in
set_option maxRecDepth 100000 in
theorem c_L_below (l : Launch) (D : va_G) (t : Nat → ClassId) (v : Int32) (n : Nat) (hn0 : 0 < n) (hn1 : n < 2147483648) : Met l yL_below wsL_below ({ frames := 0, cells := 0, slots := 0, locals := 0 }) (xRo D (xTy t) [.int v, .int (nI n)] []) (xQr (.int (nI (blw v n)))) 0 0 (fun _ => False) := by
  refine Met.ofW (cc := cL_below) (maxL := 2) (ret := (some .int)) (by decide) rfl ?_
  intro p e s m args below meth c s₁ hB9 hml hv
  obtain ⟨rfl, hP, hK⟩ := hv
  have hx := hB9.exec
  have hb := hB9.bytes
  have hr := hB9.returns
  have hts := atoms_spec (ws := wsL_below) hB9.pre
  have hown : s.vm.findClass RL = some m.cls := findClass_of_methodNamed hB9.named
  have hlocks := hB9.notSynchronized
  have kc_7 := hts (.constant RL 7 (2147483647)) (by decide +kernel)
  have hl := lv_entry ([.int v, .int (nI n)]) (n := 2) (Nat.le_of_ble_eq_true rfl)
  rw [lg_entry_eq]
  generalize (lg_sl ([.int v, .int (nI n)]) ++ List.replicate (2 - (lg_sl ([.int v, .int (nI n)])).length) Slot.unset).toArray = ls at hl ⊢
  have hl : lv_has ls 2 [(0, .int v), (1, .int (nI n))] := hl
  refine lv_iload_n hx hb dL_below_0 rfl (lv_at hl 0 rfl) ?_
  refine lv_ldc (v := 2147483647) hx hb hown kc_7 dL_below_1 ?_
  refine lv_iand (x := v) (y := 2147483647) hx hb dL_below_3 ?_
  refine lv_iload_n hx hb dL_below_4 rfl (lv_at hl 1 rfl) ?_
  refine lv_irem (x := v &&& 2147483647) (y := nI n) hx hb dL_below_5 (nI_ne0 (by omega) (by omega)) ?_
  exact x_iret (v := (v &&& 2147483647) - (v &&& 2147483647) / (nI n) * (nI n)) hx hb hr hlocks (blw_eq v hn0 hn1) dL_below_6
set_option maxHeartbeats 4000000 in
set_option maxRecDepth 100000 in
theorem c_L_cell (l : Launch) (D : va_G) (t : Nat → ClassId) (N0 : Nat) (sa : Nat → Nat) (bs Ls : Nat) (xs : Nat → Int32) (k : Nat) (sz : Nat) (hk9 : k < 1000) (hN0 : N0 ≤ sz) : Met l yL_cell wsL_cell ({ frames := 0, cells := 0, slots := 0, locals := 0 }) (xMu D (xTy t) (xLw N0 sa bs Ls xs) [.ref bs, .int (nI k)] [] sz) (xQm D (fun u : Int32 => True) (fun u : Int32 => some (.int u)) [] (fun u : Int32 => []) sz) 0 0 (va_A [] sz) := by
  refine Met.ofW (cc := cL_cell) (maxL := 2) (ret := (some .int)) (by decide) rfl ?_
  intro p e s m args below meth c s₁ hB9 hml hv
  obtain ⟨rfl, hsz, hP, hK, hD0, hXX⟩ := hv
  have hx := hB9.exec
  have hb := hB9.bytes
  have hr := hB9.returns
  have hts := atoms_spec (ws := wsL_cell) hB9.pre
  have hown : s.vm.findClass RL = some m.cls := findClass_of_methodNamed hB9.named
  have hlocks := hB9.notSynchronized
  have kc_8 := hts (.constant RL 8 (790386105)) (by decide +kernel)
  subst hsz
  have hD := hD0.self (sz := s.heap.size)
  generalize hAe : va_A ([]) s.heap.size = A at hD ⊢
  have hA : ∀ q : Nat, s.heap.size ≤ q → A q := fun q h => by rw [← hAe]; exact Or.inr h
  have hS : va_S A s.heap s.heap [] := va_S.rf
  have hP : va_P D vwCl ([]) s.heap := hP
  have hD : va_D A ([]) := hD
  have hl := lv_entry ([.ref bs, .int (nI k)]) (n := 2) (Nat.le_of_ble_eq_true rfl)
  rw [lg_entry_eq]
  generalize (lg_sl ([.ref bs, .int (nI k)]) ++ List.replicate (2 - (lg_sl ([.ref bs, .int (nI k)])).length) Slot.unset).toArray = ls at hl ⊢
  have hl : lv_has ls 2 [(0, .ref bs), (1, .int (nI k))] := hl
  have hLs : Ls ≤ 260 := hXX.2.2.2.2.2.2
  have hXA : xAo s := hXX.2.1
  have hAN : ∀ q, A q → N0 ≤ q := by rw [← hAe]; exact fun q h => h.elim (fun ⟨k, e, h⟩ => by simp at h) (fun h => Nat.le_trans hN0 h)
  refine lv_iload_n hx hb dL_cell_0 rfl (lv_at hl 1 rfl) ?_
  refine lv_aload_n hx hb dL_cell_1 rfl (lv_at hl 0 rfl) ?_
  refine va_slen hx hb hXX.2.2.2.1 hXX.2.2.2.2.2.1 (fun z9 => absurd (hAN bs z9) (Nat.not_le.mpr hXX.2.2.2.2.1)) hS dL_cell_2 ?_
  refine x_top (w := nI Ls) rfl ?_
  refine lv_icmp_ge (x := nI k) (y := nI Ls) (tgt := 12) hx hb dL_cell_3 (by decide) (fun c_1 => ?_) (fun c_1 => ?_)
  · have c_1 := (nI_leI (a := Ls) (b := k) (by omega) (by omega)).mp c_1
    refine lv_ldc (v := 790386105) hx hb hown kc_8 dL_cell_12 ?_
    refine lv_iload_n hx hb dL_cell_14 rfl (lv_at hl 1 rfl) ?_
    refine lv_iconst (v := 3) hx hb dL_cell_15 (by decide) ?_
    refine lv_iadd (x := nI k) (y := 3) hx hb dL_cell_16 ?_
    refine x_top (w := nI (k + 3)) (nI_add k 3) ?_
    refine lv_imul (x := 790386105) (y := nI (k + 3)) hx hb dL_cell_17 ?_
    refine x_top (w := nI (790386105 * (k + 3))) (pk_mul 790386105 (k + 3)) ?_
    subst hAe
    obtain ⟨hq9, hf9⟩ := xm_end (S := Int32) (pu := (fun u : Int32 => True)) (r := (fun u : Int32 => some (.int u))) (wc := []) (w1 := (fun u : Int32 => [])) (o := some (.int (nI (790386105 * (k + 3))))) (args := ([.ref bs, .int (nI k)] : List Value).toArray) (nI (790386105 * (k + 3))) rfl trivial rfl hP hD hS
    exact W.iret hx hb hr hq9 hf9 dL_cell_18 hlocks
  · have c_1 : k < Ls := Nat.lt_of_not_le (fun z9 => c_1 ((nI_leI (a := Ls) (b := k) (by omega) (by omega)).mpr z9))
    refine lv_aload_n hx hb dL_cell_6 rfl (lv_at hl 0 rfl) ?_
    refine lv_iload_n hx hb dL_cell_7 rfl (lv_at hl 1 rfl) ?_
    refine va_sld hx hb hXX.2.2.2.1 hXX.2.2.2.2.2.1 (fun z9 => absurd (hAN bs z9) (Nat.not_le.mpr hXX.2.2.2.2.1)) hS (vp_in_nI (show k < Ls by omega) (by omega)) dL_cell_8 ?_
    refine lv_goto (tgt := 18) hx hb dL_cell_9 (by decide) ?_
    subst hAe
    obtain ⟨hq9, hf9⟩ := xm_end (S := Int32) (pu := (fun u : Int32 => True)) (r := (fun u : Int32 => some (.int u))) (wc := []) (w1 := (fun u : Int32 => [])) (o := some (.int (xs (nI k).toNatClampNeg))) (args := ([.ref bs, .int (nI k)] : List Value).toArray) (xs (nI k).toNatClampNeg) rfl trivial rfl hP hD hS
    exact W.iret hx hb hr hq9 hf9 dL_cell_18 hlocks
