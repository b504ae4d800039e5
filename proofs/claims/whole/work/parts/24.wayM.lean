theorem hd_X1_earliest : yX1_earliest.cls = RX1 ∧ yX1_earliest.cls ≠ "java/lang/invoke/MethodHandle" ∧ yX1_earliest.cls ≠ "java/lang/invoke/VarHandle" ∧ (parseMethodDescriptor yX1_earliest.desc).map (fun d => d.parameters.length) = some 0 := by decide +kernel
theorem hd_X1_isHeld : yX1_isHeld.cls = RX1 ∧ yX1_isHeld.cls ≠ "java/lang/invoke/MethodHandle" ∧ yX1_isHeld.cls ≠ "java/lang/invoke/VarHandle" ∧ (parseMethodDescriptor yX1_isHeld.desc).map (fun d => d.parameters.length) = some 0 := by decide +kernel
theorem hd_X1_ways : yX1_ways.cls = RX1 ∧ yX1_ways.cls ≠ "java/lang/invoke/MethodHandle" ∧ yX1_ways.cls ≠ "java/lang/invoke/VarHandle" ∧ (parseMethodDescriptor yX1_ways.desc).map (fun d => d.parameters.length) = some 0 := by decide +kernel
theorem hd_X1_shortest : yX1_shortest.cls = RX1 ∧ yX1_shortest.cls ≠ "java/lang/invoke/MethodHandle" ∧ yX1_shortest.cls ≠ "java/lang/invoke/VarHandle" ∧ (parseMethodDescriptor yX1_shortest.desc).map (fun d => d.parameters.length) = some 1 := by decide +kernel
theorem hd_X1_ring : yX1_ring.cls = RX1 ∧ yX1_ring.cls ≠ "java/lang/invoke/MethodHandle" ∧ yX1_ring.cls ≠ "java/lang/invoke/VarHandle" ∧ (parseMethodDescriptor yX1_ring.desc).map (fun d => d.parameters.length) = some 0 := by decide +kernel
theorem hd_X1_told : yX1_told.cls = RX1 ∧ yX1_told.cls ≠ "java/lang/invoke/MethodHandle" ∧ yX1_told.cls ≠ "java/lang/invoke/VarHandle" ∧ (parseMethodDescriptor yX1_told.desc).map (fun d => d.parameters.length) = some 2 := by decide +kernel
theorem hd_X1_about : yX1_about.cls = RX1 ∧ yX1_about.cls ≠ "java/lang/invoke/MethodHandle" ∧ yX1_about.cls ≠ "java/lang/invoke/VarHandle" ∧ (parseMethodDescriptor yX1_about.desc).map (fun d => d.parameters.length) = some 2 := by decide +kernel
theorem hd_X1_count : yX1_count.cls = RX1 ∧ yX1_count.cls ≠ "java/lang/invoke/MethodHandle" ∧ yX1_count.cls ≠ "java/lang/invoke/VarHandle" ∧ (parseMethodDescriptor yX1_count.desc).map (fun d => d.parameters.length) = some 1 := by decide +kernel
theorem hd_X1_most : yX1_most.cls = RX1 ∧ yX1_most.cls ≠ "java/lang/invoke/MethodHandle" ∧ yX1_most.cls ≠ "java/lang/invoke/VarHandle" ∧ (parseMethodDescriptor yX1_most.desc).map (fun d => d.parameters.length) = some 2 := by decide +kernel
theorem hd_X1_room : yX1_room.cls = RX1 ∧ yX1_room.cls ≠ "java/lang/invoke/MethodHandle" ∧ yX1_room.cls ≠ "java/lang/invoke/VarHandle" ∧ (parseMethodDescriptor yX1_room.desc).map (fun d => d.parameters.length) = some 1 := by decide +kernel
theorem hd_X1_counted : yX1_counted.cls = RX1 ∧ yX1_counted.cls ≠ "java/lang/invoke/MethodHandle" ∧ yX1_counted.cls ≠ "java/lang/invoke/VarHandle" ∧ (parseMethodDescriptor yX1_counted.desc).map (fun d => d.parameters.length) = some 2 := by decide +kernel
set_option maxHeartbeats 4000000 in
set_option maxRecDepth 100000 in
theorem c_X1_earliest (l : Launch) (D : va_G) (t : Nat → ClassId) (b : Nat → Nat) (th : Int32) (tc rc : Nat) (F T : Nat → Nat) (L : Nat → Int32) (Z : Nat → Bool) (sz : Nat) (htc : tc ≤ 12) (hrc : rc ≤ 30) (hF : ∀ r, r < rc → F r < tc ∧ T r < tc) : Met l yX1_earliest wsX1_earliest ({ frames := 2, cells := 1, slots := 13, locals := 43 }) (xMu D (xTy t) (va_AOA .int) [.ref (b 0)] [xMod b th tc rc, xArr (t 0) (b 1) 120 (mkM F T L Z)] sz) (xQm D (fun u : Nat => True) (fun u : Nat => some (.ref u)) [xMod b th tc rc, xArr (t 0) (b 1) 120 (mkM F T L Z)] (fun u : Nat => [xMod b th tc rc, xArr (t 0) (b 1) 120 (mkM F T L Z), xArr (t 0) u 13 (earM F T L Z tc rc)]) sz) 1 13 (va_A [xMod b th tc rc, xArr (t 0) (b 1) 120 (mkM F T L Z)] sz) := by
  refine Met.ofW (cc := cX1_earliest) (maxL := 6) (ret := (some (.array .int))) (by decide) rfl ?_
  intro p e s m args below meth c s₁ hB9 hml hv
  obtain ⟨rfl, hsz, hP, hK, hD0, hXX⟩ := hv
  have hx := hB9.exec
  have hb := hB9.bytes
  have hr := hB9.returns
  have hts := atoms_spec (ws := wsX1_earliest) hB9.pre
  have hown : s.vm.findClass RX1 = some m.cls := findClass_of_methodNamed hB9.named
  have hlocks := hB9.notSynchronized
  have hin : ∀ w ∈ wsX10, w ∈ wsX1_earliest := fun _ h => List.mem_cons_of_mem _ (List.mem_append_right _ h)
  have fl_17 := hts (.fieldLink RX1 17 "RopeTimesModel" "turns" "I") (by decide +kernel)
  have fl_24 := hts (.fieldLink RX1 24 "RopeTimesModel" "ropes" "I") (by decide +kernel)
  subst hsz
  have hD := hD0.self (sz := s.heap.size)
  generalize hAe : va_A ([xMod b th tc rc, xArr (t 0) (b 1) 120 (mkM F T L Z)]) s.heap.size = A at hD ⊢
  have hA : ∀ q : Nat, s.heap.size ≤ q → A q := fun q h => by rw [← hAe]; exact Or.inr h
  have hS : va_S A s.heap s.heap [] := va_S.rf
  have hP : va_P D vwCl ([xMod b th tc rc, xArr (t 0) (b 1) 120 (mkM F T L Z)]) s.heap := hP
  have hD : va_D A ([xMod b th tc rc, xArr (t 0) (b 1) 120 (mkM F T L Z)]) := hD
  have hl := lv_entry ([.ref (b 0)]) (n := 6) (Nat.le_of_ble_eq_true rfl)
  rw [lg_entry_eq]
  generalize (lg_sl ([.ref (b 0)]) ++ List.replicate (6 - (lg_sl ([.ref (b 0)])).length) Slot.unset).toArray = ls at hl ⊢
  have hl : lv_has ls 6 [(0, .ref (b 0))] := hl
  refine lv_bipush (v := 13) hx hb dX1_earliest_0 (by decide) ?_
  refine x_newa (atype := .int) (ty := .int) (a0 := (13, .inl (fun _ => 0))) (n := 13) (N' := 13) (cT := t 0) hx hb (hts (.arrayClass .int) (by decide +kernel)) rfl 0 rfl (by intro C h; cases h) hK hP hD hS hA (fun _ => rfl) (by decide) (by decide) (Nat.le_of_ble_eq_true rfl) (Nat.le_of_ble_eq_true rfl) (Nat.le_of_ble_eq_true rfl) dX1_earliest_2 (fun q_1 H hP hD hS => ?_)
  have hP : va_P D vwCl ([xMod b th tc rc, xArr (t 0) (b 1) 120 (mkM F T L Z), xArr (t 0) q_1 13 (fun _ => 0)]) H := hP
  have hD : va_D _ ([xMod b th tc rc, xArr (t 0) (b 1) 120 (mkM F T L Z), xArr (t 0) q_1 13 (fun _ => 0)]) := hD
  refine lv_astore_n (lv' := [(1, .ref q_1), (0, .ref (b 0))]) hx hb dX1_earliest_4 rfl hl (by decide) rfl (fun ls hl => ?_)
  refine lv_aload_n hx hb dX1_earliest_5 rfl (lv_at hl 0 rfl) ?_
  refine lv_bipush (v := 12) hx hb dX1_earliest_6 (by decide) ?_
  refine lv_iconst (v := (-1)) hx hb dX1_earliest_8 (by decide) ?_
  refine x_iast (x := (-1)) (f := (fun _ => 0)) hx hb hK hP hD hS 2 0 ([xMod b th tc rc, xArr (t 0) (b 1) 120 (mkM F T L Z), xArr (t 0) q_1 13 (upd (fun _ => 0) 12 (-1))]) rfl rfl (k := 12) rfl (Nat.le_of_ble_eq_true rfl) (Nat.le_of_ble_eq_true rfl) dX1_earliest_9 (fun H locs hP hD hS => ?_)
  refine lv_iconst (v := 0) hx hb dX1_earliest_10 (by decide) ?_
  refine lv_istore_n (lv' := [(2, .int 0), (1, .ref q_1), (0, .ref (b 0))]) hx hb dX1_earliest_11 rfl hl (by decide) rfl (fun ls hl => ?_)
  have lp_12 : ∀ (n12 : Nat) (k : Nat) (E1 : Nat → Int32), k + n12 = tc + 1 → rndM F T L Z rc n12 k E1 = rndM F T L Z rc (tc + 1) 0 (upd (fun _ => 0) 12 (-1)) → ∀ (H : Heap) (locs : List Loc), va_P D vwCl ([xMod b th tc rc, xArr (t 0) (b 1) 120 (mkM F T L Z), xArr (t 0) q_1 13 E1]) H → va_D A ([xMod b th tc rc, xArr (t 0) (b 1) 120 (mkM F T L Z), xArr (t 0) q_1 13 E1]) → va_S A s.heap H locs → ∀ ls : Array Slot, lv_has ls 6 [(2, .int (nI k)), (1, .ref q_1), (0, .ref (b 0))] → W p l e (headSpec wsX1_earliest ({ frames := 2, cells := 1, slots := 13, locals := 43 } : Jvm.Room)).room s m (([.ref (b 0)] : List Value).toArray) below meth c H locs 1 13 (MQ below (xQm D (fun u : Nat => True) (fun u : Nat => some (.ref u)) [xMod b th tc rc, xArr (t 0) (b 1) 120 (mkM F T L Z)] (fun u : Nat => [xMod b th tc rc, xArr (t 0) (b 1) 120 (mkM F T L Z), xArr (t 0) u 13 (earM F T L Z tc rc)]) s.heap.size) (([.ref (b 0)] : List Value).toArray) s 1 13 A) (F0 m 12 ls []) := by
    intro n12
    induction n12 using Nat.strongRecOn with
    | _ n12 ih_12 =>
      intro k E1 hm_12 hfin_12 H locs hP hD hS ls hl
      refine lv_iload_n hx hb dX1_earliest_12 rfl (lv_at hl 0 rfl) ?_
      refine lv_aload_n hx hb dX1_earliest_13 rfl (lv_at hl 2 rfl) ?_
      refine x1_get (v := .int (nI tc)) hx hb hts hin hown hK hP 0 rfl 1 (by decide) fl_17 rfl dX1_earliest_14 rfl ?_
      refine lv_icmp_gt (x := nI k) (y := nI tc) (tgt := 120) hx hb dX1_earliest_17 (by decide) (fun c_2 => ?_) (fun c_2 => ?_)
      · have c_2 := (nI_ltI (a := tc) (b := k) (by omega) (by omega)).mp c_2
        have hn0_12 : n12 = 0 := by omega
        subst hn0_12
        obtain rfl : E1 = rndM F T L Z rc (tc + 1) 0 (upd (fun _ => 0) 12 (-1)) := hfin_12
        refine lv_aload_n hx hb dX1_earliest_120 rfl (lv_at hl 1 rfl) ?_
        subst hAe
        obtain ⟨hq9, hf9⟩ := xm_end (S := Nat) (pu := (fun u : Nat => True)) (r := (fun u : Nat => some (.ref u))) (wc := [xMod b th tc rc, xArr (t 0) (b 1) 120 (mkM F T L Z)]) (w1 := (fun u : Nat => [xMod b th tc rc, xArr (t 0) (b 1) 120 (mkM F T L Z), xArr (t 0) u 13 (earM F T L Z tc rc)])) (o := some (.ref q_1)) (args := ([.ref (b 0)] : List Value).toArray) q_1 rfl trivial rfl hP hD hS
        exact W.aret hx hb hr (Or.inr ⟨_, rfl⟩) (Or.inr ⟨_, rfl⟩) hq9 hf9 dX1_earliest_121 hlocks
      · have c_2 : k ≤ tc := Nat.le_of_not_lt (fun z9 => c_2 ((nI_ltI (a := tc) (b := k) (by omega) (by omega)).mpr z9))
        obtain ⟨n129, rfl⟩ : ∃ z, n12 = z + 1 := ⟨n12 - 1, by omega⟩
        refine lv_iconst (v := 0) hx hb dX1_earliest_20 (by decide) ?_
        refine lv_istore_n (lv' := [(3, .int 0), (2, .int (nI k)), (1, .ref q_1), (0, .ref (b 0))]) hx hb dX1_earliest_21 rfl hl (by decide) rfl (fun ls hl => ?_)
        refine lv_iconst (v := 0) hx hb dX1_earliest_22 (by decide) ?_
        refine lv_istore (lv' := [(4, .int 0), (3, .int 0), (2, .int (nI k)), (1, .ref q_1), (0, .ref (b 0))]) hx hb dX1_earliest_23 hl (by decide) rfl (fun ls hl => ?_)
        have lp_25 : ∀ (n25 : Nat) (r : Nat) (E2 : Nat → Int32) (ch : Bool), r + n25 = rc → passF F T L Z n25 r E2 ch = passF F T L Z rc 0 E1 false → ∀ (H : Heap) (locs : List Loc), va_P D vwCl ([xMod b th tc rc, xArr (t 0) (b 1) 120 (mkM F T L Z), xArr (t 0) q_1 13 E2]) H → va_D A ([xMod b th tc rc, xArr (t 0) (b 1) 120 (mkM F T L Z), xArr (t 0) q_1 13 E2]) → va_S A s.heap H locs → ∀ ls : Array Slot, lv_has ls 6 [(4, .int (nI r)), (3, .int (bI ch)), (2, .int (nI k)), (1, .ref q_1), (0, .ref (b 0))] → W p l e (headSpec wsX1_earliest ({ frames := 2, cells := 1, slots := 13, locals := 43 } : Jvm.Room)).room s m (([.ref (b 0)] : List Value).toArray) below meth c H locs 1 13 (MQ below (xQm D (fun u : Nat => True) (fun u : Nat => some (.ref u)) [xMod b th tc rc, xArr (t 0) (b 1) 120 (mkM F T L Z)] (fun u : Nat => [xMod b th tc rc, xArr (t 0) (b 1) 120 (mkM F T L Z), xArr (t 0) u 13 (earM F T L Z tc rc)]) s.heap.size) (([.ref (b 0)] : List Value).toArray) s 1 13 A) (F0 m 25 ls []) := by
          intro n25
          induction n25 using Nat.strongRecOn with
          | _ n25 ih_25 =>
            intro r E2 ch hm_25 hfin_25 H locs hP hD hS ls hl
            refine lv_iload hx hb dX1_earliest_25 (lv_at hl 0 rfl) ?_
            refine lv_aload_n hx hb dX1_earliest_27 rfl (lv_at hl 4 rfl) ?_
            refine x1_get (v := .int (nI rc)) hx hb hts hin hown hK hP 0 rfl 2 (by decide) fl_24 rfl dX1_earliest_28 rfl ?_
            refine lv_icmp_ge (x := nI r) (y := nI rc) (tgt := 98) hx hb dX1_earliest_31 (by decide) (fun c_3 => ?_) (fun c_3 => ?_)
            · have c_3 := (nI_leI (a := rc) (b := r) (by omega) (by omega)).mp c_3
              have hn0_25 : n25 = 0 := by omega
              subst hn0_25
              obtain rfl : E2 = (passF F T L Z rc 0 E1 false).1 := congrArg (fun z => z.1) hfin_25
              obtain rfl : ch = (passF F T L Z rc 0 E1 false).2 := congrArg (fun z => z.2) hfin_25
              refine lv_iload_n hx hb dX1_earliest_98 rfl (lv_at hl 1 rfl) ?_
              refine lv_if_eq (x := bI ((passF F T L Z rc 0 E1 false).2)) (tgt := 105) hx hb dX1_earliest_99 (by decide) (fun c_4 => ?_) (fun c_4 => ?_)
              · have c_4 := bI_0 c_4
                refine lv_aload_n hx hb dX1_earliest_105 rfl (lv_at hl 3 rfl) ?_
                refine lv_bipush (v := 12) hx hb dX1_earliest_106 (by decide) ?_
                refine lv_iload_n hx hb dX1_earliest_108 rfl (lv_at hl 2 rfl) ?_
                refine lv_iconst (v := 1) hx hb dX1_earliest_109 (by decide) ?_
                refine lv_iadd (x := nI k) (y := 1) hx hb dX1_earliest_110 ?_
                refine x_top (w := nI (k + 1)) (nI_add k 1) ?_
                refine x_iast (x := nI (k + 1)) (f := (passF F T L Z rc 0 E1 false).1) hx hb hK hP hD hS 2 0 ([xMod b th tc rc, xArr (t 0) (b 1) 120 (mkM F T L Z), xArr (t 0) q_1 13 (upd ((passF F T L Z rc 0 E1 false).1) 12 (nI (k + 1)))]) rfl rfl (k := 12) rfl (Nat.le_of_ble_eq_true rfl) (Nat.le_of_ble_eq_true rfl) dX1_earliest_111 (fun H locs hP hD hS => ?_)
                refine lv_aload_n hx hb dX1_earliest_112 rfl (lv_at hl 3 rfl) ?_
                have e9 : upd ((passF F T L Z rc 0 E1 false).1) 12 (nI (k + 1)) = earM F T L Z tc rc := by unfold earM; rw [← hfin_12]; simp [rndM, c_2, Nat.not_lt.mpr c_2, c_3, Nat.not_lt.mpr c_3, c_4]
                have hP9 : va_P D vwCl ([xMod b th tc rc, xArr (t 0) (b 1) 120 (mkM F T L Z), xArr (t 0) q_1 13 (earM F T L Z tc rc)]) H := by rw [← e9]; exact hP
                have hD9 : va_D A ([xMod b th tc rc, xArr (t 0) (b 1) 120 (mkM F T L Z), xArr (t 0) q_1 13 (earM F T L Z tc rc)]) := by rw [← e9]; exact hD
                subst hAe
                obtain ⟨hq9, hf9⟩ := xm_end (S := Nat) (pu := (fun u : Nat => True)) (r := (fun u : Nat => some (.ref u))) (wc := [xMod b th tc rc, xArr (t 0) (b 1) 120 (mkM F T L Z)]) (w1 := (fun u : Nat => [xMod b th tc rc, xArr (t 0) (b 1) 120 (mkM F T L Z), xArr (t 0) u 13 (earM F T L Z tc rc)])) (o := some (.ref q_1)) (args := ([.ref (b 0)] : List Value).toArray) q_1 rfl trivial rfl hP9 hD9 hS
                exact W.aret hx hb hr (Or.inr ⟨_, rfl⟩) (Or.inr ⟨_, rfl⟩) hq9 hf9 dX1_earliest_113 hlocks
              · have c_4 := bI_n0 c_4
                refine lv_goto (tgt := 114) hx hb dX1_earliest_102 (by decide) ?_
                refine lv_iinc (v := nI (k + 1)) (lv' := [(2, .int (nI (k + 1))), (4, .int (nI r)), (3, .int (bI ((passF F T L Z rc 0 E1 false).2))), (1, .ref q_1), (0, .ref (b 0))]) hx hb dX1_earliest_114 hl (k := 2) rfl (x_inc _) (by decide) rfl (fun ls hl => ?_)
                refine lv_goto (tgt := 12) hx hb dX1_earliest_117 (by decide) ?_
                exact ih_12 n129 (by omega) (k + 1) ((passF F T L Z rc 0 E1 false).1) (by omega) (by rw [← hfin_12]; simp [rndM, c_2, Nat.not_lt.mpr c_2, c_3, Nat.not_lt.mpr c_3, c_4]) _ _ hP hD hS _ (lv_sub hl [0, 3, 4] rfl)
            · have c_3 : r < rc := Nat.lt_of_not_le (fun z9 => c_3 ((nI_leI (a := rc) (b := r) (by omega) (by omega)).mpr z9))
              obtain ⟨n259, rfl⟩ : ∃ z, n25 = z + 1 := ⟨n25 - 1, by omega⟩
              refine lv_aload_n hx hb dX1_earliest_34 rfl (lv_at hl 3 rfl) ?_
              refine lv_aload_n hx hb dX1_earliest_35 rfl (lv_at hl 4 rfl) ?_
              refine lv_iload hx hb dX1_earliest_36 (lv_at hl 0 rfl) ?_
              refine lv_iconst (v := 1) hx hb dX1_earliest_38 (by decide) ?_
              refine xr_V (b := b 0) (As := [.int (nI r), .int 1]) (rest := [.ref q_1]) ⟨hx, hb, hml, hown, hts⟩ (c_X1_ro l D t b th tc rc F T L Z r 1 (by omega) (Nat.le_of_ble_eq_true rfl)) (cwV 2 hts gX1_earliest_X1_ro rfl rfl rfl hd_X1_ro ⟨Nat.le_of_ble_eq_true rfl, Nat.le_of_ble_eq_true rfl⟩) hK hP (va_recv hK hP (ci := 1) (q0 := 0) rfl rfl) [0, 1] rfl rfl hl.1 rfl (Nat.le_of_ble_eq_true rfl) dX1_earliest_39 ⟨(Nat.le_of_ble_eq_true rfl), (Nat.le_of_ble_eq_true rfl)⟩ ?_
              refine x_top (w := nI (T r)) (mkM_1 _ _ _ _ r) ?_
              have := hF r (by omega)
              refine x_iald (f := E2) hx hb hK hP 2 0 rfl rfl (k := T r) (by omega) (Nat.le_of_ble_eq_true rfl) dX1_earliest_42 ?_
              refine lv_aload_n hx hb dX1_earliest_43 rfl (lv_at hl 4 rfl) ?_
              refine lv_iload hx hb dX1_earliest_44 (lv_at hl 0 rfl) ?_
              refine lv_iconst (v := 2) hx hb dX1_earliest_46 (by decide) ?_
              refine xr_V (b := b 0) (As := [.int (nI r), .int 2]) (rest := [.int (E2 (T r))]) ⟨hx, hb, hml, hown, hts⟩ (c_X1_ro l D t b th tc rc F T L Z r 2 (by omega) (Nat.le_of_ble_eq_true rfl)) (cwV 2 hts gX1_earliest_X1_ro rfl rfl rfl hd_X1_ro ⟨Nat.le_of_ble_eq_true rfl, Nat.le_of_ble_eq_true rfl⟩) hK hP (va_recv hK hP (ci := 1) (q0 := 0) rfl rfl) [0, 1] rfl rfl hl.1 rfl (Nat.le_of_ble_eq_true rfl) dX1_earliest_47 ⟨(Nat.le_of_ble_eq_true rfl), (Nat.le_of_ble_eq_true rfl)⟩ ?_
              refine x_top (w := L r) (mkM_2 _ _ _ _ r) ?_
              refine lv_isub (x := E2 (T r)) (y := L r) hx hb dX1_earliest_50 ?_
              refine lv_istore (lv' := [(5, .int ((E2 (T r)) - (L r))), (4, .int (nI r)), (3, .int (bI ch)), (2, .int (nI k)), (1, .ref q_1), (0, .ref (b 0))]) hx hb dX1_earliest_51 hl (by decide) rfl (fun ls hl => ?_)
              refine lv_aload_n hx hb dX1_earliest_53 rfl (lv_at hl 5 rfl) ?_
              refine lv_iload hx hb dX1_earliest_54 (lv_at hl 1 rfl) ?_
              refine xr_V (b := b 0) (As := [.int (nI r)]) (rest := []) ⟨hx, hb, hml, hown, hts⟩ (c_X1_isTied l D t b th tc rc F T L Z r (by omega)) (cwV 1 hts gX1_earliest_X1_isTied rfl rfl rfl hd_X1_isTied ⟨Nat.le_of_ble_eq_true rfl, Nat.le_of_ble_eq_true rfl⟩) hK hP (va_recv hK hP (ci := 1) (q0 := 0) rfl rfl) [0, 1] rfl rfl hl.1 rfl (Nat.le_of_ble_eq_true rfl) dX1_earliest_56 ⟨(Nat.le_of_ble_eq_true rfl), (Nat.le_of_ble_eq_true rfl)⟩ ?_
              refine lv_if_eq (x := bI (Z r)) (tgt := 92) hx hb dX1_earliest_59 (by decide) (fun c_5 => ?_) (fun c_5 => ?_)
              · have c_5 := bI_0 c_5
                refine lv_iinc (v := nI (r + 1)) (lv' := [(4, .int (nI (r + 1))), (5, .int ((E2 (T r)) - (L r))), (3, .int (bI ch)), (2, .int (nI k)), (1, .ref q_1), (0, .ref (b 0))]) hx hb dX1_earliest_92 hl (k := 1) rfl (x_inc _) (by decide) rfl (fun ls hl => ?_)
                refine lv_goto (tgt := 25) hx hb dX1_earliest_95 (by decide) ?_
                exact ih_25 n259 (by omega) (r + 1) E2 ch (by omega) (by rw [← hfin_25]; simp [passF, c_2, Nat.not_lt.mpr c_2, c_3, c_5]) _ _ hP hD hS _ (lv_sub hl [0, 2, 3, 4, 5] rfl)
              · have c_5 := bI_n0 c_5
                refine lv_aload_n hx hb dX1_earliest_62 rfl (lv_at hl 4 rfl) ?_
                refine lv_aload_n hx hb dX1_earliest_63 rfl (lv_at hl 5 rfl) ?_
                refine lv_iload hx hb dX1_earliest_64 (lv_at hl 1 rfl) ?_
                refine lv_iconst (v := 0) hx hb dX1_earliest_66 (by decide) ?_
                refine xr_V (b := b 0) (As := [.int (nI r), .int 0]) (rest := [.ref q_1]) ⟨hx, hb, hml, hown, hts⟩ (c_X1_ro l D t b th tc rc F T L Z r 0 (by omega) (Nat.le_of_ble_eq_true rfl)) (cwV 2 hts gX1_earliest_X1_ro rfl rfl rfl hd_X1_ro ⟨Nat.le_of_ble_eq_true rfl, Nat.le_of_ble_eq_true rfl⟩) hK hP (va_recv hK hP (ci := 1) (q0 := 0) rfl rfl) [0, 1] rfl rfl hl.1 rfl (Nat.le_of_ble_eq_true rfl) dX1_earliest_67 ⟨(Nat.le_of_ble_eq_true rfl), (Nat.le_of_ble_eq_true rfl)⟩ ?_
                refine x_top (w := nI (F r)) (mkM_0 _ _ _ _ r) ?_
                have := hF r (by omega)
                refine x_iald (f := E2) hx hb hK hP 2 0 rfl rfl (k := F r) (by omega) (Nat.le_of_ble_eq_true rfl) dX1_earliest_70 ?_
                refine lv_iload hx hb dX1_earliest_71 (lv_at hl 0 rfl) ?_
                refine lv_icmp_lt (x := E2 (F r)) (y := (E2 (T r)) - (L r)) (tgt := 79) hx hb dX1_earliest_73 (by decide) (fun c_6 => ?_) (fun c_6 => ?_)
                · refine lv_aload_n hx hb dX1_earliest_79 rfl (lv_at hl 4 rfl) ?_
                  refine lv_aload_n hx hb dX1_earliest_80 rfl (lv_at hl 5 rfl) ?_
                  refine lv_iload hx hb dX1_earliest_81 (lv_at hl 1 rfl) ?_
                  refine lv_iconst (v := 0) hx hb dX1_earliest_83 (by decide) ?_
                  refine xr_V (b := b 0) (As := [.int (nI r), .int 0]) (rest := [.ref q_1]) ⟨hx, hb, hml, hown, hts⟩ (c_X1_ro l D t b th tc rc F T L Z r 0 (by omega) (Nat.le_of_ble_eq_true rfl)) (cwV 2 hts gX1_earliest_X1_ro rfl rfl rfl hd_X1_ro ⟨Nat.le_of_ble_eq_true rfl, Nat.le_of_ble_eq_true rfl⟩) hK hP (va_recv hK hP (ci := 1) (q0 := 0) rfl rfl) [0, 1] rfl rfl hl.1 rfl (Nat.le_of_ble_eq_true rfl) dX1_earliest_84 ⟨(Nat.le_of_ble_eq_true rfl), (Nat.le_of_ble_eq_true rfl)⟩ ?_
                  refine x_top (w := nI (F r)) (mkM_0 _ _ _ _ r) ?_
                  have := hF r (by omega)
                  refine lv_iload hx hb dX1_earliest_87 (lv_at hl 0 rfl) ?_
                  refine x_iast (x := (E2 (T r)) - (L r)) (f := E2) hx hb hK hP hD hS 2 0 ([xMod b th tc rc, xArr (t 0) (b 1) 120 (mkM F T L Z), xArr (t 0) q_1 13 (upd E2 (F r) ((E2 (T r)) - (L r)))]) rfl rfl (k := F r) rfl (by omega) (Nat.le_of_ble_eq_true rfl) dX1_earliest_89 (fun H locs hP hD hS => ?_)
                  refine lv_iconst (v := 1) hx hb dX1_earliest_90 (by decide) ?_
                  refine lv_istore_n (lv' := [(3, .int 1), (5, .int ((E2 (T r)) - (L r))), (4, .int (nI r)), (2, .int (nI k)), (1, .ref q_1), (0, .ref (b 0))]) hx hb dX1_earliest_91 rfl hl (by decide) rfl (fun ls hl => ?_)
                  refine lv_iinc (v := nI (r + 1)) (lv' := [(4, .int (nI (r + 1))), (3, .int 1), (5, .int ((E2 (T r)) - (L r))), (2, .int (nI k)), (1, .ref q_1), (0, .ref (b 0))]) hx hb dX1_earliest_92 hl (k := 2) rfl (x_inc _) (by decide) rfl (fun ls hl => ?_)
                  refine lv_goto (tgt := 25) hx hb dX1_earliest_95 (by decide) ?_
                  exact ih_25 n259 (by omega) (r + 1) (upd E2 (F r) ((E2 (T r)) - (L r))) true (by omega) (by rw [← hfin_25]; simp [passF, c_2, Nat.not_lt.mpr c_2, c_3, c_5, c_6]) _ _ hP hD hS _ (lv_sub hl [0, 1, 3, 4, 5] rfl)
                · refine lv_goto (tgt := 92) hx hb dX1_earliest_76 (by decide) ?_
                  refine lv_iinc (v := nI (r + 1)) (lv' := [(4, .int (nI (r + 1))), (5, .int ((E2 (T r)) - (L r))), (3, .int (bI ch)), (2, .int (nI k)), (1, .ref q_1), (0, .ref (b 0))]) hx hb dX1_earliest_92 hl (k := 1) rfl (x_inc _) (by decide) rfl (fun ls hl => ?_)
                  refine lv_goto (tgt := 25) hx hb dX1_earliest_95 (by decide) ?_
                  exact ih_25 n259 (by omega) (r + 1) E2 ch (by omega) (by rw [← hfin_25]; simp [passF, c_2, Nat.not_lt.mpr c_2, c_3, c_5, c_6]) _ _ hP hD hS _ (lv_sub hl [0, 2, 3, 4, 5] rfl)
        exact lp_25 rc 0 E1 false (by omega) rfl _ _ hP hD hS _ (lv_sub hl [0, 1, 2, 3, 4] rfl)
  exact lp_12 (tc + 1) 0 (upd (fun _ => 0) 12 (-1)) (by omega) rfl _ _ hP hD hS _ (lv_sub hl [0, 1, 2] rfl)
set_option maxHeartbeats 4000000 in
set_option maxRecDepth 100000 in
theorem c_X1_isHeld (l : Launch) (D : va_G) (t : Nat → ClassId) (b : Nat → Nat) (th : Int32) (tc rc : Nat) (F T : Nat → Nat) (L : Nat → Int32) (Z : Nat → Bool) (sz : Nat) (htc : tc ≤ 12) (hrc : rc ≤ 30) (hF : ∀ r, r < rc → F r < tc ∧ T r < tc) : Met l yX1_isHeld wsX1_isHeld ({ frames := 3, cells := 1, slots := 13, locals := 68 }) (xMu D (xTy t) (va_AOA .int) [.ref (b 0)] [xMod b th tc rc, xArr (t 0) (b 1) 120 (mkM F T L Z)] sz) (xQm D (fun u : Unit => True) (fun u : Unit => some (.int (bI (decide (¬ earM F T L Z tc rc 12 = -1))))) [xMod b th tc rc, xArr (t 0) (b 1) 120 (mkM F T L Z)] (fun u : Unit => [xMod b th tc rc, xArr (t 0) (b 1) 120 (mkM F T L Z)]) sz) 1 13 (va_A [xMod b th tc rc, xArr (t 0) (b 1) 120 (mkM F T L Z)] sz) := by
  refine Met.ofW (cc := cX1_isHeld) (maxL := 1) (ret := (some .boolean)) (by decide) rfl ?_
  intro p e s m args below meth c s₁ hB9 hml hv
  obtain ⟨rfl, hsz, hP, hK, hD0, hXX⟩ := hv
  have hx := hB9.exec
  have hb := hB9.bytes
  have hr := hB9.returns
  have hts := atoms_spec (ws := wsX1_isHeld) hB9.pre
  have hown : s.vm.findClass RX1 = some m.cls := findClass_of_methodNamed hB9.named
  have hlocks := hB9.notSynchronized
  have hin : ∀ w ∈ wsX10, w ∈ wsX1_isHeld := fun _ h => List.mem_cons_of_mem _ (List.mem_append_right _ h)
  subst hsz
  have hD := hD0.self (sz := s.heap.size)
  generalize hAe : va_A ([xMod b th tc rc, xArr (t 0) (b 1) 120 (mkM F T L Z)]) s.heap.size = A at hD ⊢
  have hA : ∀ q : Nat, s.heap.size ≤ q → A q := fun q h => by rw [← hAe]; exact Or.inr h
  have hS : va_S A s.heap s.heap [] := va_S.rf
  have hP : va_P D vwCl ([xMod b th tc rc, xArr (t 0) (b 1) 120 (mkM F T L Z)]) s.heap := hP
  have hD : va_D A ([xMod b th tc rc, xArr (t 0) (b 1) 120 (mkM F T L Z)]) := hD
  have hl := lv_entry ([.ref (b 0)]) (n := 1) (Nat.le_of_ble_eq_true rfl)
  rw [lg_entry_eq]
  generalize (lg_sl ([.ref (b 0)]) ++ List.replicate (1 - (lg_sl ([.ref (b 0)])).length) Slot.unset).toArray = ls at hl ⊢
  have hl : lv_has ls 1 [(0, .ref (b 0))] := hl
  refine lv_aload_n hx hb dX1_isHeld_0 rfl (lv_at hl 0 rfl) ?_
  refine lv_aload_n hx hb dX1_isHeld_1 rfl (lv_at hl 0 rfl) ?_
  refine xm_V (b := b 0) (As := []) (rest := [.ref (b 0)]) (wr := []) ⟨hx, hb, hml, hown, hts⟩ aoT (c_X1_earliest l D t b th tc rc F T L Z _ (by omega) (by omega) hF) (cwV 0 hts gX1_isHeld_X1_earliest rfl rfl rfl hd_X1_earliest ⟨Nat.le_of_ble_eq_true rfl, Nat.le_of_ble_eq_true rfl⟩) hK hP hD hS hA (fun U hW _ => va_AOA.moved hW.alike hXX) (va_recv hK hP (ci := 1) (q0 := 0) rfl rfl) [0, 1] [] rfl rfl (by decide) (by decide) (by decide) rfl hl.1 rfl (Nat.le_of_ble_eq_true rfl) dX1_isHeld_2 ⟨(Nat.le_of_ble_eq_true rfl), (Nat.le_of_ble_eq_true rfl)⟩ (fun u_1 H locs hu hP hD hS hz => ?_)
  have hP : va_P D vwCl ([xMod b th tc rc, xArr (t 0) (b 1) 120 (mkM F T L Z), xArr (t 0) u_1 13 (earM F T L Z tc rc)]) H := hP
  have hD : va_D _ ([xMod b th tc rc, xArr (t 0) (b 1) 120 (mkM F T L Z), xArr (t 0) u_1 13 (earM F T L Z tc rc)]) := hD
  refine xr_V (b := b 0) (As := [.ref u_1]) (rest := []) ⟨hx, hb, hml, hown, hts⟩ (c_X1_isFound l D t b th tc rc u_1 (earM F T L Z tc rc)) (cwV 1 hts gX1_isHeld_X1_isFound rfl rfl rfl hd_X1_isFound ⟨Nat.le_of_ble_eq_true rfl, Nat.le_of_ble_eq_true rfl⟩) hK hP (va_recv hK hP (ci := 1) (q0 := 0) rfl rfl) [0, 2] rfl rfl hl.1 rfl (Nat.le_of_ble_eq_true rfl) dX1_isHeld_5 ⟨(Nat.le_of_ble_eq_true rfl), (Nat.le_of_ble_eq_true rfl)⟩ ?_
  have hP : va_P D vwCl ([xMod b th tc rc, xArr (t 0) (b 1) 120 (mkM F T L Z)]) H := hP.sub [0, 1] rfl
  have hD : va_D _ ([xMod b th tc rc, xArr (t 0) (b 1) 120 (mkM F T L Z)]) := hD.sub [0, 1] (by decide) rfl
  subst hAe
  obtain ⟨hq9, hf9⟩ := xm_end (S := Unit) (pu := (fun u : Unit => True)) (r := (fun u : Unit => some (.int (bI (decide (¬ earM F T L Z tc rc 12 = -1)))))) (wc := [xMod b th tc rc, xArr (t 0) (b 1) 120 (mkM F T L Z)]) (w1 := (fun u : Unit => [xMod b th tc rc, xArr (t 0) (b 1) 120 (mkM F T L Z)])) (o := some (.int (bI (decide (¬ (earM F T L Z tc rc) 12 = -1))))) (args := ([.ref (b 0)] : List Value).toArray) () rfl trivial rfl hP hD hS
  exact W.zret hx hb hr (x_narB _) hq9 hf9 dX1_isHeld_8 hlocks
set_option maxHeartbeats 4000000 in
set_option maxRecDepth 100000 in
theorem c_X1_ways (l : Launch) (D : va_G) (t : Nat → ClassId) (b : Nat → Nat) (th : Int32) (tc rc : Nat) (F T : Nat → Nat) (L : Nat → Int32) (Z : Nat → Bool) (sz : Nat) (htc : tc ≤ 12) (hrc : rc ≤ 30) (hF : ∀ r, r < rc → F r < tc ∧ T r < tc) : Met l yX1_ways wsX1_ways ({ frames := 2, cells := 13, slots := 156, locals := 43 }) (xMu D (xTy t) (va_AOA .int) [.ref (b 0)] [xMod b th tc rc, xArr (t 0) (b 1) 120 (mkM F T L Z)] sz) (xQm D (fun u : Nat × (Nat → Nat) => True) (fun u : Nat × (Nat → Nat) => some (.ref u.1)) [xMod b th tc rc, xArr (t 0) (b 1) 120 (mkM F T L Z)] (fun u : Nat × (Nat → Nat) => [xMod b th tc rc, xArr (t 0) (b 1) 120 (mkM F T L Z), xGo (t 3) u.1 u.2] ++ xGr (t 0) u.2 (wayM F T L Z tc rc)) sz) 13 156 (va_A [xMod b th tc rc, xArr (t 0) (b 1) 120 (mkM F T L Z)] sz) := by
  refine Met.ofW (cc := cX1_ways) (maxL := 5) (ret := (some (.array (.array .int)))) (by decide) rfl ?_
  intro p e s m args below meth c s₁ hB9 hml hv
  obtain ⟨rfl, hsz, hP, hK, hD0, hXX⟩ := hv
  have hx := hB9.exec
  have hb := hB9.bytes
  have hr := hB9.returns
  have hts := atoms_spec (ws := wsX1_ways) hB9.pre
  have hown : s.vm.findClass RX1 = some m.cls := findClass_of_methodNamed hB9.named
  have hlocks := hB9.notSynchronized
  have hin : ∀ w ∈ wsX10, w ∈ wsX1_ways := fun _ h => List.mem_cons_of_mem _ (List.mem_append_right _ h)
  have kc_50 := hts (.constant RX1 50 (99999)) (by decide +kernel)
  have fl_24 := hts (.fieldLink RX1 24 "RopeTimesModel" "ropes" "I") (by decide +kernel)
  have ml_51 := hts (.methodLink RX1 51 Lib.Math.min.name) (by decide +kernel)
  have ms_min := hts (.static Lib.Math.min.name) (by decide +kernel)
  have mc_min := hts (.code Lib.Math.min.name Lib.Math.min.code 2 (some .int)) (by decide +kernel)
  have mi_Math := hts (.initialized "java/lang/Math") (by decide +kernel)
  have fl_17 := hts (.fieldLink RX1 17 "RopeTimesModel" "turns" "I") (by decide +kernel)
  subst hsz
  have hD := hD0.self (sz := s.heap.size)
  generalize hAe : va_A ([xMod b th tc rc, xArr (t 0) (b 1) 120 (mkM F T L Z)]) s.heap.size = A at hD ⊢
  have hA : ∀ q : Nat, s.heap.size ≤ q → A q := fun q h => by rw [← hAe]; exact Or.inr h
  have hS : va_S A s.heap s.heap [] := va_S.rf
  have hP : va_P D vwCl ([xMod b th tc rc, xArr (t 0) (b 1) 120 (mkM F T L Z)]) s.heap := hP
  have hD : va_D A ([xMod b th tc rc, xArr (t 0) (b 1) 120 (mkM F T L Z)]) := hD
  have hl := lv_entry ([.ref (b 0)]) (n := 5) (Nat.le_of_ble_eq_true rfl)
  rw [lg_entry_eq]
  generalize (lg_sl ([.ref (b 0)]) ++ List.replicate (5 - (lg_sl ([.ref (b 0)])).length) Slot.unset).toArray = ls at hl ⊢
  have hl : lv_has ls 5 [(0, .ref (b 0))] := hl
  refine lv_bipush (v := 12) hx hb dX1_ways_0 (by decide) ?_
  refine lv_bipush (v := 12) hx hb dX1_ways_2 (by decide) ?_
  refine x_mna hx hb hown (hts (.classLink RX1 48 "[[I") (by decide +kernel)) hXX (hts (.arrayClass .int) (by decide +kernel)) hK hP hD hS hA (Nat.le_of_ble_eq_true rfl) (Nat.le_of_ble_eq_true rfl) dX1_ways_4 (fun q_1 gr_2 H hP hD hS => ?_)
  have hP : va_P D vwCl ([xMod b th tc rc, xArr (t 0) (b 1) 120 (mkM F T L Z), xGo (t 3) q_1 gr_2] ++ xGr (t 0) gr_2 (fun _ _ => 0)) H := hP
  have hD : va_D _ ([xMod b th tc rc, xArr (t 0) (b 1) 120 (mkM F T L Z), xGo (t 3) q_1 gr_2] ++ xGr (t 0) gr_2 (fun _ _ => 0)) := hD
  refine lv_astore_n (lv' := [(1, .ref q_1), (0, .ref (b 0))]) hx hb dX1_ways_8 rfl hl (by decide) rfl (fun ls hl => ?_)
  refine lv_iconst (v := 0) hx hb dX1_ways_9 (by decide) ?_
  refine lv_istore_n (lv' := [(2, .int 0), (1, .ref q_1), (0, .ref (b 0))]) hx hb dX1_ways_10 rfl hl (by decide) rfl (fun ls hl => ?_)
  have lp_11 : ∀ (n11 : Nat) (i : Nat) (G1 : Nat → Nat → Int32), i + n11 = 12 → gIni n11 i G1 = gIni 12 0 (fun _ _ => 0) → ∀ (H : Heap) (locs : List Loc), va_P D vwCl ([xMod b th tc rc, xArr (t 0) (b 1) 120 (mkM F T L Z), xGo (t 3) q_1 gr_2] ++ xGr (t 0) gr_2 G1) H → va_D A ([xMod b th tc rc, xArr (t 0) (b 1) 120 (mkM F T L Z), xGo (t 3) q_1 gr_2] ++ xGr (t 0) gr_2 G1) → va_S A s.heap H locs → ∀ ls : Array Slot, lv_has ls 5 [(2, .int (nI i)), (1, .ref q_1), (0, .ref (b 0))] → W p l e (headSpec wsX1_ways ({ frames := 2, cells := 13, slots := 156, locals := 43 } : Jvm.Room)).room s m (([.ref (b 0)] : List Value).toArray) below meth c H locs 13 156 (MQ below (xQm D (fun u : Nat × (Nat → Nat) => True) (fun u : Nat × (Nat → Nat) => some (.ref u.1)) [xMod b th tc rc, xArr (t 0) (b 1) 120 (mkM F T L Z)] (fun u : Nat × (Nat → Nat) => [xMod b th tc rc, xArr (t 0) (b 1) 120 (mkM F T L Z), xGo (t 3) u.1 u.2] ++ xGr (t 0) u.2 (wayM F T L Z tc rc)) s.heap.size) (([.ref (b 0)] : List Value).toArray) s 13 156 A) (F0 m 11 ls []) := by
    intro n11
    induction n11 using Nat.strongRecOn with
    | _ n11 ih_11 =>
      intro i G1 hm_11 hfin_11 H locs hP hD hS ls hl
      refine lv_iload_n hx hb dX1_ways_11 rfl (lv_at hl 0 rfl) ?_
      refine lv_bipush (v := 12) hx hb dX1_ways_12 (by decide) ?_
      refine lv_icmp_ge (x := nI i) (y := 12) (tgt := 53) hx hb dX1_ways_14 (by decide) (fun c_3 => ?_) (fun c_3 => ?_)
      · have c_3 := (nI_leI (a := 12) (b := i) (by omega) (by omega)).mp c_3
        have hn0_11 : n11 = 0 := by omega
        subst hn0_11
        obtain rfl : G1 = gIni 12 0 (fun _ _ => 0) := hfin_11
        refine lv_iconst (v := 0) hx hb dX1_ways_53 (by decide) ?_
        refine lv_istore_n (lv' := [(2, .int 0), (1, .ref q_1), (0, .ref (b 0))]) hx hb dX1_ways_54 rfl hl (by decide) rfl (fun ls hl => ?_)
        have lp_55 : ∀ (n55 : Nat) (r : Nat) (G3 : Nat → Nat → Int32), r + n55 = rc → gRop F T L Z n55 r G3 = gRop F T L Z rc 0 (gIni 12 0 (fun _ _ => 0)) → ∀ (H : Heap) (locs : List Loc), va_P D vwCl ([xMod b th tc rc, xArr (t 0) (b 1) 120 (mkM F T L Z), xGo (t 3) q_1 gr_2] ++ xGr (t 0) gr_2 G3) H → va_D A ([xMod b th tc rc, xArr (t 0) (b 1) 120 (mkM F T L Z), xGo (t 3) q_1 gr_2] ++ xGr (t 0) gr_2 G3) → va_S A s.heap H locs → ∀ ls : Array Slot, lv_has ls 5 [(2, .int (nI r)), (1, .ref q_1), (0, .ref (b 0))] → W p l e (headSpec wsX1_ways ({ frames := 2, cells := 13, slots := 156, locals := 43 } : Jvm.Room)).room s m (([.ref (b 0)] : List Value).toArray) below meth c H locs 13 156 (MQ below (xQm D (fun u : Nat × (Nat → Nat) => True) (fun u : Nat × (Nat → Nat) => some (.ref u.1)) [xMod b th tc rc, xArr (t 0) (b 1) 120 (mkM F T L Z)] (fun u : Nat × (Nat → Nat) => [xMod b th tc rc, xArr (t 0) (b 1) 120 (mkM F T L Z), xGo (t 3) u.1 u.2] ++ xGr (t 0) u.2 (wayM F T L Z tc rc)) s.heap.size) (([.ref (b 0)] : List Value).toArray) s 13 156 A) (F0 m 55 ls []) := by
          intro n55
          induction n55 using Nat.strongRecOn with
          | _ n55 ih_55 =>
            intro r G3 hm_55 hfin_55 H locs hP hD hS ls hl
            refine lv_iload_n hx hb dX1_ways_55 rfl (lv_at hl 0 rfl) ?_
            refine lv_aload_n hx hb dX1_ways_56 rfl (lv_at hl 2 rfl) ?_
            refine x1_get (v := .int (nI rc)) hx hb hts hin hown hK hP 0 rfl 2 (by decide) fl_24 rfl dX1_ways_57 rfl ?_
            refine lv_icmp_ge (x := nI r) (y := nI rc) (tgt := 116) hx hb dX1_ways_60 (by decide) (fun c_4 => ?_) (fun c_4 => ?_)
            · have c_4 := (nI_leI (a := rc) (b := r) (by omega) (by omega)).mp c_4
              have hn0_55 : n55 = 0 := by omega
              subst hn0_55
              obtain rfl : G3 = gRop F T L Z rc 0 (gIni 12 0 (fun _ _ => 0)) := hfin_55
              refine lv_iconst (v := 0) hx hb dX1_ways_116 (by decide) ?_
              refine lv_istore_n (lv' := [(2, .int 0), (1, .ref q_1), (0, .ref (b 0))]) hx hb dX1_ways_117 rfl hl (by decide) rfl (fun ls hl => ?_)
              have lp_118 : ∀ (n118 : Nat) (v : Nat) (G4 : Nat → Nat → Int32), v + n118 = tc → gV tc n118 v G4 = gV tc tc 0 (gRop F T L Z rc 0 (gIni 12 0 (fun _ _ => 0))) → ∀ (H : Heap) (locs : List Loc), va_P D vwCl ([xMod b th tc rc, xArr (t 0) (b 1) 120 (mkM F T L Z), xGo (t 3) q_1 gr_2] ++ xGr (t 0) gr_2 G4) H → va_D A ([xMod b th tc rc, xArr (t 0) (b 1) 120 (mkM F T L Z), xGo (t 3) q_1 gr_2] ++ xGr (t 0) gr_2 G4) → va_S A s.heap H locs → ∀ ls : Array Slot, lv_has ls 5 [(2, .int (nI v)), (1, .ref q_1), (0, .ref (b 0))] → W p l e (headSpec wsX1_ways ({ frames := 2, cells := 13, slots := 156, locals := 43 } : Jvm.Room)).room s m (([.ref (b 0)] : List Value).toArray) below meth c H locs 13 156 (MQ below (xQm D (fun u : Nat × (Nat → Nat) => True) (fun u : Nat × (Nat → Nat) => some (.ref u.1)) [xMod b th tc rc, xArr (t 0) (b 1) 120 (mkM F T L Z)] (fun u : Nat × (Nat → Nat) => [xMod b th tc rc, xArr (t 0) (b 1) 120 (mkM F T L Z), xGo (t 3) u.1 u.2] ++ xGr (t 0) u.2 (wayM F T L Z tc rc)) s.heap.size) (([.ref (b 0)] : List Value).toArray) s 13 156 A) (F0 m 118 ls []) := by
                intro n118
                induction n118 using Nat.strongRecOn with
                | _ n118 ih_118 =>
                  intro v G4 hm_118 hfin_118 H locs hP hD hS ls hl
                  refine lv_iload_n hx hb dX1_ways_118 rfl (lv_at hl 0 rfl) ?_
                  refine lv_aload_n hx hb dX1_ways_119 rfl (lv_at hl 2 rfl) ?_
                  refine x1_get (v := .int (nI tc)) hx hb hts hin hown hK hP 0 rfl 1 (by decide) fl_17 rfl dX1_ways_120 rfl ?_
                  refine lv_icmp_ge (x := nI v) (y := nI tc) (tgt := 214) hx hb dX1_ways_123 (by decide) (fun c_5 => ?_) (fun c_5 => ?_)
                  · have c_5 := (nI_leI (a := tc) (b := v) (by omega) (by omega)).mp c_5
                    have hn0_118 : n118 = 0 := by omega
                    subst hn0_118
                    obtain rfl : G4 = gV tc tc 0 (gRop F T L Z rc 0 (gIni 12 0 (fun _ _ => 0))) := hfin_118
                    refine lv_aload_n hx hb dX1_ways_214 rfl (lv_at hl 1 rfl) ?_
                    subst hAe
                    obtain ⟨hq9, hf9⟩ := xm_end (S := Nat × (Nat → Nat)) (pu := (fun u : Nat × (Nat → Nat) => True)) (r := (fun u : Nat × (Nat → Nat) => some (.ref u.1))) (wc := [xMod b th tc rc, xArr (t 0) (b 1) 120 (mkM F T L Z)]) (w1 := (fun u : Nat × (Nat → Nat) => [xMod b th tc rc, xArr (t 0) (b 1) 120 (mkM F T L Z), xGo (t 3) u.1 u.2] ++ xGr (t 0) u.2 (wayM F T L Z tc rc))) (o := some (.ref q_1)) (args := ([.ref (b 0)] : List Value).toArray) (q_1, gr_2) rfl trivial rfl hP hD hS
                    exact W.aret hx hb hr (Or.inr ⟨_, rfl⟩) (Or.inr ⟨_, rfl⟩) hq9 hf9 dX1_ways_215 hlocks
                  · have c_5 : v < tc := Nat.lt_of_not_le (fun z9 => c_5 ((nI_leI (a := tc) (b := v) (by omega) (by omega)).mpr z9))
                    obtain ⟨n1189, rfl⟩ : ∃ z, n118 = z + 1 := ⟨n118 - 1, by omega⟩
                    refine lv_iconst (v := 0) hx hb dX1_ways_126 (by decide) ?_
                    refine lv_istore_n (lv' := [(3, .int 0), (2, .int (nI v)), (1, .ref q_1), (0, .ref (b 0))]) hx hb dX1_ways_127 rfl hl (by decide) rfl (fun ls hl => ?_)
                    have lp_128 : ∀ (n128 : Nat) (i : Nat) (G5 : Nat → Nat → Int32), i + n128 = tc → gA v tc n128 i G5 = gA v tc tc 0 G4 → ∀ (H : Heap) (locs : List Loc), va_P D vwCl ([xMod b th tc rc, xArr (t 0) (b 1) 120 (mkM F T L Z), xGo (t 3) q_1 gr_2] ++ xGr (t 0) gr_2 G5) H → va_D A ([xMod b th tc rc, xArr (t 0) (b 1) 120 (mkM F T L Z), xGo (t 3) q_1 gr_2] ++ xGr (t 0) gr_2 G5) → va_S A s.heap H locs → ∀ ls : Array Slot, lv_has ls 5 [(3, .int (nI i)), (2, .int (nI v)), (1, .ref q_1), (0, .ref (b 0))] → W p l e (headSpec wsX1_ways ({ frames := 2, cells := 13, slots := 156, locals := 43 } : Jvm.Room)).room s m (([.ref (b 0)] : List Value).toArray) below meth c H locs 13 156 (MQ below (xQm D (fun u : Nat × (Nat → Nat) => True) (fun u : Nat × (Nat → Nat) => some (.ref u.1)) [xMod b th tc rc, xArr (t 0) (b 1) 120 (mkM F T L Z)] (fun u : Nat × (Nat → Nat) => [xMod b th tc rc, xArr (t 0) (b 1) 120 (mkM F T L Z), xGo (t 3) u.1 u.2] ++ xGr (t 0) u.2 (wayM F T L Z tc rc)) s.heap.size) (([.ref (b 0)] : List Value).toArray) s 13 156 A) (F0 m 128 ls []) := by
                      intro n128
                      induction n128 using Nat.strongRecOn with
                      | _ n128 ih_128 =>
                        intro i G5 hm_128 hfin_128 H locs hP hD hS ls hl
                        refine lv_iload_n hx hb dX1_ways_128 rfl (lv_at hl 0 rfl) ?_
                        refine lv_aload_n hx hb dX1_ways_129 rfl (lv_at hl 3 rfl) ?_
                        refine x1_get (v := .int (nI tc)) hx hb hts hin hown hK hP 0 rfl 1 (by decide) fl_17 rfl dX1_ways_130 rfl ?_
                        refine lv_icmp_ge (x := nI i) (y := nI tc) (tgt := 208) hx hb dX1_ways_133 (by decide) (fun c_6 => ?_) (fun c_6 => ?_)
                        · have c_6 := (nI_leI (a := tc) (b := i) (by omega) (by omega)).mp c_6
                          have hn0_128 : n128 = 0 := by omega
                          subst hn0_128
                          obtain rfl : G5 = gA v tc tc 0 G4 := hfin_128
                          refine lv_iinc (v := nI (v + 1)) (lv' := [(2, .int (nI (v + 1))), (3, .int (nI i)), (1, .ref q_1), (0, .ref (b 0))]) hx hb dX1_ways_208 hl (k := 1) rfl (x_inc _) (by decide) rfl (fun ls hl => ?_)
                          refine lv_goto (tgt := 118) hx hb dX1_ways_211 (by decide) ?_
                          exact ih_118 n1189 (by omega) (v + 1) (gA v tc tc 0 G4) (by omega) (by rw [← hfin_118]; rfl) _ _ hP hD hS _ (lv_sub hl [0, 2, 3] rfl)
                        · have c_6 : i < tc := Nat.lt_of_not_le (fun z9 => c_6 ((nI_leI (a := tc) (b := i) (by omega) (by omega)).mpr z9))
                          obtain ⟨n1289, rfl⟩ : ∃ z, n128 = z + 1 := ⟨n128 - 1, by omega⟩
                          refine lv_iconst (v := 0) hx hb dX1_ways_136 (by decide) ?_
                          refine lv_istore (lv' := [(4, .int 0), (3, .int (nI i)), (2, .int (nI v)), (1, .ref q_1), (0, .ref (b 0))]) hx hb dX1_ways_137 hl (by decide) rfl (fun ls hl => ?_)
                          have lp_139 : ∀ (n139 : Nat) (j : Nat) (G6 : Nat → Nat → Int32), j + n139 = tc → gB v i n139 j G6 = gB v i tc 0 G5 → ∀ (H : Heap) (locs : List Loc), va_P D vwCl ([xMod b th tc rc, xArr (t 0) (b 1) 120 (mkM F T L Z), xGo (t 3) q_1 gr_2] ++ xGr (t 0) gr_2 G6) H → va_D A ([xMod b th tc rc, xArr (t 0) (b 1) 120 (mkM F T L Z), xGo (t 3) q_1 gr_2] ++ xGr (t 0) gr_2 G6) → va_S A s.heap H locs → ∀ ls : Array Slot, lv_has ls 5 [(4, .int (nI j)), (3, .int (nI i)), (2, .int (nI v)), (1, .ref q_1), (0, .ref (b 0))] → W p l e (headSpec wsX1_ways ({ frames := 2, cells := 13, slots := 156, locals := 43 } : Jvm.Room)).room s m (([.ref (b 0)] : List Value).toArray) below meth c H locs 13 156 (MQ below (xQm D (fun u : Nat × (Nat → Nat) => True) (fun u : Nat × (Nat → Nat) => some (.ref u.1)) [xMod b th tc rc, xArr (t 0) (b 1) 120 (mkM F T L Z)] (fun u : Nat × (Nat → Nat) => [xMod b th tc rc, xArr (t 0) (b 1) 120 (mkM F T L Z), xGo (t 3) u.1 u.2] ++ xGr (t 0) u.2 (wayM F T L Z tc rc)) s.heap.size) (([.ref (b 0)] : List Value).toArray) s 13 156 A) (F0 m 139 ls []) := by
                            intro n139
                            induction n139 using Nat.strongRecOn with
                            | _ n139 ih_139 =>
                              intro j G6 hm_139 hfin_139 H locs hP hD hS ls hl
                              refine lv_iload hx hb dX1_ways_139 (lv_at hl 0 rfl) ?_
                              refine lv_aload_n hx hb dX1_ways_141 rfl (lv_at hl 4 rfl) ?_
                              refine x1_get (v := .int (nI tc)) hx hb hts hin hown hK hP 0 rfl 1 (by decide) fl_17 rfl dX1_ways_142 rfl ?_
                              refine lv_icmp_ge (x := nI j) (y := nI tc) (tgt := 202) hx hb dX1_ways_145 (by decide) (fun c_7 => ?_) (fun c_7 => ?_)
                              · have c_7 := (nI_leI (a := tc) (b := j) (by omega) (by omega)).mp c_7
                                have hn0_139 : n139 = 0 := by omega
                                subst hn0_139
                                obtain rfl : G6 = gB v i tc 0 G5 := hfin_139
                                refine lv_iinc (v := nI (i + 1)) (lv' := [(3, .int (nI (i + 1))), (4, .int (nI j)), (2, .int (nI v)), (1, .ref q_1), (0, .ref (b 0))]) hx hb dX1_ways_202 hl (k := 1) rfl (x_inc _) (by decide) rfl (fun ls hl => ?_)
                                refine lv_goto (tgt := 128) hx hb dX1_ways_205 (by decide) ?_
                                exact ih_128 n1289 (by omega) (i + 1) (gB v i tc 0 G5) (by omega) (by rw [← hfin_128]; rfl) _ _ hP hD hS _ (lv_sub hl [0, 2, 3, 4] rfl)
                              · have c_7 : j < tc := Nat.lt_of_not_le (fun z9 => c_7 ((nI_leI (a := tc) (b := j) (by omega) (by omega)).mpr z9))
                                obtain ⟨n1399, rfl⟩ : ∃ z, n139 = z + 1 := ⟨n139 - 1, by omega⟩
                                refine lv_aload_n hx hb dX1_ways_148 rfl (lv_at hl 3 rfl) ?_
                                refine lv_iload_n hx hb dX1_ways_149 rfl (lv_at hl 1 rfl) ?_
                                refine x_aald (v := gr_2 i) hx hb hK hP 2 3 rfl rfl (k := i) (by omega) (Nat.le_of_ble_eq_true rfl) (if_pos (by omega)) dX1_ways_150 ?_
                                refine lv_iload_n hx hb dX1_ways_151 rfl (lv_at hl 2 rfl) ?_
                                refine x_gld (M := G6) (i := i) (j := v) hx hb hK hP 0 rfl (by omega) (by omega) dX1_ways_152 ?_
                                refine lv_ldc (v := 99999) hx hb hown kc_50 dX1_ways_153 ?_
                                refine lv_icmp_eq (x := G6 i v) (y := 99999) (tgt := 196) hx hb dX1_ways_155 (by decide) (fun c_8 => ?_) (fun c_8 => ?_)
                                · refine lv_iinc (v := nI (j + 1)) (lv' := [(4, .int (nI (j + 1))), (3, .int (nI i)), (2, .int (nI v)), (1, .ref q_1), (0, .ref (b 0))]) hx hb dX1_ways_196 hl (k := 0) rfl (x_inc _) (by decide) rfl (fun ls hl => ?_)
                                  refine lv_goto (tgt := 139) hx hb dX1_ways_199 (by decide) ?_
                                  exact ih_139 n1399 (by omega) (j + 1) G6 (by omega) (by rw [← hfin_139]; simp [gB, c_3, Nat.not_lt.mpr c_3, c_4, Nat.not_lt.mpr c_4, c_5, c_6, c_7, c_8]) _ _ hP hD hS _ (lv_sub hl [0, 1, 2, 3, 4] rfl)
                                · refine lv_aload_n hx hb dX1_ways_158 rfl (lv_at hl 3 rfl) ?_
                                  refine lv_iload_n hx hb dX1_ways_159 rfl (lv_at hl 2 rfl) ?_
                                  refine x_aald (v := gr_2 v) hx hb hK hP 2 3 rfl rfl (k := v) (by omega) (Nat.le_of_ble_eq_true rfl) (if_pos (by omega)) dX1_ways_160 ?_
                                  refine lv_iload hx hb dX1_ways_161 (lv_at hl 0 rfl) ?_
                                  refine x_gld (M := G6) (i := v) (j := j) hx hb hK hP 0 rfl (by omega) (by omega) dX1_ways_163 ?_
                                  refine lv_ldc (v := 99999) hx hb hown kc_50 dX1_ways_164 ?_
                                  refine lv_icmp_eq (x := G6 v j) (y := 99999) (tgt := 196) hx hb dX1_ways_166 (by decide) (fun c_9 => ?_) (fun c_9 => ?_)
                                  · refine lv_iinc (v := nI (j + 1)) (lv' := [(4, .int (nI (j + 1))), (3, .int (nI i)), (2, .int (nI v)), (1, .ref q_1), (0, .ref (b 0))]) hx hb dX1_ways_196 hl (k := 0) rfl (x_inc _) (by decide) rfl (fun ls hl => ?_)
                                    refine lv_goto (tgt := 139) hx hb dX1_ways_199 (by decide) ?_
                                    exact ih_139 n1399 (by omega) (j + 1) G6 (by omega) (by rw [← hfin_139]; simp [gB, c_3, Nat.not_lt.mpr c_3, c_4, Nat.not_lt.mpr c_4, c_5, c_6, c_7, c_8, c_9]) _ _ hP hD hS _ (lv_sub hl [0, 1, 2, 3, 4] rfl)
                                  · refine lv_aload_n hx hb dX1_ways_169 rfl (lv_at hl 3 rfl) ?_
                                    refine lv_iload_n hx hb dX1_ways_170 rfl (lv_at hl 1 rfl) ?_
                                    refine x_aald (v := gr_2 i) hx hb hK hP 2 3 rfl rfl (k := i) (by omega) (Nat.le_of_ble_eq_true rfl) (if_pos (by omega)) dX1_ways_171 ?_
                                    refine lv_iload hx hb dX1_ways_172 (lv_at hl 0 rfl) ?_
                                    refine lv_aload_n hx hb dX1_ways_174 rfl (lv_at hl 3 rfl) ?_
                                    refine lv_iload_n hx hb dX1_ways_175 rfl (lv_at hl 1 rfl) ?_
                                    refine x_aald (v := gr_2 i) hx hb hK hP 2 3 rfl rfl (k := i) (by omega) (Nat.le_of_ble_eq_true rfl) (if_pos (by omega)) dX1_ways_176 ?_
                                    refine lv_iload hx hb dX1_ways_177 (lv_at hl 0 rfl) ?_
                                    refine x_gld (M := G6) (i := i) (j := j) hx hb hK hP 0 rfl (by omega) (by omega) dX1_ways_179 ?_
                                    refine lv_aload_n hx hb dX1_ways_180 rfl (lv_at hl 3 rfl) ?_
                                    refine lv_iload_n hx hb dX1_ways_181 rfl (lv_at hl 1 rfl) ?_
                                    refine x_aald (v := gr_2 i) hx hb hK hP 2 3 rfl rfl (k := i) (by omega) (Nat.le_of_ble_eq_true rfl) (if_pos (by omega)) dX1_ways_182 ?_
                                    refine lv_iload_n hx hb dX1_ways_183 rfl (lv_at hl 2 rfl) ?_
                                    refine x_gld (M := G6) (i := i) (j := v) hx hb hK hP 0 rfl (by omega) (by omega) dX1_ways_184 ?_
                                    refine lv_aload_n hx hb dX1_ways_185 rfl (lv_at hl 3 rfl) ?_
                                    refine lv_iload_n hx hb dX1_ways_186 rfl (lv_at hl 2 rfl) ?_
                                    refine x_aald (v := gr_2 v) hx hb hK hP 2 3 rfl rfl (k := v) (by omega) (Nat.le_of_ble_eq_true rfl) (if_pos (by omega)) dX1_ways_187 ?_
                                    refine lv_iload hx hb dX1_ways_188 (lv_at hl 0 rfl) ?_
                                    refine x_gld (M := G6) (i := v) (j := j) hx hb hK hP 0 rfl (by omega) (by omega) dX1_ways_190 ?_
                                    refine lv_iadd (x := G6 i v) (y := G6 v j) hx hb dX1_ways_191 ?_
                                    refine va_mmin (x := G6 i j) (y := (G6 i v) + (G6 v j)) hx hb (hml.trans hl.1.symm) hown ml_51 ms_min mi_Math mc_min (Nat.le_of_ble_eq_true rfl) (Nat.le_of_ble_eq_true rfl) (Nat.le_of_ble_eq_true rfl) (Nat.le_of_ble_eq_true rfl) dX1_ways_192 ?_
                                    refine x_top (w := mnI (G6 i j) ((G6 i v) + (G6 v j))) rfl ?_
                                    refine x_gst (M := G6) (i := i) (j := j) (x := mnI (G6 i j) ((G6 i v) + (G6 v j))) hx hb hK hP hD hS 0 rfl (by omega) (by omega) dX1_ways_195 (fun H locs hP hD hS => ?_)
                                    refine lv_iinc (v := nI (j + 1)) (lv' := [(4, .int (nI (j + 1))), (3, .int (nI i)), (2, .int (nI v)), (1, .ref q_1), (0, .ref (b 0))]) hx hb dX1_ways_196 hl (k := 0) rfl (x_inc _) (by decide) rfl (fun ls hl => ?_)
                                    refine lv_goto (tgt := 139) hx hb dX1_ways_199 (by decide) ?_
                                    exact ih_139 n1399 (by omega) (j + 1) (updG G6 i j (mnI (G6 i j) ((G6 i v) + (G6 v j)))) (by omega) (by rw [← hfin_139]; simp [gB, c_3, Nat.not_lt.mpr c_3, c_4, Nat.not_lt.mpr c_4, c_5, c_6, c_7, c_8, c_9]) _ _ hP hD hS _ (lv_sub hl [0, 1, 2, 3, 4] rfl)
                          exact lp_139 tc 0 G5 (by omega) rfl _ _ hP hD hS _ (lv_sub hl [0, 1, 2, 3, 4] rfl)
                    exact lp_128 tc 0 G4 (by omega) rfl _ _ hP hD hS _ (lv_sub hl [0, 1, 2, 3] rfl)
              exact lp_118 tc 0 (gRop F T L Z rc 0 (gIni 12 0 (fun _ _ => 0))) (by omega) rfl _ _ hP hD hS _ (lv_sub hl [0, 1, 2] rfl)
            · have c_4 : r < rc := Nat.lt_of_not_le (fun z9 => c_4 ((nI_leI (a := rc) (b := r) (by omega) (by omega)).mpr z9))
              obtain ⟨n559, rfl⟩ : ∃ z, n55 = z + 1 := ⟨n55 - 1, by omega⟩
              refine lv_aload_n hx hb dX1_ways_63 rfl (lv_at hl 2 rfl) ?_
              refine lv_iload_n hx hb dX1_ways_64 rfl (lv_at hl 0 rfl) ?_
              refine xr_V (b := b 0) (As := [.int (nI r)]) (rest := []) ⟨hx, hb, hml, hown, hts⟩ (c_X1_isTied l D t b th tc rc F T L Z r (by omega)) (cwV 1 hts gX1_ways_X1_isTied rfl rfl rfl hd_X1_isTied ⟨Nat.le_of_ble_eq_true rfl, Nat.le_of_ble_eq_true rfl⟩) hK hP (va_recv hK hP (ci := 1) (q0 := 0) rfl rfl) [0, 1] rfl rfl hl.1 rfl (Nat.le_of_ble_eq_true rfl) dX1_ways_65 ⟨(Nat.le_of_ble_eq_true rfl), (Nat.le_of_ble_eq_true rfl)⟩ ?_
              refine lv_if_eq (x := bI (Z r)) (tgt := 110) hx hb dX1_ways_68 (by decide) (fun c_10 => ?_) (fun c_10 => ?_)
              · have c_10 := bI_0 c_10
                refine lv_iinc (v := nI (r + 1)) (lv' := [(2, .int (nI (r + 1))), (1, .ref q_1), (0, .ref (b 0))]) hx hb dX1_ways_110 hl (k := 0) rfl (x_inc _) (by decide) rfl (fun ls hl => ?_)
                refine lv_goto (tgt := 55) hx hb dX1_ways_113 (by decide) ?_
                exact ih_55 n559 (by omega) (r + 1) G3 (by omega) (by rw [← hfin_55]; simp [gRop, c_3, Nat.not_lt.mpr c_3, c_4, c_10]) _ _ hP hD hS _ (lv_sub hl [0, 1, 2] rfl)
              · have c_10 := bI_n0 c_10
                refine lv_aload_n hx hb dX1_ways_71 rfl (lv_at hl 1 rfl) ?_
                refine lv_aload_n hx hb dX1_ways_72 rfl (lv_at hl 2 rfl) ?_
                refine lv_iload_n hx hb dX1_ways_73 rfl (lv_at hl 0 rfl) ?_
                refine lv_iconst (v := 0) hx hb dX1_ways_74 (by decide) ?_
                refine xr_V (b := b 0) (As := [.int (nI r), .int 0]) (rest := [.ref q_1]) ⟨hx, hb, hml, hown, hts⟩ (c_X1_ro l D t b th tc rc F T L Z r 0 (by omega) (Nat.le_of_ble_eq_true rfl)) (cwV 2 hts gX1_ways_X1_ro rfl rfl rfl hd_X1_ro ⟨Nat.le_of_ble_eq_true rfl, Nat.le_of_ble_eq_true rfl⟩) hK hP (va_recv hK hP (ci := 1) (q0 := 0) rfl rfl) [0, 1] rfl rfl hl.1 rfl (Nat.le_of_ble_eq_true rfl) dX1_ways_75 ⟨(Nat.le_of_ble_eq_true rfl), (Nat.le_of_ble_eq_true rfl)⟩ ?_
                refine x_top (w := nI (F r)) (mkM_0 _ _ _ _ r) ?_
                have := hF r (by omega)
                refine x_aald (v := gr_2 (F r)) hx hb hK hP 2 3 rfl rfl (k := F r) (by omega) (Nat.le_of_ble_eq_true rfl) (if_pos (by omega)) dX1_ways_78 ?_
                refine lv_aload_n hx hb dX1_ways_79 rfl (lv_at hl 2 rfl) ?_
                refine lv_iload_n hx hb dX1_ways_80 rfl (lv_at hl 0 rfl) ?_
                refine lv_iconst (v := 1) hx hb dX1_ways_81 (by decide) ?_
                refine xr_V (b := b 0) (As := [.int (nI r), .int 1]) (rest := [.ref (gr_2 (F r))]) ⟨hx, hb, hml, hown, hts⟩ (c_X1_ro l D t b th tc rc F T L Z r 1 (by omega) (Nat.le_of_ble_eq_true rfl)) (cwV 2 hts gX1_ways_X1_ro rfl rfl rfl hd_X1_ro ⟨Nat.le_of_ble_eq_true rfl, Nat.le_of_ble_eq_true rfl⟩) hK hP (va_recv hK hP (ci := 1) (q0 := 0) rfl rfl) [0, 1] rfl rfl hl.1 rfl (Nat.le_of_ble_eq_true rfl) dX1_ways_82 ⟨(Nat.le_of_ble_eq_true rfl), (Nat.le_of_ble_eq_true rfl)⟩ ?_
                refine x_top (w := nI (T r)) (mkM_1 _ _ _ _ r) ?_
                have := hF r (by omega)
                refine lv_aload_n hx hb dX1_ways_85 rfl (lv_at hl 1 rfl) ?_
                refine lv_aload_n hx hb dX1_ways_86 rfl (lv_at hl 2 rfl) ?_
                refine lv_iload_n hx hb dX1_ways_87 rfl (lv_at hl 0 rfl) ?_
                refine lv_iconst (v := 0) hx hb dX1_ways_88 (by decide) ?_
                refine xr_V (b := b 0) (As := [.int (nI r), .int 0]) (rest := [.ref q_1, .int (nI (T r)), .ref (gr_2 (F r))]) ⟨hx, hb, hml, hown, hts⟩ (c_X1_ro l D t b th tc rc F T L Z r 0 (by omega) (Nat.le_of_ble_eq_true rfl)) (cwV 2 hts gX1_ways_X1_ro rfl rfl rfl hd_X1_ro ⟨Nat.le_of_ble_eq_true rfl, Nat.le_of_ble_eq_true rfl⟩) hK hP (va_recv hK hP (ci := 1) (q0 := 0) rfl rfl) [0, 1] rfl rfl hl.1 rfl (Nat.le_of_ble_eq_true rfl) dX1_ways_89 ⟨(Nat.le_of_ble_eq_true rfl), (Nat.le_of_ble_eq_true rfl)⟩ ?_
                refine x_top (w := nI (F r)) (mkM_0 _ _ _ _ r) ?_
                have := hF r (by omega)
                refine x_aald (v := gr_2 (F r)) hx hb hK hP 2 3 rfl rfl (k := F r) (by omega) (Nat.le_of_ble_eq_true rfl) (if_pos (by omega)) dX1_ways_92 ?_
                refine lv_aload_n hx hb dX1_ways_93 rfl (lv_at hl 2 rfl) ?_
                refine lv_iload_n hx hb dX1_ways_94 rfl (lv_at hl 0 rfl) ?_
                refine lv_iconst (v := 1) hx hb dX1_ways_95 (by decide) ?_
                refine xr_V (b := b 0) (As := [.int (nI r), .int 1]) (rest := [.ref (gr_2 (F r)), .int (nI (T r)), .ref (gr_2 (F r))]) ⟨hx, hb, hml, hown, hts⟩ (c_X1_ro l D t b th tc rc F T L Z r 1 (by omega) (Nat.le_of_ble_eq_true rfl)) (cwV 2 hts gX1_ways_X1_ro rfl rfl rfl hd_X1_ro ⟨Nat.le_of_ble_eq_true rfl, Nat.le_of_ble_eq_true rfl⟩) hK hP (va_recv hK hP (ci := 1) (q0 := 0) rfl rfl) [0, 1] rfl rfl hl.1 rfl (Nat.le_of_ble_eq_true rfl) dX1_ways_96 ⟨(Nat.le_of_ble_eq_true rfl), (Nat.le_of_ble_eq_true rfl)⟩ ?_
                refine x_top (w := nI (T r)) (mkM_1 _ _ _ _ r) ?_
                have := hF r (by omega)
                refine x_gld (M := G3) (i := (F r)) (j := T r) hx hb hK hP 0 rfl (by omega) (by omega) dX1_ways_99 ?_
                refine lv_aload_n hx hb dX1_ways_100 rfl (lv_at hl 2 rfl) ?_
                refine lv_iload_n hx hb dX1_ways_101 rfl (lv_at hl 0 rfl) ?_
                refine lv_iconst (v := 2) hx hb dX1_ways_102 (by decide) ?_
                refine xr_V (b := b 0) (As := [.int (nI r), .int 2]) (rest := [.int (G3 (F r) (T r)), .int (nI (T r)), .ref (gr_2 (F r))]) ⟨hx, hb, hml, hown, hts⟩ (c_X1_ro l D t b th tc rc F T L Z r 2 (by omega) (Nat.le_of_ble_eq_true rfl)) (cwV 2 hts gX1_ways_X1_ro rfl rfl rfl hd_X1_ro ⟨Nat.le_of_ble_eq_true rfl, Nat.le_of_ble_eq_true rfl⟩) hK hP (va_recv hK hP (ci := 1) (q0 := 0) rfl rfl) [0, 1] rfl rfl hl.1 rfl (Nat.le_of_ble_eq_true rfl) dX1_ways_103 ⟨(Nat.le_of_ble_eq_true rfl), (Nat.le_of_ble_eq_true rfl)⟩ ?_
                refine x_top (w := L r) (mkM_2 _ _ _ _ r) ?_
                refine va_mmin (x := G3 (F r) (T r)) (y := L r) hx hb (hml.trans hl.1.symm) hown ml_51 ms_min mi_Math mc_min (Nat.le_of_ble_eq_true rfl) (Nat.le_of_ble_eq_true rfl) (Nat.le_of_ble_eq_true rfl) (Nat.le_of_ble_eq_true rfl) dX1_ways_106 ?_
                refine x_top (w := mnI (G3 (F r) (T r)) (L r)) rfl ?_
                refine x_gst (M := G3) (i := (F r)) (j := T r) (x := mnI (G3 (F r) (T r)) (L r)) hx hb hK hP hD hS 0 rfl (by omega) (by omega) dX1_ways_109 (fun H locs hP hD hS => ?_)
                refine lv_iinc (v := nI (r + 1)) (lv' := [(2, .int (nI (r + 1))), (1, .ref q_1), (0, .ref (b 0))]) hx hb dX1_ways_110 hl (k := 0) rfl (x_inc _) (by decide) rfl (fun ls hl => ?_)
                refine lv_goto (tgt := 55) hx hb dX1_ways_113 (by decide) ?_
                exact ih_55 n559 (by omega) (r + 1) (updG G3 (F r) (T r) (mnI (G3 (F r) (T r)) (L r))) (by omega) (by rw [← hfin_55]; simp [gRop, c_3, Nat.not_lt.mpr c_3, c_4, c_10]) _ _ hP hD hS _ (lv_sub hl [0, 1, 2] rfl)
        exact lp_55 rc 0 (gIni 12 0 (fun _ _ => 0)) (by omega) rfl _ _ hP hD hS _ (lv_sub hl [0, 1, 2] rfl)
      · have c_3 : i < 12 := Nat.lt_of_not_le (fun z9 => c_3 ((nI_leI (a := 12) (b := i) (by omega) (by omega)).mpr z9))
        obtain ⟨n119, rfl⟩ : ∃ z, n11 = z + 1 := ⟨n11 - 1, by omega⟩
        refine lv_iconst (v := 0) hx hb dX1_ways_17 (by decide) ?_
        refine lv_istore_n (lv' := [(3, .int 0), (2, .int (nI i)), (1, .ref q_1), (0, .ref (b 0))]) hx hb dX1_ways_18 rfl hl (by decide) rfl (fun ls hl => ?_)
        have lp_19 : ∀ (n19 : Nat) (j : Nat) (G2 : Nat → Nat → Int32), j + n19 = 12 → gRow i n19 j G2 = gRow i 12 0 G1 → ∀ (H : Heap) (locs : List Loc), va_P D vwCl ([xMod b th tc rc, xArr (t 0) (b 1) 120 (mkM F T L Z), xGo (t 3) q_1 gr_2] ++ xGr (t 0) gr_2 G2) H → va_D A ([xMod b th tc rc, xArr (t 0) (b 1) 120 (mkM F T L Z), xGo (t 3) q_1 gr_2] ++ xGr (t 0) gr_2 G2) → va_S A s.heap H locs → ∀ ls : Array Slot, lv_has ls 5 [(3, .int (nI j)), (2, .int (nI i)), (1, .ref q_1), (0, .ref (b 0))] → W p l e (headSpec wsX1_ways ({ frames := 2, cells := 13, slots := 156, locals := 43 } : Jvm.Room)).room s m (([.ref (b 0)] : List Value).toArray) below meth c H locs 13 156 (MQ below (xQm D (fun u : Nat × (Nat → Nat) => True) (fun u : Nat × (Nat → Nat) => some (.ref u.1)) [xMod b th tc rc, xArr (t 0) (b 1) 120 (mkM F T L Z)] (fun u : Nat × (Nat → Nat) => [xMod b th tc rc, xArr (t 0) (b 1) 120 (mkM F T L Z), xGo (t 3) u.1 u.2] ++ xGr (t 0) u.2 (wayM F T L Z tc rc)) s.heap.size) (([.ref (b 0)] : List Value).toArray) s 13 156 A) (F0 m 19 ls []) := by
          intro n19
          induction n19 using Nat.strongRecOn with
          | _ n19 ih_19 =>
            intro j G2 hm_19 hfin_19 H locs hP hD hS ls hl
            refine lv_iload_n hx hb dX1_ways_19 rfl (lv_at hl 0 rfl) ?_
            refine lv_bipush (v := 12) hx hb dX1_ways_20 (by decide) ?_
            refine lv_icmp_ge (x := nI j) (y := 12) (tgt := 47) hx hb dX1_ways_22 (by decide) (fun c_11 => ?_) (fun c_11 => ?_)
            · have c_11 := (nI_leI (a := 12) (b := j) (by omega) (by omega)).mp c_11
              have hn0_19 : n19 = 0 := by omega
              subst hn0_19
              obtain rfl : G2 = gRow i 12 0 G1 := hfin_19
              refine lv_iinc (v := nI (i + 1)) (lv' := [(2, .int (nI (i + 1))), (3, .int (nI j)), (1, .ref q_1), (0, .ref (b 0))]) hx hb dX1_ways_47 hl (k := 1) rfl (x_inc _) (by decide) rfl (fun ls hl => ?_)
              refine lv_goto (tgt := 11) hx hb dX1_ways_50 (by decide) ?_
              exact ih_11 n119 (by omega) (i + 1) (gRow i 12 0 G1) (by omega) (by rw [← hfin_11]; rfl) _ _ hP hD hS _ (lv_sub hl [0, 2, 3] rfl)
            · have c_11 : j < 12 := Nat.lt_of_not_le (fun z9 => c_11 ((nI_leI (a := 12) (b := j) (by omega) (by omega)).mpr z9))
              obtain ⟨n199, rfl⟩ : ∃ z, n19 = z + 1 := ⟨n19 - 1, by omega⟩
              refine lv_aload_n hx hb dX1_ways_25 rfl (lv_at hl 2 rfl) ?_
              refine lv_iload_n hx hb dX1_ways_26 rfl (lv_at hl 1 rfl) ?_
              refine x_aald (v := gr_2 i) hx hb hK hP 2 3 rfl rfl (k := i) (by omega) (Nat.le_of_ble_eq_true rfl) (if_pos (by omega)) dX1_ways_27 ?_
              refine lv_iload_n hx hb dX1_ways_28 rfl (lv_at hl 0 rfl) ?_
              refine lv_iload_n hx hb dX1_ways_29 rfl (lv_at hl 1 rfl) ?_
              refine lv_iload_n hx hb dX1_ways_30 rfl (lv_at hl 0 rfl) ?_
              refine lv_icmp_ne (x := nI i) (y := nI j) (tgt := 38) hx hb dX1_ways_31 (by decide) (fun c_12 => ?_) (fun c_12 => ?_)
              · have c_12 : ¬ i = j := fun z9 => c_12 ((nI_eq (a := i) (b := j) (by omega) (by omega)).mpr z9)
                refine lv_ldc (v := 99999) hx hb hown kc_50 dX1_ways_38 ?_
                refine x_gst (M := G2) (i := i) (j := j) (x := 99999) hx hb hK hP hD hS 0 rfl (by omega) (by omega) dX1_ways_40 (fun H locs hP hD hS => ?_)
                refine lv_iinc (v := nI (j + 1)) (lv' := [(3, .int (nI (j + 1))), (2, .int (nI i)), (1, .ref q_1), (0, .ref (b 0))]) hx hb dX1_ways_41 hl (k := 0) rfl (x_inc _) (by decide) rfl (fun ls hl => ?_)
                refine lv_goto (tgt := 19) hx hb dX1_ways_44 (by decide) ?_
                exact ih_19 n199 (by omega) (j + 1) (updG G2 i j 99999) (by omega) (by rw [← hfin_19]; simp [gRow, c_3, c_11, c_12]) _ _ hP hD hS _ (lv_sub hl [0, 1, 2, 3] rfl)
              · have c_12 := (nI_eq (a := i) (b := j) (by omega) (by omega)).mp c_12
                refine lv_iconst (v := 0) hx hb dX1_ways_34 (by decide) ?_
                refine lv_goto (tgt := 40) hx hb dX1_ways_35 (by decide) ?_
                refine x_gst (M := G2) (i := i) (j := j) (x := 0) hx hb hK hP hD hS 0 rfl (by omega) (by omega) dX1_ways_40 (fun H locs hP hD hS => ?_)
                refine lv_iinc (v := nI (j + 1)) (lv' := [(3, .int (nI (j + 1))), (2, .int (nI i)), (1, .ref q_1), (0, .ref (b 0))]) hx hb dX1_ways_41 hl (k := 0) rfl (x_inc _) (by decide) rfl (fun ls hl => ?_)
                refine lv_goto (tgt := 19) hx hb dX1_ways_44 (by decide) ?_
                exact ih_19 n199 (by omega) (j + 1) (updG G2 i j 0) (by omega) (by rw [← hfin_19]; simp [gRow, c_3, c_11, c_12]) _ _ hP hD hS _ (lv_sub hl [0, 1, 2, 3] rfl)
        exact lp_19 12 0 G1 (by omega) rfl _ _ hP hD hS _ (lv_sub hl [0, 1, 2, 3] rfl)
  exact lp_11 12 0 (fun _ _ => 0) (by omega) rfl _ _ hP hD hS _ (lv_sub hl [0, 1, 2] rfl)
set_option maxHeartbeats 4000000 in
set_option maxRecDepth 100000 in
theorem c_X1_shortest (l : Launch) (D : va_G) (t : Nat → ClassId) (b : Nat → Nat) (th : Int32) (tc rc : Nat) (F T : Nat → Nat) (L : Nat → Int32) (Z : Nat → Bool) (r : Nat) (sz : Nat) (htc : tc ≤ 12) (hrc : rc ≤ 30) (hF : ∀ r, r < rc → F r < tc ∧ T r < tc) (hr9 : r < rc) : Met l yX1_shortest wsX1_shortest ({ frames := 3, cells := 13, slots := 156, locals := 67 }) (xMu D (xTy t) (va_AOA .int) [.ref (b 0), .int (nI r)] [xMod b th tc rc, xArr (t 0) (b 1) 120 (mkM F T L Z)] sz) (xQm D (fun u : Unit => True) (fun u : Unit => some (.int (leastG (wayM F T L Z tc rc) (F r) (T r)))) [xMod b th tc rc, xArr (t 0) (b 1) 120 (mkM F T L Z)] (fun u : Unit => [xMod b th tc rc, xArr (t 0) (b 1) 120 (mkM F T L Z)]) sz) 13 156 (va_A [xMod b th tc rc, xArr (t 0) (b 1) 120 (mkM F T L Z)] sz) := by
  refine Met.ofW (cc := cX1_shortest) (maxL := 3) (ret := (some .int)) (by decide) rfl ?_
  intro p e s m args below meth c s₁ hB9 hml hv
  obtain ⟨rfl, hsz, hP, hK, hD0, hXX⟩ := hv
  have hx := hB9.exec
  have hb := hB9.bytes
  have hr := hB9.returns
  have hts := atoms_spec (ws := wsX1_shortest) hB9.pre
  have hown : s.vm.findClass RX1 = some m.cls := findClass_of_methodNamed hB9.named
  have hlocks := hB9.notSynchronized
  have hin : ∀ w ∈ wsX10, w ∈ wsX1_shortest := fun _ h => List.mem_cons_of_mem _ (List.mem_append_right _ h)
  have kc_50 := hts (.constant RX1 50 (99999)) (by decide +kernel)
  have ml_43 := hts (.methodLink RX1 43 Lib.Math.max.name) (by decide +kernel)
  have ms_max := hts (.static Lib.Math.max.name) (by decide +kernel)
  have mc_max := hts (.code Lib.Math.max.name Lib.Math.max.code 2 (some .int)) (by decide +kernel)
  have mi_Math := hts (.initialized "java/lang/Math") (by decide +kernel)
  subst hsz
  have hD := hD0.self (sz := s.heap.size)
  generalize hAe : va_A ([xMod b th tc rc, xArr (t 0) (b 1) 120 (mkM F T L Z)]) s.heap.size = A at hD ⊢
  have hA : ∀ q : Nat, s.heap.size ≤ q → A q := fun q h => by rw [← hAe]; exact Or.inr h
  have hS : va_S A s.heap s.heap [] := va_S.rf
  have hP : va_P D vwCl ([xMod b th tc rc, xArr (t 0) (b 1) 120 (mkM F T L Z)]) s.heap := hP
  have hD : va_D A ([xMod b th tc rc, xArr (t 0) (b 1) 120 (mkM F T L Z)]) := hD
  have hl := lv_entry ([.ref (b 0), .int (nI r)]) (n := 3) (Nat.le_of_ble_eq_true rfl)
  rw [lg_entry_eq]
  generalize (lg_sl ([.ref (b 0), .int (nI r)]) ++ List.replicate (3 - (lg_sl ([.ref (b 0), .int (nI r)])).length) Slot.unset).toArray = ls at hl ⊢
  have hl : lv_has ls 3 [(0, .ref (b 0)), (1, .int (nI r))] := hl
  refine lv_aload_n hx hb dX1_shortest_0 rfl (lv_at hl 0 rfl) ?_
  refine xm_V (b := b 0) (As := []) (rest := []) (wr := []) ⟨hx, hb, hml, hown, hts⟩ aoT (c_X1_ways l D t b th tc rc F T L Z _ (by omega) (by omega) hF) (cwV 0 hts gX1_shortest_X1_ways rfl rfl rfl hd_X1_ways ⟨Nat.le_of_ble_eq_true rfl, Nat.le_of_ble_eq_true rfl⟩) hK hP hD hS hA (fun U hW _ => va_AOA.moved hW.alike hXX) (va_recv hK hP (ci := 1) (q0 := 0) rfl rfl) [0, 1] [] rfl rfl (by decide) (by decide) (by decide) rfl hl.1 rfl (Nat.le_of_ble_eq_true rfl) dX1_shortest_1 ⟨(Nat.le_of_ble_eq_true rfl), (Nat.le_of_ble_eq_true rfl)⟩ (fun u_1 H locs hu hP hD hS hz => ?_)
  have hP : va_P D vwCl ([xMod b th tc rc, xArr (t 0) (b 1) 120 (mkM F T L Z), xGo (t 3) u_1.1 u_1.2] ++ xGr (t 0) u_1.2 (wayM F T L Z tc rc)) H := hP
  have hD : va_D _ ([xMod b th tc rc, xArr (t 0) (b 1) 120 (mkM F T L Z), xGo (t 3) u_1.1 u_1.2] ++ xGr (t 0) u_1.2 (wayM F T L Z tc rc)) := hD
  refine lv_aload_n hx hb dX1_shortest_4 rfl (lv_at hl 0 rfl) ?_
  refine lv_iload_n hx hb dX1_shortest_5 rfl (lv_at hl 1 rfl) ?_
  refine lv_iconst (v := 1) hx hb dX1_shortest_6 (by decide) ?_
  refine xr_V (b := b 0) (As := [.int (nI r), .int 1]) (rest := [.ref u_1.1]) ⟨hx, hb, hml, hown, hts⟩ (c_X1_ro l D t b th tc rc F T L Z r 1 (by omega) (Nat.le_of_ble_eq_true rfl)) (cwV 2 hts gX1_shortest_X1_ro rfl rfl rfl hd_X1_ro ⟨Nat.le_of_ble_eq_true rfl, Nat.le_of_ble_eq_true rfl⟩) hK hP (va_recv hK hP (ci := 1) (q0 := 0) rfl rfl) [0, 1] rfl rfl hl.1 rfl (Nat.le_of_ble_eq_true rfl) dX1_shortest_7 ⟨(Nat.le_of_ble_eq_true rfl), (Nat.le_of_ble_eq_true rfl)⟩ ?_
  refine x_top (w := nI (T r)) (mkM_1 _ _ _ _ r) ?_
  have := hF r (by omega)
  refine x_aald (v := u_1.2 (T r)) hx hb hK hP 2 3 rfl rfl (k := T r) (by omega) (Nat.le_of_ble_eq_true rfl) (if_pos (by omega)) dX1_shortest_10 ?_
  refine lv_aload_n hx hb dX1_shortest_11 rfl (lv_at hl 0 rfl) ?_
  refine lv_iload_n hx hb dX1_shortest_12 rfl (lv_at hl 1 rfl) ?_
  refine lv_iconst (v := 0) hx hb dX1_shortest_13 (by decide) ?_
  refine xr_V (b := b 0) (As := [.int (nI r), .int 0]) (rest := [.ref (u_1.2 (T r))]) ⟨hx, hb, hml, hown, hts⟩ (c_X1_ro l D t b th tc rc F T L Z r 0 (by omega) (Nat.le_of_ble_eq_true rfl)) (cwV 2 hts gX1_shortest_X1_ro rfl rfl rfl hd_X1_ro ⟨Nat.le_of_ble_eq_true rfl, Nat.le_of_ble_eq_true rfl⟩) hK hP (va_recv hK hP (ci := 1) (q0 := 0) rfl rfl) [0, 1] rfl rfl hl.1 rfl (Nat.le_of_ble_eq_true rfl) dX1_shortest_14 ⟨(Nat.le_of_ble_eq_true rfl), (Nat.le_of_ble_eq_true rfl)⟩ ?_
  refine x_top (w := nI (F r)) (mkM_0 _ _ _ _ r) ?_
  have := hF r (by omega)
  refine x_gld (M := wayM F T L Z tc rc) (i := (T r)) (j := F r) hx hb hK hP 0 rfl (by omega) (by omega) dX1_shortest_17 ?_
  refine lv_istore_n (lv' := [(2, .int ((wayM F T L Z tc rc) (T r) (F r))), (0, .ref (b 0)), (1, .int (nI r))]) hx hb dX1_shortest_18 rfl hl (by decide) rfl (fun ls hl => ?_)
  refine lv_iload_n hx hb dX1_shortest_19 rfl (lv_at hl 0 rfl) ?_
  refine lv_ldc (v := 99999) hx hb hown kc_50 dX1_shortest_20 ?_
  refine lv_icmp_ne (x := (wayM F T L Z tc rc) (T r) (F r)) (y := 99999) (tgt := 30) hx hb dX1_shortest_22 (by decide) (fun c_2 => ?_) (fun c_2 => ?_)
  · refine lv_bipush (v := (-99)) hx hb dX1_shortest_30 (by decide) ?_
    refine lv_iload_n hx hb dX1_shortest_32 rfl (lv_at hl 0 rfl) ?_
    refine lv_ineg hx hb dX1_shortest_33 ?_
    refine va_mmax (x := (-99)) (y := -((wayM F T L Z tc rc) (T r) (F r))) hx hb (hml.trans hl.1.symm) hown ml_43 ms_max mi_Math mc_max (Nat.le_of_ble_eq_true rfl) (Nat.le_of_ble_eq_true rfl) (Nat.le_of_ble_eq_true rfl) (Nat.le_of_ble_eq_true rfl) dX1_shortest_34 ?_
    refine x_top (w := mxI (-99) (-((wayM F T L Z tc rc) (T r) (F r)))) rfl ?_
    have hP : va_P D vwCl ([xMod b th tc rc, xArr (t 0) (b 1) 120 (mkM F T L Z)]) H := hP.sub [0, 1] rfl
    have hD : va_D _ ([xMod b th tc rc, xArr (t 0) (b 1) 120 (mkM F T L Z)]) := hD.sub [0, 1] (by decide) rfl
    subst hAe
    obtain ⟨hq9, hf9⟩ := xm_end (S := Unit) (pu := (fun u : Unit => True)) (r := (fun u : Unit => some (.int (leastG (wayM F T L Z tc rc) (F r) (T r))))) (wc := [xMod b th tc rc, xArr (t 0) (b 1) 120 (mkM F T L Z)]) (w1 := (fun u : Unit => [xMod b th tc rc, xArr (t 0) (b 1) 120 (mkM F T L Z)])) (o := some (.int (mxI (-99) (-((wayM F T L Z tc rc) (T r) (F r)))))) (args := ([.ref (b 0), .int (nI r)] : List Value).toArray) () rfl trivial (by simp [leastG, c_2]) hP hD hS
    exact W.iret hx hb hr hq9 hf9 dX1_shortest_37 hlocks
  · refine lv_bipush (v := (-99)) hx hb dX1_shortest_25 (by decide) ?_
    refine lv_goto (tgt := 37) hx hb dX1_shortest_27 (by decide) ?_
    have hP : va_P D vwCl ([xMod b th tc rc, xArr (t 0) (b 1) 120 (mkM F T L Z)]) H := hP.sub [0, 1] rfl
    have hD : va_D _ ([xMod b th tc rc, xArr (t 0) (b 1) 120 (mkM F T L Z)]) := hD.sub [0, 1] (by decide) rfl
    subst hAe
    obtain ⟨hq9, hf9⟩ := xm_end (S := Unit) (pu := (fun u : Unit => True)) (r := (fun u : Unit => some (.int (leastG (wayM F T L Z tc rc) (F r) (T r))))) (wc := [xMod b th tc rc, xArr (t 0) (b 1) 120 (mkM F T L Z)]) (w1 := (fun u : Unit => [xMod b th tc rc, xArr (t 0) (b 1) 120 (mkM F T L Z)])) (o := some (.int (-99))) (args := ([.ref (b 0), .int (nI r)] : List Value).toArray) () rfl trivial (by simp [leastG, c_2]) hP hD hS
    exact W.iret hx hb hr hq9 hf9 dX1_shortest_37 hlocks
set_option maxHeartbeats 4000000 in
set_option maxRecDepth 100000 in
theorem c_X1_ring (l : Launch) (D : va_G) (t : Nat → ClassId) (b : Nat → Nat) (th : Int32) (tc rc : Nat) (F T : Nat → Nat) (L : Nat → Int32) (Z : Nat → Bool) (sz : Nat) (htc : tc ≤ 12) (hrc : rc ≤ 30) (hF : ∀ r, r < rc → F r < tc ∧ T r < tc) : Met l yX1_ring wsX1_ring ({ frames := 2, cells := 156, slots := 1872, locals := 43 }) (xMu D (xTy t) (va_AOA .int) [.ref (b 0)] [xMod b th tc rc, xArr (t 0) (b 1) 120 (mkM F T L Z)] sz) (xQm D (fun u : Unit => True) (fun u : Unit => some (.int (nI (ringM F T L Z tc rc)))) [xMod b th tc rc, xArr (t 0) (b 1) 120 (mkM F T L Z)] (fun u : Unit => [xMod b th tc rc, xArr (t 0) (b 1) 120 (mkM F T L Z)]) sz) 156 1872 (va_A [xMod b th tc rc, xArr (t 0) (b 1) 120 (mkM F T L Z)] sz) := by
  refine Met.ofW (cc := cX1_ring) (maxL := 7) (ret := (some .int)) (by decide) rfl ?_
  intro p e s m args below meth c s₁ hB9 hml hv
  obtain ⟨rfl, hsz, hP, hK, hD0, hXX⟩ := hv
  have hx := hB9.exec
  have hb := hB9.bytes
  have hr := hB9.returns
  have hts := atoms_spec (ws := wsX1_ring) hB9.pre
  have hown : s.vm.findClass RX1 = some m.cls := findClass_of_methodNamed hB9.named
  have hlocks := hB9.notSynchronized
  have hin : ∀ w ∈ wsX10, w ∈ wsX1_ring := fun _ h => List.mem_cons_of_mem _ (List.mem_append_right _ h)
  have fl_17 := hts (.fieldLink RX1 17 "RopeTimesModel" "turns" "I") (by decide +kernel)
  have kc_50 := hts (.constant RX1 50 (99999)) (by decide +kernel)
  have fl_24 := hts (.fieldLink RX1 24 "RopeTimesModel" "ropes" "I") (by decide +kernel)
  have ml_51 := hts (.methodLink RX1 51 Lib.Math.min.name) (by decide +kernel)
  have ms_min := hts (.static Lib.Math.min.name) (by decide +kernel)
  have mc_min := hts (.code Lib.Math.min.name Lib.Math.min.code 2 (some .int)) (by decide +kernel)
  have mi_Math := hts (.initialized "java/lang/Math") (by decide +kernel)
  subst hsz
  have hD := hD0.self (sz := s.heap.size)
  generalize hAe : va_A ([xMod b th tc rc, xArr (t 0) (b 1) 120 (mkM F T L Z)]) s.heap.size = A at hD ⊢
  have hA : ∀ q : Nat, s.heap.size ≤ q → A q := fun q h => by rw [← hAe]; exact Or.inr h
  have hS : va_S A s.heap s.heap [] := va_S.rf
  have hP : va_P D vwCl ([xMod b th tc rc, xArr (t 0) (b 1) 120 (mkM F T L Z)]) s.heap := hP
  have hD : va_D A ([xMod b th tc rc, xArr (t 0) (b 1) 120 (mkM F T L Z)]) := hD
  have hl := lv_entry ([.ref (b 0)]) (n := 7) (Nat.le_of_ble_eq_true rfl)
  rw [lg_entry_eq]
  generalize (lg_sl ([.ref (b 0)]) ++ List.replicate (7 - (lg_sl ([.ref (b 0)])).length) Slot.unset).toArray = ls at hl ⊢
  have hl : lv_has ls 7 [(0, .ref (b 0))] := hl
  refine lv_iconst (v := 0) hx hb dX1_ring_0 (by decide) ?_
  refine lv_istore_n (lv' := [(1, .int 0), (0, .ref (b 0))]) hx hb dX1_ring_1 rfl hl (by decide) rfl (fun ls hl => ?_)
  refine lv_iconst (v := 0) hx hb dX1_ring_2 (by decide) ?_
  refine lv_istore_n (lv' := [(2, .int 0), (1, .int 0), (0, .ref (b 0))]) hx hb dX1_ring_3 rfl hl (by decide) rfl (fun ls hl => ?_)
  have lp_4 : ∀ (n4 : Nat) (st : Nat) (bo : Nat), st + n4 = tc → bo ≤ 13 → rgA F T L Z tc rc n4 st bo = rgA F T L Z tc rc tc 0 0 → ∀ (H : Heap) (locs : List Loc), va_P D vwCl ([xMod b th tc rc, xArr (t 0) (b 1) 120 (mkM F T L Z)]) H → va_D A ([xMod b th tc rc, xArr (t 0) (b 1) 120 (mkM F T L Z)]) → va_S A s.heap H locs → ∀ ls : Array Slot, lv_has ls 7 [(2, .int (nI st)), (1, .int (nI bo)), (0, .ref (b 0))] → W p l e (headSpec wsX1_ring ({ frames := 2, cells := 156, slots := 1872, locals := 43 } : Jvm.Room)).room s m (([.ref (b 0)] : List Value).toArray) below meth c H locs (13 * st) (156 * st) (MQ below (xQm D (fun u : Unit => True) (fun u : Unit => some (.int (nI (ringM F T L Z tc rc)))) [xMod b th tc rc, xArr (t 0) (b 1) 120 (mkM F T L Z)] (fun u : Unit => [xMod b th tc rc, xArr (t 0) (b 1) 120 (mkM F T L Z)]) s.heap.size) (([.ref (b 0)] : List Value).toArray) s 156 1872 A) (F0 m 4 ls []) := by
    intro n4
    induction n4 using Nat.strongRecOn with
    | _ n4 ih_4 =>
      intro st bo hm_4 hp0_4 hfin_4 H locs hP hD hS ls hl
      refine lv_iload_n hx hb dX1_ring_4 rfl (lv_at hl 0 rfl) ?_
      refine lv_aload_n hx hb dX1_ring_5 rfl (lv_at hl 2 rfl) ?_
      refine x1_get (v := .int (nI tc)) hx hb hts hin hown hK hP 0 rfl 1 (by decide) fl_17 rfl dX1_ring_6 rfl ?_
      refine lv_icmp_ge (x := nI st) (y := nI tc) (tgt := 205) hx hb dX1_ring_9 (by decide) (fun c_1 => ?_) (fun c_1 => ?_)
      · have c_1 := (nI_leI (a := tc) (b := st) (by omega) (by omega)).mp c_1
        have hn0_4 : n4 = 0 := by omega
        subst hn0_4
        obtain rfl : bo = rgA F T L Z tc rc tc 0 0 := hfin_4
        refine lv_iload_n hx hb dX1_ring_205 rfl (lv_at hl 1 rfl) ?_
        subst hAe
        refine W.widen (k := 156) (n := 1872) (by omega) (by omega) ?_
        obtain ⟨hq9, hf9⟩ := xm_end (S := Unit) (pu := (fun u : Unit => True)) (r := (fun u : Unit => some (.int (nI (ringM F T L Z tc rc))))) (wc := [xMod b th tc rc, xArr (t 0) (b 1) 120 (mkM F T L Z)]) (w1 := (fun u : Unit => [xMod b th tc rc, xArr (t 0) (b 1) 120 (mkM F T L Z)])) (o := some (.int (nI (rgA F T L Z tc rc tc 0 0)))) (args := ([.ref (b 0)] : List Value).toArray) () rfl trivial rfl hP hD hS
        exact W.iret hx hb hr hq9 hf9 dX1_ring_206 hlocks
      · have c_1 : st < tc := Nat.lt_of_not_le (fun z9 => c_1 ((nI_leI (a := tc) (b := st) (by omega) (by omega)).mpr z9))
        obtain ⟨n49, rfl⟩ : ∃ z, n4 = z + 1 := ⟨n4 - 1, by omega⟩
        refine lv_bipush (v := 12) hx hb dX1_ring_12 (by decide) ?_
        refine x_newa (atype := .int) (ty := .int) (a0 := (12, .inl (fun _ => 0))) (n := 12) (N' := 12) (cT := t 0) hx hb (hts (.arrayClass .int) (by decide +kernel)) rfl 0 rfl (by intro C h; cases h) hK hP hD hS hA (fun _ => rfl) (by decide) (by decide) (Nat.le_of_ble_eq_true rfl) (by show _ ≤ 156; omega) (by show _ ≤ 1872; omega) dX1_ring_14 (fun q_2 H hP hD hS => ?_)
        have hP : va_P D vwCl ([xMod b th tc rc, xArr (t 0) (b 1) 120 (mkM F T L Z), xArr (t 0) q_2 12 (fun _ => 0)]) H := hP
        have hD : va_D _ ([xMod b th tc rc, xArr (t 0) (b 1) 120 (mkM F T L Z), xArr (t 0) q_2 12 (fun _ => 0)]) := hD
        refine lv_astore_n (lv' := [(3, .ref q_2), (2, .int (nI st)), (1, .int (nI bo)), (0, .ref (b 0))]) hx hb dX1_ring_16 rfl hl (by decide) rfl (fun ls hl => ?_)
        refine lv_iconst (v := 0) hx hb dX1_ring_17 (by decide) ?_
        refine lv_istore (lv' := [(4, .int 0), (3, .ref q_2), (2, .int (nI st)), (1, .int (nI bo)), (0, .ref (b 0))]) hx hb dX1_ring_18 hl (by decide) rfl (fun ls hl => ?_)
        have lp_20 : ∀ (n20 : Nat) (i : Nat) (S0 : Nat → Int32), i + n20 = 12 → rgS st n20 i S0 = rgS st 12 0 (fun _ => 0) → ∀ (H : Heap) (locs : List Loc), va_P D vwCl ([xMod b th tc rc, xArr (t 0) (b 1) 120 (mkM F T L Z), xArr (t 0) q_2 12 S0]) H → va_D A ([xMod b th tc rc, xArr (t 0) (b 1) 120 (mkM F T L Z), xArr (t 0) q_2 12 S0]) → va_S A s.heap H locs → ∀ ls : Array Slot, lv_has ls 7 [(4, .int (nI i)), (3, .ref q_2), (2, .int (nI st)), (1, .int (nI bo)), (0, .ref (b 0))] → W p l e (headSpec wsX1_ring ({ frames := 2, cells := 156, slots := 1872, locals := 43 } : Jvm.Room)).room s m (([.ref (b 0)] : List Value).toArray) below meth c H locs (13 * st + 1) (156 * st + 12) (MQ below (xQm D (fun u : Unit => True) (fun u : Unit => some (.int (nI (ringM F T L Z tc rc)))) [xMod b th tc rc, xArr (t 0) (b 1) 120 (mkM F T L Z)] (fun u : Unit => [xMod b th tc rc, xArr (t 0) (b 1) 120 (mkM F T L Z)]) s.heap.size) (([.ref (b 0)] : List Value).toArray) s 156 1872 A) (F0 m 20 ls []) := by
          intro n20
          induction n20 using Nat.strongRecOn with
          | _ n20 ih_20 =>
            intro i S0 hm_20 hfin_20 H locs hP hD hS ls hl
            refine lv_iload hx hb dX1_ring_20 (lv_at hl 0 rfl) ?_
            refine lv_bipush (v := 12) hx hb dX1_ring_22 (by decide) ?_
            refine lv_icmp_ge (x := nI i) (y := 12) (tgt := 49) hx hb dX1_ring_24 (by decide) (fun c_3 => ?_) (fun c_3 => ?_)
            · have c_3 := (nI_leI (a := 12) (b := i) (by omega) (by omega)).mp c_3
              have hn0_20 : n20 = 0 := by omega
              subst hn0_20
              obtain rfl : S0 = rgS st 12 0 (fun _ => 0) := hfin_20
              refine lv_iconst (v := 1) hx hb dX1_ring_49 (by decide) ?_
              refine lv_istore (lv' := [(4, .int 1), (3, .ref q_2), (2, .int (nI st)), (1, .int (nI bo)), (0, .ref (b 0))]) hx hb dX1_ring_50 hl (by decide) rfl (fun ls hl => ?_)
              have lp_52 : ∀ (n52 : Nat) (k : Nat) (best : Nat) (S1 : Nat → Int32) (sq : Nat), k + n52 = tc + 1 → best ≤ 13 → rgM F T L Z rc st n52 k best S1 = rgM F T L Z rc st tc 1 bo (rgS st 12 0 (fun _ => 0)) → ∀ (H : Heap) (locs : List Loc), va_P D vwCl ([xMod b th tc rc, xArr (t 0) (b 1) 120 (mkM F T L Z), xArr (t 0) sq 12 S1]) H → va_D A ([xMod b th tc rc, xArr (t 0) (b 1) 120 (mkM F T L Z), xArr (t 0) sq 12 S1]) → va_S A s.heap H locs → ∀ ls : Array Slot, lv_has ls 7 [(4, .int (nI k)), (3, .ref sq), (2, .int (nI st)), (1, .int (nI best)), (0, .ref (b 0))] → W p l e (headSpec wsX1_ring ({ frames := 2, cells := 156, slots := 1872, locals := 43 } : Jvm.Room)).room s m (([.ref (b 0)] : List Value).toArray) below meth c H locs (13 * st + k) (156 * st + 12 * k) (MQ below (xQm D (fun u : Unit => True) (fun u : Unit => some (.int (nI (ringM F T L Z tc rc)))) [xMod b th tc rc, xArr (t 0) (b 1) 120 (mkM F T L Z)] (fun u : Unit => [xMod b th tc rc, xArr (t 0) (b 1) 120 (mkM F T L Z)]) s.heap.size) (([.ref (b 0)] : List Value).toArray) s 156 1872 A) (F0 m 52 ls []) := by
                intro n52
                induction n52 using Nat.strongRecOn with
                | _ n52 ih_52 =>
                  intro k best S1 sq hm_52 hp0_52 hfin_52 H locs hP hD hS ls hl
                  refine lv_iload hx hb dX1_ring_52 (lv_at hl 0 rfl) ?_
                  refine lv_aload_n hx hb dX1_ring_54 rfl (lv_at hl 4 rfl) ?_
                  refine x1_get (v := .int (nI tc)) hx hb hts hin hown hK hP 0 rfl 1 (by decide) fl_17 rfl dX1_ring_55 rfl ?_
                  refine lv_icmp_gt (x := nI k) (y := nI tc) (tgt := 199) hx hb dX1_ring_58 (by decide) (fun c_4 => ?_) (fun c_4 => ?_)
                  · have c_4 := (nI_ltI (a := tc) (b := k) (by omega) (by omega)).mp c_4
                    have hn0_52 : n52 = 0 := by omega
                    subst hn0_52
                    obtain rfl : best = rgM F T L Z rc st tc 1 bo (rgS st 12 0 (fun _ => 0)) := hfin_52
                    have hP : va_P D vwCl ([xMod b th tc rc, xArr (t 0) (b 1) 120 (mkM F T L Z)]) H := hP.sub [0, 1] rfl
                    have hD : va_D _ ([xMod b th tc rc, xArr (t 0) (b 1) 120 (mkM F T L Z)]) := hD.sub [0, 1] (by decide) rfl
                    refine lv_iinc (v := nI (st + 1)) (lv' := [(2, .int (nI (st + 1))), (4, .int (nI k)), (3, .ref sq), (1, .int (nI (rgM F T L Z rc st tc 1 bo (rgS st 12 0 (fun _ => 0))))), (0, .ref (b 0))]) hx hb dX1_ring_199 hl (k := 2) rfl (x_inc _) (by decide) rfl (fun ls hl => ?_)
                    refine lv_goto (tgt := 4) hx hb dX1_ring_202 (by decide) ?_
                    refine W.widen (k := 13 * (st + 1)) (n := 156 * (st + 1)) (by omega) (by omega) ?_
                    exact ih_4 n49 (by omega) (st + 1) (rgM F T L Z rc st tc 1 bo (rgS st 12 0 (fun _ => 0))) (by omega) (by omega) (by rw [← hfin_4]; rfl) _ _ hP hD hS _ (lv_sub hl [0, 3, 4] rfl)
                  · have c_4 : k ≤ tc := Nat.le_of_not_lt (fun z9 => c_4 ((nI_ltI (a := tc) (b := k) (by omega) (by omega)).mpr z9))
                    obtain ⟨n529, rfl⟩ : ∃ z, n52 = z + 1 := ⟨n52 - 1, by omega⟩
                    refine lv_iload_n hx hb dX1_ring_61 rfl (lv_at hl 3 rfl) ?_
                    refine lv_if_eq (x := nI best) (tgt := 71) hx hb dX1_ring_62 (by decide) (fun c_5 => ?_) (fun c_5 => ?_)
                    · have c_5 := (nI_eq (a := best) (b := 0) (by omega) (by omega)).mp c_5
                      refine lv_bipush (v := 12) hx hb dX1_ring_71 (by decide) ?_
                      refine x_newa (atype := .int) (ty := .int) (a0 := (12, .inl (fun _ => 0))) (n := 12) (N' := 12) (cT := t 0) hx hb (hts (.arrayClass .int) (by decide +kernel)) rfl 0 rfl (by intro C h; cases h) hK hP hD hS hA (fun _ => rfl) (by decide) (by decide) (Nat.le_of_ble_eq_true rfl) (by show _ ≤ 156; omega) (by show _ ≤ 1872; omega) dX1_ring_73 (fun q_6 H hP hD hS => ?_)
                      have hP : va_P D vwCl ([xMod b th tc rc, xArr (t 0) (b 1) 120 (mkM F T L Z), xArr (t 0) sq 12 S1, xArr (t 0) q_6 12 (fun _ => 0)]) H := hP
                      have hD : va_D _ ([xMod b th tc rc, xArr (t 0) (b 1) 120 (mkM F T L Z), xArr (t 0) sq 12 S1, xArr (t 0) q_6 12 (fun _ => 0)]) := hD
                      refine lv_astore (lv' := [(5, .ref q_6), (4, .int (nI k)), (3, .ref sq), (2, .int (nI st)), (1, .int (nI best)), (0, .ref (b 0))]) hx hb dX1_ring_75 hl (by decide) rfl (fun ls hl => ?_)
                      refine lv_iconst (v := 0) hx hb dX1_ring_77 (by decide) ?_
                      refine lv_istore (lv' := [(6, .int 0), (5, .ref q_6), (4, .int (nI k)), (3, .ref sq), (2, .int (nI st)), (1, .int (nI best)), (0, .ref (b 0))]) hx hb dX1_ring_78 hl (by decide) rfl (fun ls hl => ?_)
                      have lp_80 : ∀ (n80 : Nat) (i : Nat) (N0 : Nat → Int32), i + n80 = 12 → fillF 99999 n80 i N0 = fillF 99999 12 0 (fun _ => 0) → ∀ (H : Heap) (locs : List Loc), va_P D vwCl ([xMod b th tc rc, xArr (t 0) (b 1) 120 (mkM F T L Z), xArr (t 0) sq 12 S1, xArr (t 0) q_6 12 N0]) H → va_D A ([xMod b th tc rc, xArr (t 0) (b 1) 120 (mkM F T L Z), xArr (t 0) sq 12 S1, xArr (t 0) q_6 12 N0]) → va_S A s.heap H locs → ∀ ls : Array Slot, lv_has ls 7 [(6, .int (nI i)), (5, .ref q_6), (4, .int (nI k)), (3, .ref sq), (2, .int (nI st)), (1, .int (nI best)), (0, .ref (b 0))] → W p l e (headSpec wsX1_ring ({ frames := 2, cells := 156, slots := 1872, locals := 43 } : Jvm.Room)).room s m (([.ref (b 0)] : List Value).toArray) below meth c H locs (13 * st + k + 1) (156 * st + 12 * k + 12) (MQ below (xQm D (fun u : Unit => True) (fun u : Unit => some (.int (nI (ringM F T L Z tc rc)))) [xMod b th tc rc, xArr (t 0) (b 1) 120 (mkM F T L Z)] (fun u : Unit => [xMod b th tc rc, xArr (t 0) (b 1) 120 (mkM F T L Z)]) s.heap.size) (([.ref (b 0)] : List Value).toArray) s 156 1872 A) (F0 m 80 ls []) := by
                        intro n80
                        induction n80 using Nat.strongRecOn with
                        | _ n80 ih_80 =>
                          intro i N0 hm_80 hfin_80 H locs hP hD hS ls hl
                          refine lv_iload hx hb dX1_ring_80 (lv_at hl 0 rfl) ?_
                          refine lv_bipush (v := 12) hx hb dX1_ring_82 (by decide) ?_
                          refine lv_icmp_ge (x := nI i) (y := 12) (tgt := 100) hx hb dX1_ring_84 (by decide) (fun c_7 => ?_) (fun c_7 => ?_)
                          · have c_7 := (nI_leI (a := 12) (b := i) (by omega) (by omega)).mp c_7
                            have hn0_80 : n80 = 0 := by omega
                            subst hn0_80
                            obtain rfl : N0 = fillF 99999 12 0 (fun _ => 0) := hfin_80
                            refine lv_iconst (v := 0) hx hb dX1_ring_100 (by decide) ?_
                            refine lv_istore (lv' := [(6, .int 0), (5, .ref q_6), (4, .int (nI k)), (3, .ref sq), (2, .int (nI st)), (1, .int (nI best)), (0, .ref (b 0))]) hx hb dX1_ring_101 hl (by decide) rfl (fun ls hl => ?_)
                            have lp_103 : ∀ (n103 : Nat) (r : Nat) (N1 : Nat → Int32), r + n103 = rc → goW F T L Z S1 n103 r N1 = goW F T L Z S1 rc 0 (fillF 99999 12 0 (fun _ => 0)) → ∀ (H : Heap) (locs : List Loc), va_P D vwCl ([xMod b th tc rc, xArr (t 0) (b 1) 120 (mkM F T L Z), xArr (t 0) sq 12 S1, xArr (t 0) q_6 12 N1]) H → va_D A ([xMod b th tc rc, xArr (t 0) (b 1) 120 (mkM F T L Z), xArr (t 0) sq 12 S1, xArr (t 0) q_6 12 N1]) → va_S A s.heap H locs → ∀ ls : Array Slot, lv_has ls 7 [(6, .int (nI r)), (5, .ref q_6), (4, .int (nI k)), (3, .ref sq), (2, .int (nI st)), (1, .int (nI best)), (0, .ref (b 0))] → W p l e (headSpec wsX1_ring ({ frames := 2, cells := 156, slots := 1872, locals := 43 } : Jvm.Room)).room s m (([.ref (b 0)] : List Value).toArray) below meth c H locs (13 * st + k + 1) (156 * st + 12 * k + 12) (MQ below (xQm D (fun u : Unit => True) (fun u : Unit => some (.int (nI (ringM F T L Z tc rc)))) [xMod b th tc rc, xArr (t 0) (b 1) 120 (mkM F T L Z)] (fun u : Unit => [xMod b th tc rc, xArr (t 0) (b 1) 120 (mkM F T L Z)]) s.heap.size) (([.ref (b 0)] : List Value).toArray) s 156 1872 A) (F0 m 103 ls []) := by
                              intro n103
                              induction n103 using Nat.strongRecOn with
                              | _ n103 ih_103 =>
                                intro r N1 hm_103 hfin_103 H locs hP hD hS ls hl
                                refine lv_iload hx hb dX1_ring_103 (lv_at hl 0 rfl) ?_
                                refine lv_aload_n hx hb dX1_ring_105 rfl (lv_at hl 6 rfl) ?_
                                refine x1_get (v := .int (nI rc)) hx hb hts hin hown hK hP 0 rfl 2 (by decide) fl_24 rfl dX1_ring_106 rfl ?_
                                refine lv_icmp_ge (x := nI r) (y := nI rc) (tgt := 181) hx hb dX1_ring_109 (by decide) (fun c_8 => ?_) (fun c_8 => ?_)
                                · have c_8 := (nI_leI (a := rc) (b := r) (by omega) (by omega)).mp c_8
                                  have hn0_103 : n103 = 0 := by omega
                                  subst hn0_103
                                  obtain rfl : N1 = goW F T L Z S1 rc 0 (fillF 99999 12 0 (fun _ => 0)) := hfin_103
                                  refine lv_aload hx hb dX1_ring_181 (lv_at hl 1 rfl) ?_
                                  refine lv_astore_n (lv' := [(3, .ref q_6), (6, .int (nI r)), (5, .ref q_6), (4, .int (nI k)), (2, .int (nI st)), (1, .int (nI best)), (0, .ref (b 0))]) hx hb dX1_ring_183 rfl hl (by decide) rfl (fun ls hl => ?_)
                                  have hP : va_P D vwCl ([xMod b th tc rc, xArr (t 0) (b 1) 120 (mkM F T L Z), xArr (t 0) q_6 12 (goW F T L Z S1 rc 0 (fillF 99999 12 0 (fun _ => 0)))]) H := hP.sub [0, 1, 3] rfl
                                  have hD : va_D _ ([xMod b th tc rc, xArr (t 0) (b 1) 120 (mkM F T L Z), xArr (t 0) q_6 12 (goW F T L Z S1 rc 0 (fillF 99999 12 0 (fun _ => 0)))]) := hD.sub [0, 1, 3] (by decide) rfl
                                  refine lv_aload_n hx hb dX1_ring_184 rfl (lv_at hl 0 rfl) ?_
                                  refine lv_iload_n hx hb dX1_ring_185 rfl (lv_at hl 4 rfl) ?_
                                  refine x_iald (f := goW F T L Z S1 rc 0 (fillF 99999 12 0 (fun _ => 0))) hx hb hK hP 2 0 rfl rfl (k := st) (by omega) (Nat.le_of_ble_eq_true rfl) dX1_ring_186 ?_
                                  refine lv_if_ge (x := (goW F T L Z S1 rc 0 (fillF 99999 12 0 (fun _ => 0))) st) (tgt := 193) hx hb dX1_ring_187 (by decide) (fun c_9 => ?_) (fun c_9 => ?_)
                                  · have c_9 := Int32.not_lt.mpr c_9
                                    refine lv_iinc (v := nI (k + 1)) (lv' := [(4, .int (nI (k + 1))), (3, .ref q_6), (6, .int (nI r)), (5, .ref q_6), (2, .int (nI st)), (1, .int (nI best)), (0, .ref (b 0))]) hx hb dX1_ring_193 hl (k := 3) rfl (x_inc _) (by decide) rfl (fun ls hl => ?_)
                                    refine lv_goto (tgt := 52) hx hb dX1_ring_196 (by decide) ?_
                                    refine W.widen (k := 13 * st + (k + 1)) (n := 156 * st + 12 * (k + 1)) (by omega) (by omega) ?_
                                    exact ih_52 n529 (by omega) (k + 1) best (goW F T L Z S1 rc 0 (fillF 99999 12 0 (fun _ => 0))) q_6 (by omega) (by omega) (by rw [← hfin_52]; simp [rgM, rgN, c_1, c_3, Nat.not_lt.mpr c_3, c_4, Nat.not_lt.mpr c_4, c_5, c_7, Nat.not_lt.mpr c_7, c_8, Nat.not_lt.mpr c_8, c_9]) _ _ hP hD hS _ (lv_sub hl [0, 1, 4, 5, 6] rfl)
                                  · have c_9 := Int32.not_le.mp c_9
                                    refine lv_iload hx hb dX1_ring_190 (lv_at hl 3 rfl) ?_
                                    refine lv_istore_n (lv' := [(1, .int (nI k)), (3, .ref q_6), (6, .int (nI r)), (5, .ref q_6), (4, .int (nI k)), (2, .int (nI st)), (0, .ref (b 0))]) hx hb dX1_ring_192 rfl hl (by decide) rfl (fun ls hl => ?_)
                                    refine lv_iinc (v := nI (k + 1)) (lv' := [(4, .int (nI (k + 1))), (1, .int (nI k)), (3, .ref q_6), (6, .int (nI r)), (5, .ref q_6), (2, .int (nI st)), (0, .ref (b 0))]) hx hb dX1_ring_193 hl (k := 4) rfl (x_inc _) (by decide) rfl (fun ls hl => ?_)
                                    refine lv_goto (tgt := 52) hx hb dX1_ring_196 (by decide) ?_
                                    refine W.widen (k := 13 * st + (k + 1)) (n := 156 * st + 12 * (k + 1)) (by omega) (by omega) ?_
                                    exact ih_52 n529 (by omega) (k + 1) k (goW F T L Z S1 rc 0 (fillF 99999 12 0 (fun _ => 0))) q_6 (by omega) (by omega) (by rw [← hfin_52]; simp [rgM, rgN, c_1, c_3, Nat.not_lt.mpr c_3, c_4, Nat.not_lt.mpr c_4, c_5, c_7, Nat.not_lt.mpr c_7, c_8, Nat.not_lt.mpr c_8, c_9]) _ _ hP hD hS _ (lv_sub hl [0, 2, 5, 1, 6] rfl)
                                · have c_8 : r < rc := Nat.lt_of_not_le (fun z9 => c_8 ((nI_leI (a := rc) (b := r) (by omega) (by omega)).mpr z9))
                                  obtain ⟨n1039, rfl⟩ : ∃ z, n103 = z + 1 := ⟨n103 - 1, by omega⟩
                                  refine lv_aload_n hx hb dX1_ring_112 rfl (lv_at hl 6 rfl) ?_
                                  refine lv_iload hx hb dX1_ring_113 (lv_at hl 0 rfl) ?_
                                  refine xr_V (b := b 0) (As := [.int (nI r)]) (rest := []) ⟨hx, hb, hml, hown, hts⟩ (c_X1_isTied l D t b th tc rc F T L Z r (by omega)) (cwV 1 hts gX1_ring_X1_isTied rfl rfl rfl hd_X1_isTied ⟨Nat.le_of_ble_eq_true rfl, Nat.le_of_ble_eq_true rfl⟩) hK hP (va_recv hK hP (ci := 1) (q0 := 0) rfl rfl) [0, 1] rfl rfl hl.1 rfl (Nat.le_of_ble_eq_true rfl) dX1_ring_115 ⟨(by show _ ≤ 156; omega), (by show _ ≤ 1872; omega)⟩ ?_
                                  refine lv_if_eq (x := bI (Z r)) (tgt := 175) hx hb dX1_ring_118 (by decide) (fun c_10 => ?_) (fun c_10 => ?_)
                                  · have c_10 := bI_0 c_10
                                    refine lv_iinc (v := nI (r + 1)) (lv' := [(6, .int (nI (r + 1))), (5, .ref q_6), (4, .int (nI k)), (3, .ref sq), (2, .int (nI st)), (1, .int (nI best)), (0, .ref (b 0))]) hx hb dX1_ring_175 hl (k := 0) rfl (x_inc _) (by decide) rfl (fun ls hl => ?_)
                                    refine lv_goto (tgt := 103) hx hb dX1_ring_178 (by decide) ?_
                                    exact ih_103 n1039 (by omega) (r + 1) N1 (by omega) (by rw [← hfin_103]; simp [goW, c_1, c_3, Nat.not_lt.mpr c_3, c_4, Nat.not_lt.mpr c_4, c_5, c_7, Nat.not_lt.mpr c_7, c_8, c_10]) _ _ hP hD hS _ (lv_sub hl [0, 1, 2, 3, 4, 5, 6] rfl)
                                  · have c_10 := bI_n0 c_10
                                    refine lv_aload_n hx hb dX1_ring_121 rfl (lv_at hl 3 rfl) ?_
                                    refine lv_aload_n hx hb dX1_ring_122 rfl (lv_at hl 6 rfl) ?_
                                    refine lv_iload hx hb dX1_ring_123 (lv_at hl 0 rfl) ?_
                                    refine lv_iconst (v := 0) hx hb dX1_ring_125 (by decide) ?_
                                    refine xr_V (b := b 0) (As := [.int (nI r), .int 0]) (rest := [.ref sq]) ⟨hx, hb, hml, hown, hts⟩ (c_X1_ro l D t b th tc rc F T L Z r 0 (by omega) (Nat.le_of_ble_eq_true rfl)) (cwV 2 hts gX1_ring_X1_ro rfl rfl rfl hd_X1_ro ⟨Nat.le_of_ble_eq_true rfl, Nat.le_of_ble_eq_true rfl⟩) hK hP (va_recv hK hP (ci := 1) (q0 := 0) rfl rfl) [0, 1] rfl rfl hl.1 rfl (Nat.le_of_ble_eq_true rfl) dX1_ring_126 ⟨(by show _ ≤ 156; omega), (by show _ ≤ 1872; omega)⟩ ?_
                                    refine x_top (w := nI (F r)) (mkM_0 _ _ _ _ r) ?_
                                    have := hF r (by omega)
                                    refine x_iald (f := S1) hx hb hK hP 2 0 rfl rfl (k := F r) (by omega) (Nat.le_of_ble_eq_true rfl) dX1_ring_129 ?_
                                    refine lv_ldc (v := 99999) hx hb hown kc_50 dX1_ring_130 ?_
                                    refine lv_icmp_eq (x := S1 (F r)) (y := 99999) (tgt := 175) hx hb dX1_ring_132 (by decide) (fun c_11 => ?_) (fun c_11 => ?_)
                                    · refine lv_iinc (v := nI (r + 1)) (lv' := [(6, .int (nI (r + 1))), (5, .ref q_6), (4, .int (nI k)), (3, .ref sq), (2, .int (nI st)), (1, .int (nI best)), (0, .ref (b 0))]) hx hb dX1_ring_175 hl (k := 0) rfl (x_inc _) (by decide) rfl (fun ls hl => ?_)
                                      refine lv_goto (tgt := 103) hx hb dX1_ring_178 (by decide) ?_
                                      exact ih_103 n1039 (by omega) (r + 1) N1 (by omega) (by rw [← hfin_103]; simp [goW, c_1, c_3, Nat.not_lt.mpr c_3, c_4, Nat.not_lt.mpr c_4, c_5, c_7, Nat.not_lt.mpr c_7, c_8, c_10, c_11]) _ _ hP hD hS _ (lv_sub hl [0, 1, 2, 3, 4, 5, 6] rfl)
                                    · refine lv_aload hx hb dX1_ring_135 (lv_at hl 1 rfl) ?_
                                      refine lv_aload_n hx hb dX1_ring_137 rfl (lv_at hl 6 rfl) ?_
                                      refine lv_iload hx hb dX1_ring_138 (lv_at hl 0 rfl) ?_
                                      refine lv_iconst (v := 1) hx hb dX1_ring_140 (by decide) ?_
                                      refine xr_V (b := b 0) (As := [.int (nI r), .int 1]) (rest := [.ref q_6]) ⟨hx, hb, hml, hown, hts⟩ (c_X1_ro l D t b th tc rc F T L Z r 1 (by omega) (Nat.le_of_ble_eq_true rfl)) (cwV 2 hts gX1_ring_X1_ro rfl rfl rfl hd_X1_ro ⟨Nat.le_of_ble_eq_true rfl, Nat.le_of_ble_eq_true rfl⟩) hK hP (va_recv hK hP (ci := 1) (q0 := 0) rfl rfl) [0, 1] rfl rfl hl.1 rfl (Nat.le_of_ble_eq_true rfl) dX1_ring_141 ⟨(by show _ ≤ 156; omega), (by show _ ≤ 1872; omega)⟩ ?_
                                      refine x_top (w := nI (T r)) (mkM_1 _ _ _ _ r) ?_
                                      have := hF r (by omega)
                                      refine lv_aload hx hb dX1_ring_144 (lv_at hl 1 rfl) ?_
                                      refine lv_aload_n hx hb dX1_ring_146 rfl (lv_at hl 6 rfl) ?_
                                      refine lv_iload hx hb dX1_ring_147 (lv_at hl 0 rfl) ?_
                                      refine lv_iconst (v := 1) hx hb dX1_ring_149 (by decide) ?_
                                      refine xr_V (b := b 0) (As := [.int (nI r), .int 1]) (rest := [.ref q_6, .int (nI (T r)), .ref q_6]) ⟨hx, hb, hml, hown, hts⟩ (c_X1_ro l D t b th tc rc F T L Z r 1 (by omega) (Nat.le_of_ble_eq_true rfl)) (cwV 2 hts gX1_ring_X1_ro rfl rfl rfl hd_X1_ro ⟨Nat.le_of_ble_eq_true rfl, Nat.le_of_ble_eq_true rfl⟩) hK hP (va_recv hK hP (ci := 1) (q0 := 0) rfl rfl) [0, 1] rfl rfl hl.1 rfl (Nat.le_of_ble_eq_true rfl) dX1_ring_150 ⟨(by show _ ≤ 156; omega), (by show _ ≤ 1872; omega)⟩ ?_
                                      refine x_top (w := nI (T r)) (mkM_1 _ _ _ _ r) ?_
                                      have := hF r (by omega)
                                      refine x_iald (f := N1) hx hb hK hP 3 0 rfl rfl (k := T r) (by omega) (Nat.le_of_ble_eq_true rfl) dX1_ring_153 ?_
                                      refine lv_aload_n hx hb dX1_ring_154 rfl (lv_at hl 3 rfl) ?_
                                      refine lv_aload_n hx hb dX1_ring_155 rfl (lv_at hl 6 rfl) ?_
                                      refine lv_iload hx hb dX1_ring_156 (lv_at hl 0 rfl) ?_
                                      refine lv_iconst (v := 0) hx hb dX1_ring_158 (by decide) ?_
                                      refine xr_V (b := b 0) (As := [.int (nI r), .int 0]) (rest := [.ref sq, .int (N1 (T r)), .int (nI (T r)), .ref q_6]) ⟨hx, hb, hml, hown, hts⟩ (c_X1_ro l D t b th tc rc F T L Z r 0 (by omega) (Nat.le_of_ble_eq_true rfl)) (cwV 2 hts gX1_ring_X1_ro rfl rfl rfl hd_X1_ro ⟨Nat.le_of_ble_eq_true rfl, Nat.le_of_ble_eq_true rfl⟩) hK hP (va_recv hK hP (ci := 1) (q0 := 0) rfl rfl) [0, 1] rfl rfl hl.1 rfl (Nat.le_of_ble_eq_true rfl) dX1_ring_159 ⟨(by show _ ≤ 156; omega), (by show _ ≤ 1872; omega)⟩ ?_
                                      refine x_top (w := nI (F r)) (mkM_0 _ _ _ _ r) ?_
                                      have := hF r (by omega)
                                      refine x_iald (f := S1) hx hb hK hP 2 0 rfl rfl (k := F r) (by omega) (Nat.le_of_ble_eq_true rfl) dX1_ring_162 ?_
                                      refine lv_aload_n hx hb dX1_ring_163 rfl (lv_at hl 6 rfl) ?_
                                      refine lv_iload hx hb dX1_ring_164 (lv_at hl 0 rfl) ?_
                                      refine lv_iconst (v := 2) hx hb dX1_ring_166 (by decide) ?_
                                      refine xr_V (b := b 0) (As := [.int (nI r), .int 2]) (rest := [.int (S1 (F r)), .int (N1 (T r)), .int (nI (T r)), .ref q_6]) ⟨hx, hb, hml, hown, hts⟩ (c_X1_ro l D t b th tc rc F T L Z r 2 (by omega) (Nat.le_of_ble_eq_true rfl)) (cwV 2 hts gX1_ring_X1_ro rfl rfl rfl hd_X1_ro ⟨Nat.le_of_ble_eq_true rfl, Nat.le_of_ble_eq_true rfl⟩) hK hP (va_recv hK hP (ci := 1) (q0 := 0) rfl rfl) [0, 1] rfl rfl hl.1 rfl (Nat.le_of_ble_eq_true rfl) dX1_ring_167 ⟨(by show _ ≤ 156; omega), (by show _ ≤ 1872; omega)⟩ ?_
                                      refine x_top (w := L r) (mkM_2 _ _ _ _ r) ?_
                                      refine lv_iadd (x := S1 (F r)) (y := L r) hx hb dX1_ring_170 ?_
                                      refine va_mmin (x := N1 (T r)) (y := (S1 (F r)) + (L r)) hx hb (hml.trans hl.1.symm) hown ml_51 ms_min mi_Math mc_min (Nat.le_of_ble_eq_true rfl) (Nat.le_of_ble_eq_true rfl) (by show _ ≤ 156; omega) (by show _ ≤ 1872; omega) dX1_ring_171 ?_
                                      refine x_top (w := mnI (N1 (T r)) ((S1 (F r)) + (L r))) rfl ?_
                                      refine x_iast (x := mnI (N1 (T r)) ((S1 (F r)) + (L r))) (f := N1) hx hb hK hP hD hS 3 0 ([xMod b th tc rc, xArr (t 0) (b 1) 120 (mkM F T L Z), xArr (t 0) sq 12 S1, xArr (t 0) q_6 12 (upd N1 (T r) (mnI (N1 (T r)) ((S1 (F r)) + (L r))))]) rfl rfl (k := T r) rfl (by omega) (Nat.le_of_ble_eq_true rfl) dX1_ring_174 (fun H locs hP hD hS => ?_)
                                      refine lv_iinc (v := nI (r + 1)) (lv' := [(6, .int (nI (r + 1))), (5, .ref q_6), (4, .int (nI k)), (3, .ref sq), (2, .int (nI st)), (1, .int (nI best)), (0, .ref (b 0))]) hx hb dX1_ring_175 hl (k := 0) rfl (x_inc _) (by decide) rfl (fun ls hl => ?_)
                                      refine lv_goto (tgt := 103) hx hb dX1_ring_178 (by decide) ?_
                                      exact ih_103 n1039 (by omega) (r + 1) (upd N1 (T r) (mnI (N1 (T r)) ((S1 (F r)) + (L r)))) (by omega) (by rw [← hfin_103]; simp [goW, c_1, c_3, Nat.not_lt.mpr c_3, c_4, Nat.not_lt.mpr c_4, c_5, c_7, Nat.not_lt.mpr c_7, c_8, c_10, c_11]) _ _ hP hD hS _ (lv_sub hl [0, 1, 2, 3, 4, 5, 6] rfl)
                            exact lp_103 rc 0 (fillF 99999 12 0 (fun _ => 0)) (by omega) rfl _ _ hP hD hS _ (lv_sub hl [0, 1, 2, 3, 4, 5, 6] rfl)
                          · have c_7 : i < 12 := Nat.lt_of_not_le (fun z9 => c_7 ((nI_leI (a := 12) (b := i) (by omega) (by omega)).mpr z9))
                            obtain ⟨n809, rfl⟩ : ∃ z, n80 = z + 1 := ⟨n80 - 1, by omega⟩
                            refine lv_aload hx hb dX1_ring_87 (lv_at hl 1 rfl) ?_
                            refine lv_iload hx hb dX1_ring_89 (lv_at hl 0 rfl) ?_
                            refine lv_ldc (v := 99999) hx hb hown kc_50 dX1_ring_91 ?_
                            refine x_iast (x := 99999) (f := N0) hx hb hK hP hD hS 3 0 ([xMod b th tc rc, xArr (t 0) (b 1) 120 (mkM F T L Z), xArr (t 0) sq 12 S1, xArr (t 0) q_6 12 (upd N0 i 99999)]) rfl rfl (k := i) rfl (by omega) (Nat.le_of_ble_eq_true rfl) dX1_ring_93 (fun H locs hP hD hS => ?_)
                            refine lv_iinc (v := nI (i + 1)) (lv' := [(6, .int (nI (i + 1))), (5, .ref q_6), (4, .int (nI k)), (3, .ref sq), (2, .int (nI st)), (1, .int (nI best)), (0, .ref (b 0))]) hx hb dX1_ring_94 hl (k := 0) rfl (x_inc _) (by decide) rfl (fun ls hl => ?_)
                            refine lv_goto (tgt := 80) hx hb dX1_ring_97 (by decide) ?_
                            exact ih_80 n809 (by omega) (i + 1) (upd N0 i 99999) (by omega) (by rw [← hfin_80]; rfl) _ _ hP hD hS _ (lv_sub hl [0, 1, 2, 3, 4, 5, 6] rfl)
                      exact lp_80 12 0 (fun _ => 0) (by omega) rfl _ _ hP hD hS _ (lv_sub hl [0, 1, 2, 3, 4, 5, 6] rfl)
                    · have c_5 : ¬ best = 0 := fun z9 => c_5 ((nI_eq (a := best) (b := 0) (by omega) (by omega)).mpr z9)
                      refine lv_iload hx hb dX1_ring_65 (lv_at hl 0 rfl) ?_
                      refine lv_iload_n hx hb dX1_ring_67 rfl (lv_at hl 3 rfl) ?_
                      refine lv_icmp_ge (x := nI k) (y := nI best) (tgt := 199) hx hb dX1_ring_68 (by decide) (fun c_12 => ?_) (fun c_12 => ?_)
                      · have c_12 := (nI_leI (a := best) (b := k) (by omega) (by omega)).mp c_12
                        obtain rfl : best = rgM F T L Z rc st tc 1 bo (rgS st 12 0 (fun _ => 0)) := by rw [← hfin_52]; simp [rgM, c_1, c_3, Nat.not_lt.mpr c_3, c_4, Nat.not_lt.mpr c_4, c_5, c_12, Nat.not_lt.mpr c_12]
                        have hP : va_P D vwCl ([xMod b th tc rc, xArr (t 0) (b 1) 120 (mkM F T L Z)]) H := hP.sub [0, 1] rfl
                        have hD : va_D _ ([xMod b th tc rc, xArr (t 0) (b 1) 120 (mkM F T L Z)]) := hD.sub [0, 1] (by decide) rfl
                        refine lv_iinc (v := nI (st + 1)) (lv' := [(2, .int (nI (st + 1))), (4, .int (nI k)), (3, .ref sq), (1, .int (nI (rgM F T L Z rc st tc 1 bo (rgS st 12 0 (fun _ => 0))))), (0, .ref (b 0))]) hx hb dX1_ring_199 hl (k := 2) rfl (x_inc _) (by decide) rfl (fun ls hl => ?_)
                        refine lv_goto (tgt := 4) hx hb dX1_ring_202 (by decide) ?_
                        refine W.widen (k := 13 * (st + 1)) (n := 156 * (st + 1)) (by omega) (by omega) ?_
                        exact ih_4 n49 (by omega) (st + 1) (rgM F T L Z rc st tc 1 bo (rgS st 12 0 (fun _ => 0))) (by omega) (by omega) (by rw [← hfin_4]; rfl) _ _ hP hD hS _ (lv_sub hl [0, 3, 4] rfl)
                      · have c_12 : k < best := Nat.lt_of_not_le (fun z9 => c_12 ((nI_leI (a := best) (b := k) (by omega) (by omega)).mpr z9))
                        refine lv_bipush (v := 12) hx hb dX1_ring_71 (by decide) ?_
                        refine x_newa (atype := .int) (ty := .int) (a0 := (12, .inl (fun _ => 0))) (n := 12) (N' := 12) (cT := t 0) hx hb (hts (.arrayClass .int) (by decide +kernel)) rfl 0 rfl (by intro C h; cases h) hK hP hD hS hA (fun _ => rfl) (by decide) (by decide) (Nat.le_of_ble_eq_true rfl) (by show _ ≤ 156; omega) (by show _ ≤ 1872; omega) dX1_ring_73 (fun q_13 H hP hD hS => ?_)
                        have hP : va_P D vwCl ([xMod b th tc rc, xArr (t 0) (b 1) 120 (mkM F T L Z), xArr (t 0) sq 12 S1, xArr (t 0) q_13 12 (fun _ => 0)]) H := hP
                        have hD : va_D _ ([xMod b th tc rc, xArr (t 0) (b 1) 120 (mkM F T L Z), xArr (t 0) sq 12 S1, xArr (t 0) q_13 12 (fun _ => 0)]) := hD
                        refine lv_astore (lv' := [(5, .ref q_13), (4, .int (nI k)), (3, .ref sq), (2, .int (nI st)), (1, .int (nI best)), (0, .ref (b 0))]) hx hb dX1_ring_75 hl (by decide) rfl (fun ls hl => ?_)
                        refine lv_iconst (v := 0) hx hb dX1_ring_77 (by decide) ?_
                        refine lv_istore (lv' := [(6, .int 0), (5, .ref q_13), (4, .int (nI k)), (3, .ref sq), (2, .int (nI st)), (1, .int (nI best)), (0, .ref (b 0))]) hx hb dX1_ring_78 hl (by decide) rfl (fun ls hl => ?_)
                        have lp_80 : ∀ (n80 : Nat) (i : Nat) (N0 : Nat → Int32), i + n80 = 12 → fillF 99999 n80 i N0 = fillF 99999 12 0 (fun _ => 0) → ∀ (H : Heap) (locs : List Loc), va_P D vwCl ([xMod b th tc rc, xArr (t 0) (b 1) 120 (mkM F T L Z), xArr (t 0) sq 12 S1, xArr (t 0) q_13 12 N0]) H → va_D A ([xMod b th tc rc, xArr (t 0) (b 1) 120 (mkM F T L Z), xArr (t 0) sq 12 S1, xArr (t 0) q_13 12 N0]) → va_S A s.heap H locs → ∀ ls : Array Slot, lv_has ls 7 [(6, .int (nI i)), (5, .ref q_13), (4, .int (nI k)), (3, .ref sq), (2, .int (nI st)), (1, .int (nI best)), (0, .ref (b 0))] → W p l e (headSpec wsX1_ring ({ frames := 2, cells := 156, slots := 1872, locals := 43 } : Jvm.Room)).room s m (([.ref (b 0)] : List Value).toArray) below meth c H locs (13 * st + k + 1) (156 * st + 12 * k + 12) (MQ below (xQm D (fun u : Unit => True) (fun u : Unit => some (.int (nI (ringM F T L Z tc rc)))) [xMod b th tc rc, xArr (t 0) (b 1) 120 (mkM F T L Z)] (fun u : Unit => [xMod b th tc rc, xArr (t 0) (b 1) 120 (mkM F T L Z)]) s.heap.size) (([.ref (b 0)] : List Value).toArray) s 156 1872 A) (F0 m 80 ls []) := by
                          intro n80
                          induction n80 using Nat.strongRecOn with
                          | _ n80 ih_80 =>
                            intro i N0 hm_80 hfin_80 H locs hP hD hS ls hl
                            refine lv_iload hx hb dX1_ring_80 (lv_at hl 0 rfl) ?_
                            refine lv_bipush (v := 12) hx hb dX1_ring_82 (by decide) ?_
                            refine lv_icmp_ge (x := nI i) (y := 12) (tgt := 100) hx hb dX1_ring_84 (by decide) (fun c_14 => ?_) (fun c_14 => ?_)
                            · have c_14 := (nI_leI (a := 12) (b := i) (by omega) (by omega)).mp c_14
                              have hn0_80 : n80 = 0 := by omega
                              subst hn0_80
                              obtain rfl : N0 = fillF 99999 12 0 (fun _ => 0) := hfin_80
                              refine lv_iconst (v := 0) hx hb dX1_ring_100 (by decide) ?_
                              refine lv_istore (lv' := [(6, .int 0), (5, .ref q_13), (4, .int (nI k)), (3, .ref sq), (2, .int (nI st)), (1, .int (nI best)), (0, .ref (b 0))]) hx hb dX1_ring_101 hl (by decide) rfl (fun ls hl => ?_)
                              have lp_103 : ∀ (n103 : Nat) (r : Nat) (N1 : Nat → Int32), r + n103 = rc → goW F T L Z S1 n103 r N1 = goW F T L Z S1 rc 0 (fillF 99999 12 0 (fun _ => 0)) → ∀ (H : Heap) (locs : List Loc), va_P D vwCl ([xMod b th tc rc, xArr (t 0) (b 1) 120 (mkM F T L Z), xArr (t 0) sq 12 S1, xArr (t 0) q_13 12 N1]) H → va_D A ([xMod b th tc rc, xArr (t 0) (b 1) 120 (mkM F T L Z), xArr (t 0) sq 12 S1, xArr (t 0) q_13 12 N1]) → va_S A s.heap H locs → ∀ ls : Array Slot, lv_has ls 7 [(6, .int (nI r)), (5, .ref q_13), (4, .int (nI k)), (3, .ref sq), (2, .int (nI st)), (1, .int (nI best)), (0, .ref (b 0))] → W p l e (headSpec wsX1_ring ({ frames := 2, cells := 156, slots := 1872, locals := 43 } : Jvm.Room)).room s m (([.ref (b 0)] : List Value).toArray) below meth c H locs (13 * st + k + 1) (156 * st + 12 * k + 12) (MQ below (xQm D (fun u : Unit => True) (fun u : Unit => some (.int (nI (ringM F T L Z tc rc)))) [xMod b th tc rc, xArr (t 0) (b 1) 120 (mkM F T L Z)] (fun u : Unit => [xMod b th tc rc, xArr (t 0) (b 1) 120 (mkM F T L Z)]) s.heap.size) (([.ref (b 0)] : List Value).toArray) s 156 1872 A) (F0 m 103 ls []) := by
                                intro n103
                                induction n103 using Nat.strongRecOn with
                                | _ n103 ih_103 =>
                                  intro r N1 hm_103 hfin_103 H locs hP hD hS ls hl
                                  refine lv_iload hx hb dX1_ring_103 (lv_at hl 0 rfl) ?_
                                  refine lv_aload_n hx hb dX1_ring_105 rfl (lv_at hl 6 rfl) ?_
                                  refine x1_get (v := .int (nI rc)) hx hb hts hin hown hK hP 0 rfl 2 (by decide) fl_24 rfl dX1_ring_106 rfl ?_
                                  refine lv_icmp_ge (x := nI r) (y := nI rc) (tgt := 181) hx hb dX1_ring_109 (by decide) (fun c_15 => ?_) (fun c_15 => ?_)
                                  · have c_15 := (nI_leI (a := rc) (b := r) (by omega) (by omega)).mp c_15
                                    have hn0_103 : n103 = 0 := by omega
                                    subst hn0_103
                                    obtain rfl : N1 = goW F T L Z S1 rc 0 (fillF 99999 12 0 (fun _ => 0)) := hfin_103
                                    refine lv_aload hx hb dX1_ring_181 (lv_at hl 1 rfl) ?_
                                    refine lv_astore_n (lv' := [(3, .ref q_13), (6, .int (nI r)), (5, .ref q_13), (4, .int (nI k)), (2, .int (nI st)), (1, .int (nI best)), (0, .ref (b 0))]) hx hb dX1_ring_183 rfl hl (by decide) rfl (fun ls hl => ?_)
                                    have hP : va_P D vwCl ([xMod b th tc rc, xArr (t 0) (b 1) 120 (mkM F T L Z), xArr (t 0) q_13 12 (goW F T L Z S1 rc 0 (fillF 99999 12 0 (fun _ => 0)))]) H := hP.sub [0, 1, 3] rfl
                                    have hD : va_D _ ([xMod b th tc rc, xArr (t 0) (b 1) 120 (mkM F T L Z), xArr (t 0) q_13 12 (goW F T L Z S1 rc 0 (fillF 99999 12 0 (fun _ => 0)))]) := hD.sub [0, 1, 3] (by decide) rfl
                                    refine lv_aload_n hx hb dX1_ring_184 rfl (lv_at hl 0 rfl) ?_
                                    refine lv_iload_n hx hb dX1_ring_185 rfl (lv_at hl 4 rfl) ?_
                                    refine x_iald (f := goW F T L Z S1 rc 0 (fillF 99999 12 0 (fun _ => 0))) hx hb hK hP 2 0 rfl rfl (k := st) (by omega) (Nat.le_of_ble_eq_true rfl) dX1_ring_186 ?_
                                    refine lv_if_ge (x := (goW F T L Z S1 rc 0 (fillF 99999 12 0 (fun _ => 0))) st) (tgt := 193) hx hb dX1_ring_187 (by decide) (fun c_16 => ?_) (fun c_16 => ?_)
                                    · have c_16 := Int32.not_lt.mpr c_16
                                      refine lv_iinc (v := nI (k + 1)) (lv' := [(4, .int (nI (k + 1))), (3, .ref q_13), (6, .int (nI r)), (5, .ref q_13), (2, .int (nI st)), (1, .int (nI best)), (0, .ref (b 0))]) hx hb dX1_ring_193 hl (k := 3) rfl (x_inc _) (by decide) rfl (fun ls hl => ?_)
                                      refine lv_goto (tgt := 52) hx hb dX1_ring_196 (by decide) ?_
                                      refine W.widen (k := 13 * st + (k + 1)) (n := 156 * st + 12 * (k + 1)) (by omega) (by omega) ?_
                                      exact ih_52 n529 (by omega) (k + 1) best (goW F T L Z S1 rc 0 (fillF 99999 12 0 (fun _ => 0))) q_13 (by omega) (by omega) (by rw [← hfin_52]; simp [rgM, rgN, c_1, c_3, Nat.not_lt.mpr c_3, c_4, Nat.not_lt.mpr c_4, c_5, c_12, c_14, Nat.not_lt.mpr c_14, c_15, Nat.not_lt.mpr c_15, c_16]) _ _ hP hD hS _ (lv_sub hl [0, 1, 4, 5, 6] rfl)
                                    · have c_16 := Int32.not_le.mp c_16
                                      refine lv_iload hx hb dX1_ring_190 (lv_at hl 3 rfl) ?_
                                      refine lv_istore_n (lv' := [(1, .int (nI k)), (3, .ref q_13), (6, .int (nI r)), (5, .ref q_13), (4, .int (nI k)), (2, .int (nI st)), (0, .ref (b 0))]) hx hb dX1_ring_192 rfl hl (by decide) rfl (fun ls hl => ?_)
                                      refine lv_iinc (v := nI (k + 1)) (lv' := [(4, .int (nI (k + 1))), (1, .int (nI k)), (3, .ref q_13), (6, .int (nI r)), (5, .ref q_13), (2, .int (nI st)), (0, .ref (b 0))]) hx hb dX1_ring_193 hl (k := 4) rfl (x_inc _) (by decide) rfl (fun ls hl => ?_)
                                      refine lv_goto (tgt := 52) hx hb dX1_ring_196 (by decide) ?_
                                      refine W.widen (k := 13 * st + (k + 1)) (n := 156 * st + 12 * (k + 1)) (by omega) (by omega) ?_
                                      exact ih_52 n529 (by omega) (k + 1) k (goW F T L Z S1 rc 0 (fillF 99999 12 0 (fun _ => 0))) q_13 (by omega) (by omega) (by rw [← hfin_52]; simp [rgM, rgN, c_1, c_3, Nat.not_lt.mpr c_3, c_4, Nat.not_lt.mpr c_4, c_5, c_12, c_14, Nat.not_lt.mpr c_14, c_15, Nat.not_lt.mpr c_15, c_16]) _ _ hP hD hS _ (lv_sub hl [0, 2, 5, 1, 6] rfl)
                                  · have c_15 : r < rc := Nat.lt_of_not_le (fun z9 => c_15 ((nI_leI (a := rc) (b := r) (by omega) (by omega)).mpr z9))
                                    obtain ⟨n1039, rfl⟩ : ∃ z, n103 = z + 1 := ⟨n103 - 1, by omega⟩
                                    refine lv_aload_n hx hb dX1_ring_112 rfl (lv_at hl 6 rfl) ?_
                                    refine lv_iload hx hb dX1_ring_113 (lv_at hl 0 rfl) ?_
                                    refine xr_V (b := b 0) (As := [.int (nI r)]) (rest := []) ⟨hx, hb, hml, hown, hts⟩ (c_X1_isTied l D t b th tc rc F T L Z r (by omega)) (cwV 1 hts gX1_ring_X1_isTied rfl rfl rfl hd_X1_isTied ⟨Nat.le_of_ble_eq_true rfl, Nat.le_of_ble_eq_true rfl⟩) hK hP (va_recv hK hP (ci := 1) (q0 := 0) rfl rfl) [0, 1] rfl rfl hl.1 rfl (Nat.le_of_ble_eq_true rfl) dX1_ring_115 ⟨(by show _ ≤ 156; omega), (by show _ ≤ 1872; omega)⟩ ?_
                                    refine lv_if_eq (x := bI (Z r)) (tgt := 175) hx hb dX1_ring_118 (by decide) (fun c_17 => ?_) (fun c_17 => ?_)
                                    · have c_17 := bI_0 c_17
                                      refine lv_iinc (v := nI (r + 1)) (lv' := [(6, .int (nI (r + 1))), (5, .ref q_13), (4, .int (nI k)), (3, .ref sq), (2, .int (nI st)), (1, .int (nI best)), (0, .ref (b 0))]) hx hb dX1_ring_175 hl (k := 0) rfl (x_inc _) (by decide) rfl (fun ls hl => ?_)
                                      refine lv_goto (tgt := 103) hx hb dX1_ring_178 (by decide) ?_
                                      exact ih_103 n1039 (by omega) (r + 1) N1 (by omega) (by rw [← hfin_103]; simp [goW, c_1, c_3, Nat.not_lt.mpr c_3, c_4, Nat.not_lt.mpr c_4, c_5, c_12, c_14, Nat.not_lt.mpr c_14, c_15, c_17]) _ _ hP hD hS _ (lv_sub hl [0, 1, 2, 3, 4, 5, 6] rfl)
                                    · have c_17 := bI_n0 c_17
                                      refine lv_aload_n hx hb dX1_ring_121 rfl (lv_at hl 3 rfl) ?_
                                      refine lv_aload_n hx hb dX1_ring_122 rfl (lv_at hl 6 rfl) ?_
                                      refine lv_iload hx hb dX1_ring_123 (lv_at hl 0 rfl) ?_
                                      refine lv_iconst (v := 0) hx hb dX1_ring_125 (by decide) ?_
                                      refine xr_V (b := b 0) (As := [.int (nI r), .int 0]) (rest := [.ref sq]) ⟨hx, hb, hml, hown, hts⟩ (c_X1_ro l D t b th tc rc F T L Z r 0 (by omega) (Nat.le_of_ble_eq_true rfl)) (cwV 2 hts gX1_ring_X1_ro rfl rfl rfl hd_X1_ro ⟨Nat.le_of_ble_eq_true rfl, Nat.le_of_ble_eq_true rfl⟩) hK hP (va_recv hK hP (ci := 1) (q0 := 0) rfl rfl) [0, 1] rfl rfl hl.1 rfl (Nat.le_of_ble_eq_true rfl) dX1_ring_126 ⟨(by show _ ≤ 156; omega), (by show _ ≤ 1872; omega)⟩ ?_
                                      refine x_top (w := nI (F r)) (mkM_0 _ _ _ _ r) ?_
                                      have := hF r (by omega)
                                      refine x_iald (f := S1) hx hb hK hP 2 0 rfl rfl (k := F r) (by omega) (Nat.le_of_ble_eq_true rfl) dX1_ring_129 ?_
                                      refine lv_ldc (v := 99999) hx hb hown kc_50 dX1_ring_130 ?_
                                      refine lv_icmp_eq (x := S1 (F r)) (y := 99999) (tgt := 175) hx hb dX1_ring_132 (by decide) (fun c_18 => ?_) (fun c_18 => ?_)
                                      · refine lv_iinc (v := nI (r + 1)) (lv' := [(6, .int (nI (r + 1))), (5, .ref q_13), (4, .int (nI k)), (3, .ref sq), (2, .int (nI st)), (1, .int (nI best)), (0, .ref (b 0))]) hx hb dX1_ring_175 hl (k := 0) rfl (x_inc _) (by decide) rfl (fun ls hl => ?_)
                                        refine lv_goto (tgt := 103) hx hb dX1_ring_178 (by decide) ?_
                                        exact ih_103 n1039 (by omega) (r + 1) N1 (by omega) (by rw [← hfin_103]; simp [goW, c_1, c_3, Nat.not_lt.mpr c_3, c_4, Nat.not_lt.mpr c_4, c_5, c_12, c_14, Nat.not_lt.mpr c_14, c_15, c_17, c_18]) _ _ hP hD hS _ (lv_sub hl [0, 1, 2, 3, 4, 5, 6] rfl)
                                      · refine lv_aload hx hb dX1_ring_135 (lv_at hl 1 rfl) ?_
                                        refine lv_aload_n hx hb dX1_ring_137 rfl (lv_at hl 6 rfl) ?_
                                        refine lv_iload hx hb dX1_ring_138 (lv_at hl 0 rfl) ?_
                                        refine lv_iconst (v := 1) hx hb dX1_ring_140 (by decide) ?_
                                        refine xr_V (b := b 0) (As := [.int (nI r), .int 1]) (rest := [.ref q_13]) ⟨hx, hb, hml, hown, hts⟩ (c_X1_ro l D t b th tc rc F T L Z r 1 (by omega) (Nat.le_of_ble_eq_true rfl)) (cwV 2 hts gX1_ring_X1_ro rfl rfl rfl hd_X1_ro ⟨Nat.le_of_ble_eq_true rfl, Nat.le_of_ble_eq_true rfl⟩) hK hP (va_recv hK hP (ci := 1) (q0 := 0) rfl rfl) [0, 1] rfl rfl hl.1 rfl (Nat.le_of_ble_eq_true rfl) dX1_ring_141 ⟨(by show _ ≤ 156; omega), (by show _ ≤ 1872; omega)⟩ ?_
                                        refine x_top (w := nI (T r)) (mkM_1 _ _ _ _ r) ?_
                                        have := hF r (by omega)
                                        refine lv_aload hx hb dX1_ring_144 (lv_at hl 1 rfl) ?_
                                        refine lv_aload_n hx hb dX1_ring_146 rfl (lv_at hl 6 rfl) ?_
                                        refine lv_iload hx hb dX1_ring_147 (lv_at hl 0 rfl) ?_
                                        refine lv_iconst (v := 1) hx hb dX1_ring_149 (by decide) ?_
                                        refine xr_V (b := b 0) (As := [.int (nI r), .int 1]) (rest := [.ref q_13, .int (nI (T r)), .ref q_13]) ⟨hx, hb, hml, hown, hts⟩ (c_X1_ro l D t b th tc rc F T L Z r 1 (by omega) (Nat.le_of_ble_eq_true rfl)) (cwV 2 hts gX1_ring_X1_ro rfl rfl rfl hd_X1_ro ⟨Nat.le_of_ble_eq_true rfl, Nat.le_of_ble_eq_true rfl⟩) hK hP (va_recv hK hP (ci := 1) (q0 := 0) rfl rfl) [0, 1] rfl rfl hl.1 rfl (Nat.le_of_ble_eq_true rfl) dX1_ring_150 ⟨(by show _ ≤ 156; omega), (by show _ ≤ 1872; omega)⟩ ?_
                                        refine x_top (w := nI (T r)) (mkM_1 _ _ _ _ r) ?_
                                        have := hF r (by omega)
                                        refine x_iald (f := N1) hx hb hK hP 3 0 rfl rfl (k := T r) (by omega) (Nat.le_of_ble_eq_true rfl) dX1_ring_153 ?_
                                        refine lv_aload_n hx hb dX1_ring_154 rfl (lv_at hl 3 rfl) ?_
                                        refine lv_aload_n hx hb dX1_ring_155 rfl (lv_at hl 6 rfl) ?_
                                        refine lv_iload hx hb dX1_ring_156 (lv_at hl 0 rfl) ?_
                                        refine lv_iconst (v := 0) hx hb dX1_ring_158 (by decide) ?_
                                        refine xr_V (b := b 0) (As := [.int (nI r), .int 0]) (rest := [.ref sq, .int (N1 (T r)), .int (nI (T r)), .ref q_13]) ⟨hx, hb, hml, hown, hts⟩ (c_X1_ro l D t b th tc rc F T L Z r 0 (by omega) (Nat.le_of_ble_eq_true rfl)) (cwV 2 hts gX1_ring_X1_ro rfl rfl rfl hd_X1_ro ⟨Nat.le_of_ble_eq_true rfl, Nat.le_of_ble_eq_true rfl⟩) hK hP (va_recv hK hP (ci := 1) (q0 := 0) rfl rfl) [0, 1] rfl rfl hl.1 rfl (Nat.le_of_ble_eq_true rfl) dX1_ring_159 ⟨(by show _ ≤ 156; omega), (by show _ ≤ 1872; omega)⟩ ?_
                                        refine x_top (w := nI (F r)) (mkM_0 _ _ _ _ r) ?_
                                        have := hF r (by omega)
                                        refine x_iald (f := S1) hx hb hK hP 2 0 rfl rfl (k := F r) (by omega) (Nat.le_of_ble_eq_true rfl) dX1_ring_162 ?_
                                        refine lv_aload_n hx hb dX1_ring_163 rfl (lv_at hl 6 rfl) ?_
                                        refine lv_iload hx hb dX1_ring_164 (lv_at hl 0 rfl) ?_
                                        refine lv_iconst (v := 2) hx hb dX1_ring_166 (by decide) ?_
                                        refine xr_V (b := b 0) (As := [.int (nI r), .int 2]) (rest := [.int (S1 (F r)), .int (N1 (T r)), .int (nI (T r)), .ref q_13]) ⟨hx, hb, hml, hown, hts⟩ (c_X1_ro l D t b th tc rc F T L Z r 2 (by omega) (Nat.le_of_ble_eq_true rfl)) (cwV 2 hts gX1_ring_X1_ro rfl rfl rfl hd_X1_ro ⟨Nat.le_of_ble_eq_true rfl, Nat.le_of_ble_eq_true rfl⟩) hK hP (va_recv hK hP (ci := 1) (q0 := 0) rfl rfl) [0, 1] rfl rfl hl.1 rfl (Nat.le_of_ble_eq_true rfl) dX1_ring_167 ⟨(by show _ ≤ 156; omega), (by show _ ≤ 1872; omega)⟩ ?_
                                        refine x_top (w := L r) (mkM_2 _ _ _ _ r) ?_
                                        refine lv_iadd (x := S1 (F r)) (y := L r) hx hb dX1_ring_170 ?_
                                        refine va_mmin (x := N1 (T r)) (y := (S1 (F r)) + (L r)) hx hb (hml.trans hl.1.symm) hown ml_51 ms_min mi_Math mc_min (Nat.le_of_ble_eq_true rfl) (Nat.le_of_ble_eq_true rfl) (by show _ ≤ 156; omega) (by show _ ≤ 1872; omega) dX1_ring_171 ?_
                                        refine x_top (w := mnI (N1 (T r)) ((S1 (F r)) + (L r))) rfl ?_
                                        refine x_iast (x := mnI (N1 (T r)) ((S1 (F r)) + (L r))) (f := N1) hx hb hK hP hD hS 3 0 ([xMod b th tc rc, xArr (t 0) (b 1) 120 (mkM F T L Z), xArr (t 0) sq 12 S1, xArr (t 0) q_13 12 (upd N1 (T r) (mnI (N1 (T r)) ((S1 (F r)) + (L r))))]) rfl rfl (k := T r) rfl (by omega) (Nat.le_of_ble_eq_true rfl) dX1_ring_174 (fun H locs hP hD hS => ?_)
                                        refine lv_iinc (v := nI (r + 1)) (lv' := [(6, .int (nI (r + 1))), (5, .ref q_13), (4, .int (nI k)), (3, .ref sq), (2, .int (nI st)), (1, .int (nI best)), (0, .ref (b 0))]) hx hb dX1_ring_175 hl (k := 0) rfl (x_inc _) (by decide) rfl (fun ls hl => ?_)
                                        refine lv_goto (tgt := 103) hx hb dX1_ring_178 (by decide) ?_
                                        exact ih_103 n1039 (by omega) (r + 1) (upd N1 (T r) (mnI (N1 (T r)) ((S1 (F r)) + (L r)))) (by omega) (by rw [← hfin_103]; simp [goW, c_1, c_3, Nat.not_lt.mpr c_3, c_4, Nat.not_lt.mpr c_4, c_5, c_12, c_14, Nat.not_lt.mpr c_14, c_15, c_17, c_18]) _ _ hP hD hS _ (lv_sub hl [0, 1, 2, 3, 4, 5, 6] rfl)
                              exact lp_103 rc 0 (fillF 99999 12 0 (fun _ => 0)) (by omega) rfl _ _ hP hD hS _ (lv_sub hl [0, 1, 2, 3, 4, 5, 6] rfl)
                            · have c_14 : i < 12 := Nat.lt_of_not_le (fun z9 => c_14 ((nI_leI (a := 12) (b := i) (by omega) (by omega)).mpr z9))
                              obtain ⟨n809, rfl⟩ : ∃ z, n80 = z + 1 := ⟨n80 - 1, by omega⟩
                              refine lv_aload hx hb dX1_ring_87 (lv_at hl 1 rfl) ?_
                              refine lv_iload hx hb dX1_ring_89 (lv_at hl 0 rfl) ?_
                              refine lv_ldc (v := 99999) hx hb hown kc_50 dX1_ring_91 ?_
                              refine x_iast (x := 99999) (f := N0) hx hb hK hP hD hS 3 0 ([xMod b th tc rc, xArr (t 0) (b 1) 120 (mkM F T L Z), xArr (t 0) sq 12 S1, xArr (t 0) q_13 12 (upd N0 i 99999)]) rfl rfl (k := i) rfl (by omega) (Nat.le_of_ble_eq_true rfl) dX1_ring_93 (fun H locs hP hD hS => ?_)
                              refine lv_iinc (v := nI (i + 1)) (lv' := [(6, .int (nI (i + 1))), (5, .ref q_13), (4, .int (nI k)), (3, .ref sq), (2, .int (nI st)), (1, .int (nI best)), (0, .ref (b 0))]) hx hb dX1_ring_94 hl (k := 0) rfl (x_inc _) (by decide) rfl (fun ls hl => ?_)
                              refine lv_goto (tgt := 80) hx hb dX1_ring_97 (by decide) ?_
                              exact ih_80 n809 (by omega) (i + 1) (upd N0 i 99999) (by omega) (by rw [← hfin_80]; rfl) _ _ hP hD hS _ (lv_sub hl [0, 1, 2, 3, 4, 5, 6] rfl)
                        exact lp_80 12 0 (fun _ => 0) (by omega) rfl _ _ hP hD hS _ (lv_sub hl [0, 1, 2, 3, 4, 5, 6] rfl)
              refine W.widen (k := 13 * st + 1) (n := 156 * st + 12 * 1) (by omega) (by omega) ?_
              exact lp_52 tc 1 bo (rgS st 12 0 (fun _ => 0)) q_2 (by omega) (by omega) rfl _ _ hP hD hS _ (lv_sub hl [0, 1, 2, 3, 4] rfl)
            · have c_3 : i < 12 := Nat.lt_of_not_le (fun z9 => c_3 ((nI_leI (a := 12) (b := i) (by omega) (by omega)).mpr z9))
              obtain ⟨n209, rfl⟩ : ∃ z, n20 = z + 1 := ⟨n20 - 1, by omega⟩
              refine lv_aload_n hx hb dX1_ring_27 rfl (lv_at hl 1 rfl) ?_
              refine lv_iload hx hb dX1_ring_28 (lv_at hl 0 rfl) ?_
              refine lv_iload hx hb dX1_ring_30 (lv_at hl 0 rfl) ?_
              refine lv_iload_n hx hb dX1_ring_32 rfl (lv_at hl 2 rfl) ?_
              refine lv_icmp_ne (x := nI i) (y := nI st) (tgt := 40) hx hb dX1_ring_33 (by decide) (fun c_19 => ?_) (fun c_19 => ?_)
              · have c_19 : ¬ i = st := fun z9 => c_19 ((nI_eq (a := i) (b := st) (by omega) (by omega)).mpr z9)
                refine lv_ldc (v := 99999) hx hb hown kc_50 dX1_ring_40 ?_
                refine x_iast (x := 99999) (f := S0) hx hb hK hP hD hS 2 0 ([xMod b th tc rc, xArr (t 0) (b 1) 120 (mkM F T L Z), xArr (t 0) q_2 12 (upd S0 i 99999)]) rfl rfl (k := i) rfl (by omega) (Nat.le_of_ble_eq_true rfl) dX1_ring_42 (fun H locs hP hD hS => ?_)
                refine lv_iinc (v := nI (i + 1)) (lv' := [(4, .int (nI (i + 1))), (3, .ref q_2), (2, .int (nI st)), (1, .int (nI bo)), (0, .ref (b 0))]) hx hb dX1_ring_43 hl (k := 0) rfl (x_inc _) (by decide) rfl (fun ls hl => ?_)
                refine lv_goto (tgt := 20) hx hb dX1_ring_46 (by decide) ?_
                exact ih_20 n209 (by omega) (i + 1) (upd S0 i 99999) (by omega) (by rw [← hfin_20]; simp [rgS, c_1, c_3, c_19]) _ _ hP hD hS _ (lv_sub hl [0, 1, 2, 3, 4] rfl)
              · have c_19 := (nI_eq (a := i) (b := st) (by omega) (by omega)).mp c_19
                refine lv_iconst (v := 0) hx hb dX1_ring_36 (by decide) ?_
                refine lv_goto (tgt := 42) hx hb dX1_ring_37 (by decide) ?_
                refine x_iast (x := 0) (f := S0) hx hb hK hP hD hS 2 0 ([xMod b th tc rc, xArr (t 0) (b 1) 120 (mkM F T L Z), xArr (t 0) q_2 12 (upd S0 i 0)]) rfl rfl (k := i) rfl (by omega) (Nat.le_of_ble_eq_true rfl) dX1_ring_42 (fun H locs hP hD hS => ?_)
                refine lv_iinc (v := nI (i + 1)) (lv' := [(4, .int (nI (i + 1))), (3, .ref q_2), (2, .int (nI st)), (1, .int (nI bo)), (0, .ref (b 0))]) hx hb dX1_ring_43 hl (k := 0) rfl (x_inc _) (by decide) rfl (fun ls hl => ?_)
                refine lv_goto (tgt := 20) hx hb dX1_ring_46 (by decide) ?_
                exact ih_20 n209 (by omega) (i + 1) (upd S0 i 0) (by omega) (by rw [← hfin_20]; simp [rgS, c_1, c_3, c_19]) _ _ hP hD hS _ (lv_sub hl [0, 1, 2, 3, 4] rfl)
        exact lp_20 12 0 (fun _ => 0) (by omega) rfl _ _ hP hD hS _ (lv_sub hl [0, 1, 2, 3, 4] rfl)
  refine W.widen (k := 13 * 0) (n := 156 * 0) (by omega) (by omega) ?_
  exact lp_4 tc 0 0 (by omega) (by omega) rfl _ _ hP hD hS _ (lv_sub hl [0, 1, 2] rfl)
set_option maxHeartbeats 4000000 in
set_option maxRecDepth 100000 in
theorem c_X1_countedL (l : Launch) (D : va_G) (t : Nat → ClassId) (b : Nat → Nat) (th : Int32) (tc rc : Nat) (F T : Nat → Nat) (L : Nat → Int32) (Z : Nat → Bool) (q : Nat) (E : Nat → Int32) (w : Nat) (htc : tc ≤ 12) (hrc : rc ≤ 30) (hF : ∀ r, r < rc → F r < tc ∧ T r < tc) (hw9 : w < 6) : Met l yX1_counted wsX1_counted ({ frames := 3, cells := 0, slots := 0, locals := 69 }) (xRo D (xTy t) [.ref (b 0), .int (nI w), .ref q] [xMod b th tc rc, xArr (t 0) (b 1) 120 (mkM F T L Z), xArr (t 0) q 13 E]) (xQr (.int (cntM E F T L Z tc rc w))) 0 0 (fun _ => False) := by
  refine Met.ofW (cc := cX1_counted) (maxL := 5) (ret := (some .int)) (by decide) rfl ?_
  intro p e s m args below meth c s₁ hB9 hml hv
  obtain ⟨rfl, hP, hK⟩ := hv
  have hx := hB9.exec
  have hb := hB9.bytes
  have hr := hB9.returns
  have hts := atoms_spec (ws := wsX1_counted) hB9.pre
  have hown : s.vm.findClass RX1 = some m.cls := findClass_of_methodNamed hB9.named
  have hlocks := hB9.notSynchronized
  have hin : ∀ w ∈ wsX10, w ∈ wsX1_counted := fun _ h => List.mem_cons_of_mem _ (List.mem_append_right _ h)
  have fl_17 := hts (.fieldLink RX1 17 "RopeTimesModel" "turns" "I") (by decide +kernel)
  have fl_24 := hts (.fieldLink RX1 24 "RopeTimesModel" "ropes" "I") (by decide +kernel)
  have hl := lv_entry ([.ref (b 0), .int (nI w), .ref q]) (n := 5) (Nat.le_of_ble_eq_true rfl)
  rw [lg_entry_eq]
  generalize (lg_sl ([.ref (b 0), .int (nI w), .ref q]) ++ List.replicate (5 - (lg_sl ([.ref (b 0), .int (nI w), .ref q])).length) Slot.unset).toArray = ls at hl ⊢
  have hl : lv_has ls 5 [(0, .ref (b 0)), (1, .int (nI w)), (2, .ref q)] := hl
  refine lv_iconst (v := 0) hx hb dX1_counted_0 (by decide) ?_
  refine lv_istore_n (lv' := [(3, .int 0), (0, .ref (b 0)), (1, .int (nI w)), (2, .ref q)]) hx hb dX1_counted_1 rfl hl (by decide) rfl (fun ls hl => ?_)
  refine lv_iload_n hx hb dX1_counted_2 rfl (lv_at hl 2 rfl) ?_
  rcases (by omega : w = 0 ∨ w = 1 ∨ w = 2 ∨ w = 3 ∨ w = 4 ∨ w = 5 ∨ 5 < w) with rfl | rfl | rfl | rfl | rfl | rfl | hgt_1
  · refine lv_tableIn (x := nI 0) (off := 37) (tgt := 40) hx hb dX1_counted_3 (by decide) (by decide) rfl (by decide) ?_
    refine lv_aload_n hx hb dX1_counted_40 rfl (lv_at hl 1 rfl) ?_
    refine x1_get (v := .int (nI tc)) hx hb hts hin hown hK hP 0 rfl 1 (by decide) fl_17 rfl dX1_counted_41 rfl ?_
    exact x_iret (v := nI tc) hx hb hr hlocks (by simp [cntM, ]) dX1_counted_44
  · refine lv_tableIn (x := nI 1) (off := 42) (tgt := 45) hx hb dX1_counted_3 (by decide) (by decide) rfl (by decide) ?_
    refine lv_aload_n hx hb dX1_counted_45 rfl (lv_at hl 1 rfl) ?_
    refine x1_get (v := .int (nI rc)) hx hb hts hin hown hK hP 0 rfl 2 (by decide) fl_24 rfl dX1_counted_46 rfl ?_
    exact x_iret (v := nI rc) hx hb hr hlocks (by simp [cntM, ]) dX1_counted_49
  · refine lv_tableIn (x := nI 2) (off := 47) (tgt := 50) hx hb dX1_counted_3 (by decide) (by decide) rfl (by decide) ?_
    refine lv_iconst (v := 0) hx hb dX1_counted_50 (by decide) ?_
    refine lv_istore (lv' := [(4, .int 0), (3, .int 0), (0, .ref (b 0)), (1, .int (nI 2)), (2, .ref q)]) hx hb dX1_counted_51 hl (by decide) rfl (fun ls hl => ?_)
    have lp_53 : ∀ (n53 : Nat) (i : Nat) (k : Int32), i + n53 = rc → sumB Z n53 i k = sumB Z rc 0 0 → ∀ ls : Array Slot, lv_has ls 5 [(4, .int (nI i)), (3, .int k), (0, .ref (b 0))] → W p l e (headSpec wsX1_counted ({ frames := 3, cells := 0, slots := 0, locals := 69 } : Jvm.Room)).room s m (([.ref (b 0), .int (nI 2), .ref q] : List Value).toArray) below meth c s.heap [] 0 0 (MQ below (xQr (.int (cntM E F T L Z tc rc 2))) (([.ref (b 0), .int (nI 2), .ref q] : List Value).toArray) s 0 0 (fun _ => False)) (F0 m 53 ls []) := by
      intro n53
      induction n53 using Nat.strongRecOn with
      | _ n53 ih_53 =>
        intro i k hm_53 hfin_53 ls hl
        refine lv_iload hx hb dX1_counted_53 (lv_at hl 0 rfl) ?_
        refine lv_aload_n hx hb dX1_counted_55 rfl (lv_at hl 2 rfl) ?_
        refine x1_get (v := .int (nI rc)) hx hb hts hin hown hK hP 0 rfl 2 (by decide) fl_24 rfl dX1_counted_56 rfl ?_
        refine lv_icmp_ge (x := nI i) (y := nI rc) (tgt := 78) hx hb dX1_counted_59 (by decide) (fun c_2 => ?_) (fun c_2 => ?_)
        · have c_2 := (nI_leI (a := rc) (b := i) (by omega) (by omega)).mp c_2
          have hn0_53 : n53 = 0 := by omega
          subst hn0_53
          obtain rfl : k = sumB Z rc 0 0 := hfin_53
          refine lv_iload_n hx hb dX1_counted_78 rfl (lv_at hl 1 rfl) ?_
          exact x_iret (v := sumB Z rc 0 0) hx hb hr hlocks (by simp [cntM, c_2, Nat.not_lt.mpr c_2]) dX1_counted_79
        · have c_2 : i < rc := Nat.lt_of_not_le (fun z9 => c_2 ((nI_leI (a := rc) (b := i) (by omega) (by omega)).mpr z9))
          obtain ⟨n539, rfl⟩ : ∃ z, n53 = z + 1 := ⟨n53 - 1, by omega⟩
          refine lv_iload_n hx hb dX1_counted_62 rfl (lv_at hl 1 rfl) ?_
          refine lv_aload_n hx hb dX1_counted_63 rfl (lv_at hl 2 rfl) ?_
          refine lv_iload hx hb dX1_counted_64 (lv_at hl 0 rfl) ?_
          refine lv_iconst (v := 3) hx hb dX1_counted_66 (by decide) ?_
          refine xr_V (b := b 0) (As := [.int (nI i), .int 3]) (rest := [.int k]) ⟨hx, hb, hml, hown, hts⟩ (c_X1_ro l D t b th tc rc F T L Z i 3 (by omega) (Nat.le_of_ble_eq_true rfl)) (cwV 2 hts gX1_counted_X1_ro rfl rfl rfl hd_X1_ro ⟨Nat.le_of_ble_eq_true rfl, Nat.le_of_ble_eq_true rfl⟩) hK hP (va_recv hK hP (ci := 1) (q0 := 0) rfl rfl) [0, 1] rfl rfl hl.1 rfl (Nat.le_of_ble_eq_true rfl) dX1_counted_67 ⟨(Nat.le_of_ble_eq_true rfl), (Nat.le_of_ble_eq_true rfl)⟩ ?_
          refine x_top (w := bI (Z i)) (mkM_3 _ _ _ _ i) ?_
          refine lv_iadd (x := k) (y := bI (Z i)) hx hb dX1_counted_70 ?_
          refine lv_istore_n (lv' := [(3, .int (k + (bI (Z i)))), (4, .int (nI i)), (0, .ref (b 0))]) hx hb dX1_counted_71 rfl hl (by decide) rfl (fun ls hl => ?_)
          refine lv_iinc (v := nI (i + 1)) (lv' := [(4, .int (nI (i + 1))), (3, .int (k + (bI (Z i)))), (0, .ref (b 0))]) hx hb dX1_counted_72 hl (k := 1) rfl (x_inc _) (by decide) rfl (fun ls hl => ?_)
          refine lv_goto (tgt := 53) hx hb dX1_counted_75 (by decide) ?_
          exact ih_53 n539 (by omega) (i + 1) (k + (bI (Z i))) (by omega) (by rw [← hfin_53]; rfl) _ (lv_sub hl [0, 1, 2] rfl)
    exact lp_53 rc 0 0 (by omega) rfl _ (lv_sub hl [0, 1, 2] rfl)
  · refine lv_tableIn (x := nI 3) (off := 77) (tgt := 80) hx hb dX1_counted_3 (by decide) (by decide) rfl (by decide) ?_
    refine lv_aload_n hx hb dX1_counted_80 rfl (lv_at hl 3 rfl) ?_
    refine lv_bipush (v := 12) hx hb dX1_counted_81 (by decide) ?_
    refine x_iald (f := E) hx hb hK hP 2 0 rfl rfl (k := 12) (Nat.le_of_ble_eq_true rfl) (Nat.le_of_ble_eq_true rfl) dX1_counted_83 ?_
    exact x_iret (v := E 12) hx hb hr hlocks (by simp [cntM, ]) dX1_counted_84
  · refine lv_tableIn (x := nI 4) (off := 82) (tgt := 85) hx hb dX1_counted_3 (by decide) (by decide) rfl (by decide) ?_
    refine lv_aload_n hx hb dX1_counted_85 rfl (lv_at hl 1 rfl) ?_
    refine lv_aload_n hx hb dX1_counted_86 rfl (lv_at hl 3 rfl) ?_
    refine xr_V (b := b 0) (As := [.ref q]) (rest := []) ⟨hx, hb, hml, hown, hts⟩ (c_X1_isFound l D t b th tc rc q E) (cwV 1 hts gX1_counted_X1_isFound rfl rfl rfl hd_X1_isFound ⟨Nat.le_of_ble_eq_true rfl, Nat.le_of_ble_eq_true rfl⟩) hK hP (va_recv hK hP (ci := 1) (q0 := 0) rfl rfl) [0, 2] rfl rfl hl.1 rfl (Nat.le_of_ble_eq_true rfl) dX1_counted_87 ⟨(Nat.le_of_ble_eq_true rfl), (Nat.le_of_ble_eq_true rfl)⟩ ?_
    refine lv_if_eq (x := bI (decide (¬ E 12 = -1))) (tgt := 101) hx hb dX1_counted_90 (by decide) (fun c_3 => ?_) (fun c_3 => ?_)
    · have c_3 := Classical.not_not.mp (of_decide_eq_false (bI_0 c_3))
      refine lv_iconst (v := (-1)) hx hb dX1_counted_101 (by decide) ?_
      exact x_iret (v := (-1)) hx hb hr hlocks (by simp [cntM, c_3]) dX1_counted_102
    · have c_3 := of_decide_eq_true (bI_n0 c_3)
      refine lv_aload_n hx hb dX1_counted_93 rfl (lv_at hl 1 rfl) ?_
      refine lv_aload_n hx hb dX1_counted_94 rfl (lv_at hl 3 rfl) ?_
      refine xr_V (b := b 0) (As := [.ref q]) (rest := []) ⟨hx, hb, hml, hown, hts⟩ (c_X1_last l D t b th tc rc q E (by omega)) (cwV 1 hts gX1_counted_X1_last rfl rfl rfl hd_X1_last ⟨Nat.le_of_ble_eq_true rfl, Nat.le_of_ble_eq_true rfl⟩) hK hP (va_recv hK hP (ci := 1) (q0 := 0) rfl rfl) [0, 2] rfl rfl hl.1 rfl (Nat.le_of_ble_eq_true rfl) dX1_counted_95 ⟨(Nat.le_of_ble_eq_true rfl), (Nat.le_of_ble_eq_true rfl)⟩ ?_
      refine lv_goto (tgt := 102) hx hb dX1_counted_98 (by decide) ?_
      exact x_iret (v := lastF E tc 0 0) hx hb hr hlocks (by simp [cntM, c_3]) dX1_counted_102
  · refine lv_tableIn (x := nI 5) (off := 100) (tgt := 103) hx hb dX1_counted_3 (by decide) (by decide) rfl (by decide) ?_
    refine lv_iconst (v := 0) hx hb dX1_counted_103 (by decide) ?_
    refine lv_istore (lv' := [(4, .int 0), (3, .int 0), (0, .ref (b 0)), (1, .int (nI 5)), (2, .ref q)]) hx hb dX1_counted_104 hl (by decide) rfl (fun ls hl => ?_)
    have lp_106 : ∀ (n106 : Nat) (i : Nat) (k : Nat), i + n106 = rc → countF (tightB (E 12) E F T L Z) n106 i k = countF (tightB (E 12) E F T L Z) rc 0 0 → ∀ ls : Array Slot, lv_has ls 5 [(4, .int (nI i)), (3, .int (nI k)), (0, .ref (b 0)), (2, .ref q)] → W p l e (headSpec wsX1_counted ({ frames := 3, cells := 0, slots := 0, locals := 69 } : Jvm.Room)).room s m (([.ref (b 0), .int (nI 5), .ref q] : List Value).toArray) below meth c s.heap [] 0 0 (MQ below (xQr (.int (cntM E F T L Z tc rc 5))) (([.ref (b 0), .int (nI 5), .ref q] : List Value).toArray) s 0 0 (fun _ => False)) (F0 m 106 ls []) := by
      intro n106
      induction n106 using Nat.strongRecOn with
      | _ n106 ih_106 =>
        intro i k hm_106 hfin_106 ls hl
        refine lv_iload hx hb dX1_counted_106 (lv_at hl 0 rfl) ?_
        refine lv_aload_n hx hb dX1_counted_108 rfl (lv_at hl 2 rfl) ?_
        refine x1_get (v := .int (nI rc)) hx hb hts hin hown hK hP 0 rfl 2 (by decide) fl_24 rfl dX1_counted_109 rfl ?_
        refine lv_icmp_ge (x := nI i) (y := nI rc) (tgt := 139) hx hb dX1_counted_112 (by decide) (fun c_4 => ?_) (fun c_4 => ?_)
        · have c_4 := (nI_leI (a := rc) (b := i) (by omega) (by omega)).mp c_4
          have hn0_106 : n106 = 0 := by omega
          subst hn0_106
          obtain rfl : k = countF (tightB (E 12) E F T L Z) rc 0 0 := hfin_106
          refine lv_iload_n hx hb dX1_counted_139 rfl (lv_at hl 1 rfl) ?_
          exact x_iret (v := nI (countF (tightB (E 12) E F T L Z) rc 0 0)) hx hb hr hlocks (by simp [cntM, c_4, Nat.not_lt.mpr c_4]) dX1_counted_140
        · have c_4 : i < rc := Nat.lt_of_not_le (fun z9 => c_4 ((nI_leI (a := rc) (b := i) (by omega) (by omega)).mpr z9))
          obtain ⟨n1069, rfl⟩ : ∃ z, n106 = z + 1 := ⟨n106 - 1, by omega⟩
          refine lv_iload_n hx hb dX1_counted_115 rfl (lv_at hl 1 rfl) ?_
          refine lv_aload_n hx hb dX1_counted_116 rfl (lv_at hl 2 rfl) ?_
          refine lv_iload hx hb dX1_counted_117 (lv_at hl 0 rfl) ?_
          refine lv_aload_n hx hb dX1_counted_119 rfl (lv_at hl 3 rfl) ?_
          refine xr_V (b := b 0) (As := [.int (nI i), .ref q]) (rest := [.int (nI k)]) ⟨hx, hb, hml, hown, hts⟩ (c_X1_isTight l D t b th tc rc F T L Z q E i (by omega) (by omega) hF (by omega)) (cwV 2 hts gX1_counted_X1_isTight rfl rfl rfl hd_X1_isTight ⟨Nat.le_of_ble_eq_true rfl, Nat.le_of_ble_eq_true rfl⟩) hK hP (va_recv hK hP (ci := 1) (q0 := 0) rfl rfl) [0, 1, 2] rfl rfl hl.1 rfl (Nat.le_of_ble_eq_true rfl) dX1_counted_120 ⟨(Nat.le_of_ble_eq_true rfl), (Nat.le_of_ble_eq_true rfl)⟩ ?_
          refine lv_if_eq (x := bI (tightB (E 12) E F T L Z i)) (tgt := 130) hx hb dX1_counted_123 (by decide) (fun c_5 => ?_) (fun c_5 => ?_)
          · have c_5 := bI_0 c_5
            refine lv_iconst (v := 0) hx hb dX1_counted_130 (by decide) ?_
            refine lv_iadd (x := nI k) (y := 0) hx hb dX1_counted_131 ?_
            refine x_top (w := nI (k + 0)) (nI_add k 0) ?_
            refine lv_istore_n (lv' := [(3, .int (nI (k + 0))), (4, .int (nI i)), (0, .ref (b 0)), (2, .ref q)]) hx hb dX1_counted_132 rfl hl (by decide) rfl (fun ls hl => ?_)
            refine lv_iinc (v := nI (i + 1)) (lv' := [(4, .int (nI (i + 1))), (3, .int (nI (k + 0))), (0, .ref (b 0)), (2, .ref q)]) hx hb dX1_counted_133 hl (k := 1) rfl (x_inc _) (by decide) rfl (fun ls hl => ?_)
            refine lv_goto (tgt := 106) hx hb dX1_counted_136 (by decide) ?_
            exact ih_106 n1069 (by omega) (i + 1) (k + 0) (by omega) (by rw [← hfin_106]; simp [countF, c_4, c_5]) _ (lv_sub hl [0, 1, 2, 3] rfl)
          · have c_5 := bI_n0 c_5
            refine lv_iconst (v := 1) hx hb dX1_counted_126 (by decide) ?_
            refine lv_goto (tgt := 131) hx hb dX1_counted_127 (by decide) ?_
            refine lv_iadd (x := nI k) (y := 1) hx hb dX1_counted_131 ?_
            refine x_top (w := nI (k + 1)) (nI_add k 1) ?_
            refine lv_istore_n (lv' := [(3, .int (nI (k + 1))), (4, .int (nI i)), (0, .ref (b 0)), (2, .ref q)]) hx hb dX1_counted_132 rfl hl (by decide) rfl (fun ls hl => ?_)
            refine lv_iinc (v := nI (i + 1)) (lv' := [(4, .int (nI (i + 1))), (3, .int (nI (k + 1))), (0, .ref (b 0)), (2, .ref q)]) hx hb dX1_counted_133 hl (k := 1) rfl (x_inc _) (by decide) rfl (fun ls hl => ?_)
            refine lv_goto (tgt := 106) hx hb dX1_counted_136 (by decide) ?_
            exact ih_106 n1069 (by omega) (i + 1) (k + 1) (by omega) (by rw [← hfin_106]; simp [countF, c_4, c_5]) _ (lv_sub hl [0, 1, 2, 3] rfl)
    exact lp_106 rc 0 0 (by omega) rfl _ (lv_sub hl [0, 1, 2, 4] rfl)
  · exact absurd hgt_1 (by omega)
set_option maxHeartbeats 4000000 in
set_option maxRecDepth 100000 in
theorem c_X1_countedH (l : Launch) (D : va_G) (t : Nat → ClassId) (b : Nat → Nat) (th : Int32) (tc rc : Nat) (F T : Nat → Nat) (L : Nat → Int32) (Z : Nat → Bool) (q : Nat) (E : Nat → Int32) (sz : Nat) (htc : tc ≤ 12) (hrc : rc ≤ 30) (hF : ∀ r, r < rc → F r < tc ∧ T r < tc) : Met l yX1_counted wsX1_counted ({ frames := 3, cells := 156, slots := 1872, locals := 69 }) (xMu D (xTy t) (va_AOA .int) [.ref (b 0), .int (nI 6), .ref q] [xMod b th tc rc, xArr (t 0) (b 1) 120 (mkM F T L Z), xArr (t 0) q 13 E] sz) (xQm D (fun u : Unit => True) (fun u : Unit => some (.int (cntM E F T L Z tc rc 6))) [xMod b th tc rc, xArr (t 0) (b 1) 120 (mkM F T L Z), xArr (t 0) q 13 E] (fun u : Unit => [xMod b th tc rc, xArr (t 0) (b 1) 120 (mkM F T L Z), xArr (t 0) q 13 E]) sz) 156 1872 (va_A [xMod b th tc rc, xArr (t 0) (b 1) 120 (mkM F T L Z), xArr (t 0) q 13 E] sz) := by
  refine Met.ofW (cc := cX1_counted) (maxL := 5) (ret := (some .int)) (by decide) rfl ?_
  intro p e s m args below meth c s₁ hB9 hml hv
  obtain ⟨rfl, hsz, hP, hK, hD0, hXX⟩ := hv
  have hx := hB9.exec
  have hb := hB9.bytes
  have hr := hB9.returns
  have hts := atoms_spec (ws := wsX1_counted) hB9.pre
  have hown : s.vm.findClass RX1 = some m.cls := findClass_of_methodNamed hB9.named
  have hlocks := hB9.notSynchronized
  have hin : ∀ w ∈ wsX10, w ∈ wsX1_counted := fun _ h => List.mem_cons_of_mem _ (List.mem_append_right _ h)
  have fl_17 := hts (.fieldLink RX1 17 "RopeTimesModel" "turns" "I") (by decide +kernel)
  have fl_24 := hts (.fieldLink RX1 24 "RopeTimesModel" "ropes" "I") (by decide +kernel)
  subst hsz
  have hD := hD0.self (sz := s.heap.size)
  generalize hAe : va_A ([xMod b th tc rc, xArr (t 0) (b 1) 120 (mkM F T L Z), xArr (t 0) q 13 E]) s.heap.size = A at hD ⊢
  have hA : ∀ q : Nat, s.heap.size ≤ q → A q := fun q h => by rw [← hAe]; exact Or.inr h
  have hS : va_S A s.heap s.heap [] := va_S.rf
  have hP : va_P D vwCl ([xMod b th tc rc, xArr (t 0) (b 1) 120 (mkM F T L Z), xArr (t 0) q 13 E]) s.heap := hP
  have hD : va_D A ([xMod b th tc rc, xArr (t 0) (b 1) 120 (mkM F T L Z), xArr (t 0) q 13 E]) := hD
  have hl := lv_entry ([.ref (b 0), .int (nI 6), .ref q]) (n := 5) (Nat.le_of_ble_eq_true rfl)
  rw [lg_entry_eq]
  generalize (lg_sl ([.ref (b 0), .int (nI 6), .ref q]) ++ List.replicate (5 - (lg_sl ([.ref (b 0), .int (nI 6), .ref q])).length) Slot.unset).toArray = ls at hl ⊢
  have hl : lv_has ls 5 [(0, .ref (b 0)), (1, .int (nI 6)), (2, .ref q)] := hl
  refine lv_iconst (v := 0) hx hb dX1_counted_0 (by decide) ?_
  refine lv_istore_n (lv' := [(3, .int 0), (0, .ref (b 0)), (1, .int (nI 6)), (2, .ref q)]) hx hb dX1_counted_1 rfl hl (by decide) rfl (fun ls hl => ?_)
  refine lv_iload_n hx hb dX1_counted_2 rfl (lv_at hl 2 rfl) ?_
  refine lv_tableOut (x := nI 6) (tgt := 141) hx hb dX1_counted_3 (Or.inr (by decide)) (by decide) ?_
  refine lv_aload_n hx hb dX1_counted_141 rfl (lv_at hl 1 rfl) ?_
  refine xm_V (b := b 0) (As := []) (rest := []) (wr := [xArr (t 0) q 13 E]) ⟨hx, hb, hml, hown, hts⟩ aoT (c_X1_ring l D t b th tc rc F T L Z _ (by omega) (by omega) hF) (cwV 0 hts gX1_counted_X1_ring rfl rfl rfl hd_X1_ring ⟨Nat.le_of_ble_eq_true rfl, Nat.le_of_ble_eq_true rfl⟩) hK hP hD hS hA (fun U hW _ => va_AOA.moved hW.alike hXX) (va_recv hK hP (ci := 1) (q0 := 0) rfl rfl) [0, 1] [2] rfl rfl (by decide) (by decide) (by decide) rfl hl.1 rfl (Nat.le_of_ble_eq_true rfl) dX1_counted_142 ⟨(Nat.le_of_ble_eq_true rfl), (Nat.le_of_ble_eq_true rfl)⟩ (fun u_2 H locs hu hP hD hS hz => ?_)
  have hP : va_P D vwCl ([xMod b th tc rc, xArr (t 0) (b 1) 120 (mkM F T L Z), xArr (t 0) q 13 E]) H := hP.sub [1, 2, 0] rfl
  have hD : va_D _ ([xMod b th tc rc, xArr (t 0) (b 1) 120 (mkM F T L Z), xArr (t 0) q 13 E]) := hD.sub [1, 2, 0] (by decide) rfl
  subst hAe
  obtain ⟨hq9, hf9⟩ := xm_end (S := Unit) (pu := (fun u : Unit => True)) (r := (fun u : Unit => some (.int (cntM E F T L Z tc rc 6)))) (wc := [xMod b th tc rc, xArr (t 0) (b 1) 120 (mkM F T L Z), xArr (t 0) q 13 E]) (w1 := (fun u : Unit => [xMod b th tc rc, xArr (t 0) (b 1) 120 (mkM F T L Z), xArr (t 0) q 13 E])) (o := some (.int (nI (ringM F T L Z tc rc)))) (args := ([.ref (b 0), .int (nI 6), .ref q] : List Value).toArray) () rfl trivial (by simp [cntM, ]) hP hD hS
  exact W.iret hx hb hr hq9 hf9 dX1_counted_145 hlocks
set_option maxHeartbeats 4000000 in
set_option maxRecDepth 100000 in
theorem c_X1_told (l : Launch) (D : va_G) (t : Nat → ClassId) (b : Nat → Nat) (th : Int32) (tc rc : Nat) (F T : Nat → Nat) (L : Nat → Int32) (Z : Nat → Bool) (p0 p1 : Int32) (sz : Nat) (htc : tc ≤ 12) (hrc : rc ≤ 30) (hF : ∀ r, r < rc → F r < tc ∧ T r < tc) : Met l yX1_told wsX1_told ({ frames := 4, cells := 1, slots := 13, locals := 88 }) (xMu D (xTy t) (va_AOA .int) [.ref (b 0), .int p0, .int p1] [xMod b th tc rc, xArr (t 0) (b 1) 120 (mkM F T L Z)] sz) (xQm D (fun u : Unit => True) (fun u : Unit => some (.int (if kIn2 rc 5 p0 p1 = 0 then toldF (earM F T L Z tc rc 12) (earM F T L Z tc rc) F T L Z (ix p0) (ix p1) else 0))) [xMod b th tc rc, xArr (t 0) (b 1) 120 (mkM F T L Z)] (fun u : Unit => [xMod b (nI (kIn2 rc 5 p0 p1)) tc rc, xArr (t 0) (b 1) 120 (mkM F T L Z)]) sz) 1 13 (va_A [xMod b th tc rc, xArr (t 0) (b 1) 120 (mkM F T L Z)] sz) := by
  refine Met.ofW (cc := cX1_told) (maxL := 3) (ret := (some .int)) (by decide) rfl ?_
  intro p e s m args below meth c s₁ hB9 hml hv
  obtain ⟨rfl, hsz, hP, hK, hD0, hXX⟩ := hv
  have hx := hB9.exec
  have hb := hB9.bytes
  have hr := hB9.returns
  have hts := atoms_spec (ws := wsX1_told) hB9.pre
  have hown : s.vm.findClass RX1 = some m.cls := findClass_of_methodNamed hB9.named
  have hlocks := hB9.notSynchronized
  have hin : ∀ w ∈ wsX10, w ∈ wsX1_told := fun _ h => List.mem_cons_of_mem _ (List.mem_append_right _ h)
  have fl_13 := hts (.fieldLink RX1 13 "RopeTimesModel" "thrown" "I") (by decide +kernel)
  subst hsz
  have hD := hD0.self (sz := s.heap.size)
  generalize hAe : va_A ([xMod b th tc rc, xArr (t 0) (b 1) 120 (mkM F T L Z)]) s.heap.size = A at hD ⊢
  have hA : ∀ q : Nat, s.heap.size ≤ q → A q := fun q h => by rw [← hAe]; exact Or.inr h
  have hS : va_S A s.heap s.heap [] := va_S.rf
  have hP : va_P D vwCl ([xMod b th tc rc, xArr (t 0) (b 1) 120 (mkM F T L Z)]) s.heap := hP
  have hD : va_D A ([xMod b th tc rc, xArr (t 0) (b 1) 120 (mkM F T L Z)]) := hD
  have hl := lv_entry ([.ref (b 0), .int p0, .int p1]) (n := 3) (Nat.le_of_ble_eq_true rfl)
  rw [lg_entry_eq]
  generalize (lg_sl ([.ref (b 0), .int p0, .int p1]) ++ List.replicate (3 - (lg_sl ([.ref (b 0), .int p0, .int p1])).length) Slot.unset).toArray = ls at hl ⊢
  have hl : lv_has ls 3 [(0, .ref (b 0)), (1, .int p0), (2, .int p1)] := hl
  refine lv_aload_n hx hb dX1_told_0 rfl (lv_at hl 0 rfl) ?_
  refine lv_iconst (v := 0) hx hb dX1_told_1 (by decide) ?_
  refine x1_put (x := 0) hx hb hts hin hown hK hP hD hS 0 ([xMod b 0 tc rc, xArr (t 0) (b 1) 120 (mkM F T L Z)]) rfl 0 (by decide) fl_13 rfl rfl (Nat.le_of_ble_eq_true rfl) rfl dX1_told_2 rfl (fun H locs hP hD hS => ?_)
  refine lv_aload_n hx hb dX1_told_5 rfl (lv_at hl 0 rfl) ?_
  refine lv_iload_n hx hb dX1_told_6 rfl (lv_at hl 1 rfl) ?_
  refine xr_V (b := b 0) (As := [.int p0]) (rest := []) ⟨hx, hb, hml, hown, hts⟩ (c_X1_isRope l D t b 0 tc rc p0 (by omega)) (cwV 1 hts gX1_told_X1_isRope rfl rfl rfl hd_X1_isRope ⟨Nat.le_of_ble_eq_true rfl, Nat.le_of_ble_eq_true rfl⟩) hK hP (va_recv hK hP (ci := 1) (q0 := 0) rfl rfl) [0] rfl rfl hl.1 rfl (Nat.le_of_ble_eq_true rfl) dX1_told_7 ⟨(Nat.le_of_ble_eq_true rfl), (Nat.le_of_ble_eq_true rfl)⟩ ?_
  refine lv_if_eq (x := bI (inB p0 rc)) (tgt := 35) hx hb dX1_told_10 (by decide) (fun c_1 => ?_) (fun c_1 => ?_)
  · have c_1 := bI_0 c_1
    refine lv_aload_n hx hb dX1_told_35 rfl (lv_at hl 0 rfl) ?_
    refine lv_iconst (v := 1) hx hb dX1_told_36 (by decide) ?_
    refine xm_V (b := b 0) (As := [.int 1]) (rest := []) (wr := [xArr (t 0) (b 1) 120 (mkM F T L Z)]) ⟨hx, hb, hml, hown, hts⟩ xTrav_T (c_X1_fail l D t b 0 tc rc 1 _) (cwV 1 hts gX1_told_X1_fail rfl rfl rfl hd_X1_fail ⟨Nat.le_of_ble_eq_true rfl, Nat.le_of_ble_eq_true rfl⟩) hK hP hD hS hA (fun _ _ _ => trivial) (va_recv hK hP (ci := 1) (q0 := 0) rfl rfl) [0] [1] rfl rfl (by decide) (by decide) (by decide) rfl hl.1 rfl (Nat.le_of_ble_eq_true rfl) dX1_told_37 ⟨(Nat.le_of_ble_eq_true rfl), (Nat.le_of_ble_eq_true rfl)⟩ (fun u_2 H locs hu hP hD hS hz => ?_)
    have hP : va_P D vwCl ([xMod b 1 tc rc, xArr (t 0) (b 1) 120 (mkM F T L Z)]) H := hP.sub [1, 0] rfl
    have hD : va_D _ ([xMod b 1 tc rc, xArr (t 0) (b 1) 120 (mkM F T L Z)]) := hD.sub [1, 0] (by decide) rfl
    have hk9 : kIn2 rc 5 p0 p1 = 1 := by simp [kIn2, c_1]
    have hP9 : va_P D vwCl ([xMod b (nI (kIn2 rc 5 p0 p1)) tc rc, xArr (t 0) (b 1) 120 (mkM F T L Z)]) H := by rw [hk9]; exact hP
    have hD9 : va_D A ([xMod b (nI (kIn2 rc 5 p0 p1)) tc rc, xArr (t 0) (b 1) 120 (mkM F T L Z)]) := by rw [hk9]; exact hD
    subst hAe
    refine W.widen (k := 1) (n := 13) (Nat.le_of_ble_eq_true rfl) (Nat.le_of_ble_eq_true rfl) ?_
    obtain ⟨hq9, hf9⟩ := xm_end (S := Unit) (pu := (fun u : Unit => True)) (r := (fun u : Unit => some (.int (if kIn2 rc 5 p0 p1 = 0 then toldF (earM F T L Z tc rc 12) (earM F T L Z tc rc) F T L Z (ix p0) (ix p1) else 0)))) (wc := [xMod b th tc rc, xArr (t 0) (b 1) 120 (mkM F T L Z)]) (w1 := (fun u : Unit => [xMod b (nI (kIn2 rc 5 p0 p1)) tc rc, xArr (t 0) (b 1) 120 (mkM F T L Z)])) (o := some (.int 0)) (args := ([.ref (b 0), .int p0, .int p1] : List Value).toArray) () rfl trivial (by first | (rw [hk9]; rfl) | (simp only [hk9]; done) | (simp [hk9, c_1]; done)) hP9 hD9 hS
    exact W.iret hx hb hr hq9 hf9 dX1_told_40 hlocks
  · have c_1 := bI_n0 c_1
    obtain ⟨k_3, hk_3, ek_3⟩ := inB_of c_1 (by omega)
    have eik_3 : ix p0 = k_3 := by rw [ek_3]; exact ix_nI (by omega)
    have hl : lv_has ls 3 [(0, .ref (b 0)), (1, .int (nI k_3)), (2, .int p1)] := by rw [← ek_3]; exact hl
    refine lv_iload_n hx hb dX1_told_13 rfl (lv_at hl 2 rfl) ?_
    refine lv_iconst (v := 0) hx hb dX1_told_14 (by decide) ?_
    refine lv_iconst (v := 4) hx hb dX1_told_15 (by decide) ?_
    refine xr_S (As := [.int p1, .int 0, .int 4]) (rest := []) ⟨hx, hb, hml, hown, hts⟩ (c_X1_isIn l D t p1 0 4) (va_cwS 3 hts gX1_told_X1_isIn rfl rfl rfl hd_X1_isIn ⟨Nat.le_of_ble_eq_true rfl, Nat.le_of_ble_eq_true rfl⟩) hK hP [] rfl rfl hl.1 rfl (Nat.le_of_ble_eq_true rfl) dX1_told_16 ⟨(Nat.le_of_ble_eq_true rfl), (Nat.le_of_ble_eq_true rfl)⟩ ?_
    refine x_top (w := bI (inB p1 5)) (by rw [isIn_5]) ?_
    refine lv_if_eq (x := bI (inB p1 5)) (tgt := 35) hx hb dX1_told_19 (by decide) (fun c_4 => ?_) (fun c_4 => ?_)
    · have c_4 := bI_0 c_4
      refine lv_aload_n hx hb dX1_told_35 rfl (lv_at hl 0 rfl) ?_
      refine lv_iconst (v := 1) hx hb dX1_told_36 (by decide) ?_
      refine xm_V (b := b 0) (As := [.int 1]) (rest := []) (wr := [xArr (t 0) (b 1) 120 (mkM F T L Z)]) ⟨hx, hb, hml, hown, hts⟩ xTrav_T (c_X1_fail l D t b 0 tc rc 1 _) (cwV 1 hts gX1_told_X1_fail rfl rfl rfl hd_X1_fail ⟨Nat.le_of_ble_eq_true rfl, Nat.le_of_ble_eq_true rfl⟩) hK hP hD hS hA (fun _ _ _ => trivial) (va_recv hK hP (ci := 1) (q0 := 0) rfl rfl) [0] [1] rfl rfl (by decide) (by decide) (by decide) rfl hl.1 rfl (Nat.le_of_ble_eq_true rfl) dX1_told_37 ⟨(Nat.le_of_ble_eq_true rfl), (Nat.le_of_ble_eq_true rfl)⟩ (fun u_5 H locs hu hP hD hS hz => ?_)
      have hP : va_P D vwCl ([xMod b 1 tc rc, xArr (t 0) (b 1) 120 (mkM F T L Z)]) H := hP.sub [1, 0] rfl
      have hD : va_D _ ([xMod b 1 tc rc, xArr (t 0) (b 1) 120 (mkM F T L Z)]) := hD.sub [1, 0] (by decide) rfl
      have hk9 : kIn2 rc 5 p0 p1 = 1 := by simp [kIn2, c_1, eik_3, c_4]
      have hP9 : va_P D vwCl ([xMod b (nI (kIn2 rc 5 p0 p1)) tc rc, xArr (t 0) (b 1) 120 (mkM F T L Z)]) H := by rw [hk9]; exact hP
      have hD9 : va_D A ([xMod b (nI (kIn2 rc 5 p0 p1)) tc rc, xArr (t 0) (b 1) 120 (mkM F T L Z)]) := by rw [hk9]; exact hD
      subst hAe
      refine W.widen (k := 1) (n := 13) (Nat.le_of_ble_eq_true rfl) (Nat.le_of_ble_eq_true rfl) ?_
      obtain ⟨hq9, hf9⟩ := xm_end (S := Unit) (pu := (fun u : Unit => True)) (r := (fun u : Unit => some (.int (if kIn2 rc 5 p0 p1 = 0 then toldF (earM F T L Z tc rc 12) (earM F T L Z tc rc) F T L Z (ix p0) (ix p1) else 0)))) (wc := [xMod b th tc rc, xArr (t 0) (b 1) 120 (mkM F T L Z)]) (w1 := (fun u : Unit => [xMod b (nI (kIn2 rc 5 p0 p1)) tc rc, xArr (t 0) (b 1) 120 (mkM F T L Z)])) (o := some (.int 0)) (args := ([.ref (b 0), .int p0, .int p1] : List Value).toArray) () rfl trivial (by first | (rw [hk9]; rfl) | (simp only [hk9]; done) | (simp [hk9, c_1, eik_3, c_4]; done)) hP9 hD9 hS
      exact W.iret hx hb hr hq9 hf9 dX1_told_40 hlocks
    · have c_4 := bI_n0 c_4
      obtain ⟨k_6, hk_6, ek_6⟩ := inB_of c_4 (by omega)
      have eik_6 : ix p1 = k_6 := by rw [ek_6]; exact ix_nI (by omega)
      have hl : lv_has ls 3 [(0, .ref (b 0)), (1, .int (nI k_3)), (2, .int (nI k_6))] := by rw [← ek_6]; exact hl
      refine lv_aload_n hx hb dX1_told_22 rfl (lv_at hl 0 rfl) ?_
      refine lv_iload_n hx hb dX1_told_23 rfl (lv_at hl 1 rfl) ?_
      refine lv_iload_n hx hb dX1_told_24 rfl (lv_at hl 2 rfl) ?_
      refine lv_aload_n hx hb dX1_told_25 rfl (lv_at hl 0 rfl) ?_
      refine xm_V (b := b 0) (As := []) (rest := [.int (nI k_6), .int (nI k_3), .ref (b 0)]) (wr := []) ⟨hx, hb, hml, hown, hts⟩ aoT (c_X1_earliest l D t b 0 tc rc F T L Z _ (by omega) (by omega) hF) (cwV 0 hts gX1_told_X1_earliest rfl rfl rfl hd_X1_earliest ⟨Nat.le_of_ble_eq_true rfl, Nat.le_of_ble_eq_true rfl⟩) hK hP hD hS hA (fun U hW _ => va_AOA.moved hW.alike hXX) (va_recv hK hP (ci := 1) (q0 := 0) rfl rfl) [0, 1] [] rfl rfl (by decide) (by decide) (by decide) rfl hl.1 rfl (Nat.le_of_ble_eq_true rfl) dX1_told_26 ⟨(Nat.le_of_ble_eq_true rfl), (Nat.le_of_ble_eq_true rfl)⟩ (fun u_7 H locs hu hP hD hS hz => ?_)
      have hP : va_P D vwCl ([xMod b 0 tc rc, xArr (t 0) (b 1) 120 (mkM F T L Z), xArr (t 0) u_7 13 (earM F T L Z tc rc)]) H := hP
      have hD : va_D _ ([xMod b 0 tc rc, xArr (t 0) (b 1) 120 (mkM F T L Z), xArr (t 0) u_7 13 (earM F T L Z tc rc)]) := hD
      refine xr_V (b := b 0) (As := [.int (nI k_3), .int (nI k_6), .ref u_7]) (rest := []) ⟨hx, hb, hml, hown, hts⟩ (c_X1_ropeTold l D t b 0 tc rc F T L Z u_7 (earM F T L Z tc rc) k_3 k_6 (by omega) (by omega) hF (by omega) (by omega)) (cwV 3 hts gX1_told_X1_ropeTold rfl rfl rfl hd_X1_ropeTold ⟨Nat.le_of_ble_eq_true rfl, Nat.le_of_ble_eq_true rfl⟩) hK hP (va_recv hK hP (ci := 1) (q0 := 0) rfl rfl) [0, 1, 2] rfl rfl hl.1 rfl (Nat.le_of_ble_eq_true rfl) dX1_told_29 ⟨(Nat.le_of_ble_eq_true rfl), (Nat.le_of_ble_eq_true rfl)⟩ ?_
      refine lv_goto (tgt := 40) hx hb dX1_told_32 (by decide) ?_
      have hP : va_P D vwCl ([xMod b 0 tc rc, xArr (t 0) (b 1) 120 (mkM F T L Z)]) H := hP.sub [0, 1] rfl
      have hD : va_D _ ([xMod b 0 tc rc, xArr (t 0) (b 1) 120 (mkM F T L Z)]) := hD.sub [0, 1] (by decide) rfl
      have hk9 : kIn2 rc 5 p0 p1 = 0 := by simp [kIn2, c_1, eik_3, c_4, eik_6]
      have hP9 : va_P D vwCl ([xMod b (nI (kIn2 rc 5 p0 p1)) tc rc, xArr (t 0) (b 1) 120 (mkM F T L Z)]) H := by rw [hk9]; exact hP
      have hD9 : va_D A ([xMod b (nI (kIn2 rc 5 p0 p1)) tc rc, xArr (t 0) (b 1) 120 (mkM F T L Z)]) := by rw [hk9]; exact hD
      subst hAe
      obtain ⟨hq9, hf9⟩ := xm_end (S := Unit) (pu := (fun u : Unit => True)) (r := (fun u : Unit => some (.int (if kIn2 rc 5 p0 p1 = 0 then toldF (earM F T L Z tc rc 12) (earM F T L Z tc rc) F T L Z (ix p0) (ix p1) else 0)))) (wc := [xMod b th tc rc, xArr (t 0) (b 1) 120 (mkM F T L Z)]) (w1 := (fun u : Unit => [xMod b (nI (kIn2 rc 5 p0 p1)) tc rc, xArr (t 0) (b 1) 120 (mkM F T L Z)])) (o := some (.int (toldF ((earM F T L Z tc rc) 12) (earM F T L Z tc rc) F T L Z k_3 k_6))) (args := ([.ref (b 0), .int p0, .int p1] : List Value).toArray) () rfl trivial (by first | (rw [hk9]; rfl) | (simp only [hk9]; done) | (simp [hk9, c_1, eik_3, c_4, eik_6]; done)) hP9 hD9 hS
      exact W.iret hx hb hr hq9 hf9 dX1_told_40 hlocks
set_option maxHeartbeats 4000000 in
set_option maxRecDepth 100000 in
theorem c_X1_about (l : Launch) (D : va_G) (t : Nat → ClassId) (b : Nat → Nat) (th : Int32) (tc rc : Nat) (F T : Nat → Nat) (L : Nat → Int32) (Z : Nat → Bool) (p0 p1 : Int32) (sz : Nat) (htc : tc ≤ 12) (hrc : rc ≤ 30) (hF : ∀ r, r < rc → F r < tc ∧ T r < tc) : Met l yX1_about wsX1_about ({ frames := 3, cells := 1, slots := 13, locals := 68 }) (xMu D (xTy t) (va_AOA .int) [.ref (b 0), .int p0, .int p1] [xMod b th tc rc, xArr (t 0) (b 1) 120 (mkM F T L Z)] sz) (xQm D (fun u : Unit => True) (fun u : Unit => some (.int (if kIn2 tc 3 p0 p1 = 0 then aboutF (earM F T L Z tc rc 12) (earM F T L Z tc rc) F T Z rc (ix p0) (ix p1) else 0))) [xMod b th tc rc, xArr (t 0) (b 1) 120 (mkM F T L Z)] (fun u : Unit => [xMod b (nI (kIn2 tc 3 p0 p1)) tc rc, xArr (t 0) (b 1) 120 (mkM F T L Z)]) sz) 1 13 (va_A [xMod b th tc rc, xArr (t 0) (b 1) 120 (mkM F T L Z)] sz) := by
  refine Met.ofW (cc := cX1_about) (maxL := 3) (ret := (some .int)) (by decide) rfl ?_
  intro p e s m args below meth c s₁ hB9 hml hv
  obtain ⟨rfl, hsz, hP, hK, hD0, hXX⟩ := hv
  have hx := hB9.exec
  have hb := hB9.bytes
  have hr := hB9.returns
  have hts := atoms_spec (ws := wsX1_about) hB9.pre
  have hown : s.vm.findClass RX1 = some m.cls := findClass_of_methodNamed hB9.named
  have hlocks := hB9.notSynchronized
  have hin : ∀ w ∈ wsX10, w ∈ wsX1_about := fun _ h => List.mem_cons_of_mem _ (List.mem_append_right _ h)
  have fl_13 := hts (.fieldLink RX1 13 "RopeTimesModel" "thrown" "I") (by decide +kernel)
  subst hsz
  have hD := hD0.self (sz := s.heap.size)
  generalize hAe : va_A ([xMod b th tc rc, xArr (t 0) (b 1) 120 (mkM F T L Z)]) s.heap.size = A at hD ⊢
  have hA : ∀ q : Nat, s.heap.size ≤ q → A q := fun q h => by rw [← hAe]; exact Or.inr h
  have hS : va_S A s.heap s.heap [] := va_S.rf
  have hP : va_P D vwCl ([xMod b th tc rc, xArr (t 0) (b 1) 120 (mkM F T L Z)]) s.heap := hP
  have hD : va_D A ([xMod b th tc rc, xArr (t 0) (b 1) 120 (mkM F T L Z)]) := hD
  have hl := lv_entry ([.ref (b 0), .int p0, .int p1]) (n := 3) (Nat.le_of_ble_eq_true rfl)
  rw [lg_entry_eq]
  generalize (lg_sl ([.ref (b 0), .int p0, .int p1]) ++ List.replicate (3 - (lg_sl ([.ref (b 0), .int p0, .int p1])).length) Slot.unset).toArray = ls at hl ⊢
  have hl : lv_has ls 3 [(0, .ref (b 0)), (1, .int p0), (2, .int p1)] := hl
  refine lv_aload_n hx hb dX1_about_0 rfl (lv_at hl 0 rfl) ?_
  refine lv_iconst (v := 0) hx hb dX1_about_1 (by decide) ?_
  refine x1_put (x := 0) hx hb hts hin hown hK hP hD hS 0 ([xMod b 0 tc rc, xArr (t 0) (b 1) 120 (mkM F T L Z)]) rfl 0 (by decide) fl_13 rfl rfl (Nat.le_of_ble_eq_true rfl) rfl dX1_about_2 rfl (fun H locs hP hD hS => ?_)
  refine lv_aload_n hx hb dX1_about_5 rfl (lv_at hl 0 rfl) ?_
  refine lv_iload_n hx hb dX1_about_6 rfl (lv_at hl 1 rfl) ?_
  refine xr_V (b := b 0) (As := [.int p0]) (rest := []) ⟨hx, hb, hml, hown, hts⟩ (c_X1_isTurn l D t b 0 tc rc p0 (by omega)) (cwV 1 hts gX1_about_X1_isTurn rfl rfl rfl hd_X1_isTurn ⟨Nat.le_of_ble_eq_true rfl, Nat.le_of_ble_eq_true rfl⟩) hK hP (va_recv hK hP (ci := 1) (q0 := 0) rfl rfl) [0] rfl rfl hl.1 rfl (Nat.le_of_ble_eq_true rfl) dX1_about_7 ⟨(Nat.le_of_ble_eq_true rfl), (Nat.le_of_ble_eq_true rfl)⟩ ?_
  refine lv_if_eq (x := bI (inB p0 tc)) (tgt := 35) hx hb dX1_about_10 (by decide) (fun c_1 => ?_) (fun c_1 => ?_)
  · have c_1 := bI_0 c_1
    refine lv_aload_n hx hb dX1_about_35 rfl (lv_at hl 0 rfl) ?_
    refine lv_iconst (v := 1) hx hb dX1_about_36 (by decide) ?_
    refine xm_V (b := b 0) (As := [.int 1]) (rest := []) (wr := [xArr (t 0) (b 1) 120 (mkM F T L Z)]) ⟨hx, hb, hml, hown, hts⟩ xTrav_T (c_X1_fail l D t b 0 tc rc 1 _) (cwV 1 hts gX1_about_X1_fail rfl rfl rfl hd_X1_fail ⟨Nat.le_of_ble_eq_true rfl, Nat.le_of_ble_eq_true rfl⟩) hK hP hD hS hA (fun _ _ _ => trivial) (va_recv hK hP (ci := 1) (q0 := 0) rfl rfl) [0] [1] rfl rfl (by decide) (by decide) (by decide) rfl hl.1 rfl (Nat.le_of_ble_eq_true rfl) dX1_about_37 ⟨(Nat.le_of_ble_eq_true rfl), (Nat.le_of_ble_eq_true rfl)⟩ (fun u_2 H locs hu hP hD hS hz => ?_)
    have hP : va_P D vwCl ([xMod b 1 tc rc, xArr (t 0) (b 1) 120 (mkM F T L Z)]) H := hP.sub [1, 0] rfl
    have hD : va_D _ ([xMod b 1 tc rc, xArr (t 0) (b 1) 120 (mkM F T L Z)]) := hD.sub [1, 0] (by decide) rfl
    have hk9 : kIn2 tc 3 p0 p1 = 1 := by simp [kIn2, c_1]
    have hP9 : va_P D vwCl ([xMod b (nI (kIn2 tc 3 p0 p1)) tc rc, xArr (t 0) (b 1) 120 (mkM F T L Z)]) H := by rw [hk9]; exact hP
    have hD9 : va_D A ([xMod b (nI (kIn2 tc 3 p0 p1)) tc rc, xArr (t 0) (b 1) 120 (mkM F T L Z)]) := by rw [hk9]; exact hD
    subst hAe
    refine W.widen (k := 1) (n := 13) (Nat.le_of_ble_eq_true rfl) (Nat.le_of_ble_eq_true rfl) ?_
    obtain ⟨hq9, hf9⟩ := xm_end (S := Unit) (pu := (fun u : Unit => True)) (r := (fun u : Unit => some (.int (if kIn2 tc 3 p0 p1 = 0 then aboutF (earM F T L Z tc rc 12) (earM F T L Z tc rc) F T Z rc (ix p0) (ix p1) else 0)))) (wc := [xMod b th tc rc, xArr (t 0) (b 1) 120 (mkM F T L Z)]) (w1 := (fun u : Unit => [xMod b (nI (kIn2 tc 3 p0 p1)) tc rc, xArr (t 0) (b 1) 120 (mkM F T L Z)])) (o := some (.int 0)) (args := ([.ref (b 0), .int p0, .int p1] : List Value).toArray) () rfl trivial (by first | (rw [hk9]; rfl) | (simp only [hk9]; done) | (simp [hk9, c_1]; done)) hP9 hD9 hS
    exact W.iret hx hb hr hq9 hf9 dX1_about_40 hlocks
  · have c_1 := bI_n0 c_1
    obtain ⟨k_3, hk_3, ek_3⟩ := inB_of c_1 (by omega)
    have eik_3 : ix p0 = k_3 := by rw [ek_3]; exact ix_nI (by omega)
    have hl : lv_has ls 3 [(0, .ref (b 0)), (1, .int (nI k_3)), (2, .int p1)] := by rw [← ek_3]; exact hl
    refine lv_iload_n hx hb dX1_about_13 rfl (lv_at hl 2 rfl) ?_
    refine lv_iconst (v := 0) hx hb dX1_about_14 (by decide) ?_
    refine lv_iconst (v := 2) hx hb dX1_about_15 (by decide) ?_
    refine xr_S (As := [.int p1, .int 0, .int 2]) (rest := []) ⟨hx, hb, hml, hown, hts⟩ (c_X1_isIn l D t p1 0 2) (va_cwS 3 hts gX1_about_X1_isIn rfl rfl rfl hd_X1_isIn ⟨Nat.le_of_ble_eq_true rfl, Nat.le_of_ble_eq_true rfl⟩) hK hP [] rfl rfl hl.1 rfl (Nat.le_of_ble_eq_true rfl) dX1_about_16 ⟨(Nat.le_of_ble_eq_true rfl), (Nat.le_of_ble_eq_true rfl)⟩ ?_
    refine x_top (w := bI (inB p1 3)) (by rw [isIn_3]) ?_
    refine lv_if_eq (x := bI (inB p1 3)) (tgt := 35) hx hb dX1_about_19 (by decide) (fun c_4 => ?_) (fun c_4 => ?_)
    · have c_4 := bI_0 c_4
      refine lv_aload_n hx hb dX1_about_35 rfl (lv_at hl 0 rfl) ?_
      refine lv_iconst (v := 1) hx hb dX1_about_36 (by decide) ?_
      refine xm_V (b := b 0) (As := [.int 1]) (rest := []) (wr := [xArr (t 0) (b 1) 120 (mkM F T L Z)]) ⟨hx, hb, hml, hown, hts⟩ xTrav_T (c_X1_fail l D t b 0 tc rc 1 _) (cwV 1 hts gX1_about_X1_fail rfl rfl rfl hd_X1_fail ⟨Nat.le_of_ble_eq_true rfl, Nat.le_of_ble_eq_true rfl⟩) hK hP hD hS hA (fun _ _ _ => trivial) (va_recv hK hP (ci := 1) (q0 := 0) rfl rfl) [0] [1] rfl rfl (by decide) (by decide) (by decide) rfl hl.1 rfl (Nat.le_of_ble_eq_true rfl) dX1_about_37 ⟨(Nat.le_of_ble_eq_true rfl), (Nat.le_of_ble_eq_true rfl)⟩ (fun u_5 H locs hu hP hD hS hz => ?_)
      have hP : va_P D vwCl ([xMod b 1 tc rc, xArr (t 0) (b 1) 120 (mkM F T L Z)]) H := hP.sub [1, 0] rfl
      have hD : va_D _ ([xMod b 1 tc rc, xArr (t 0) (b 1) 120 (mkM F T L Z)]) := hD.sub [1, 0] (by decide) rfl
      have hk9 : kIn2 tc 3 p0 p1 = 1 := by simp [kIn2, c_1, eik_3, c_4]
      have hP9 : va_P D vwCl ([xMod b (nI (kIn2 tc 3 p0 p1)) tc rc, xArr (t 0) (b 1) 120 (mkM F T L Z)]) H := by rw [hk9]; exact hP
      have hD9 : va_D A ([xMod b (nI (kIn2 tc 3 p0 p1)) tc rc, xArr (t 0) (b 1) 120 (mkM F T L Z)]) := by rw [hk9]; exact hD
      subst hAe
      refine W.widen (k := 1) (n := 13) (Nat.le_of_ble_eq_true rfl) (Nat.le_of_ble_eq_true rfl) ?_
      obtain ⟨hq9, hf9⟩ := xm_end (S := Unit) (pu := (fun u : Unit => True)) (r := (fun u : Unit => some (.int (if kIn2 tc 3 p0 p1 = 0 then aboutF (earM F T L Z tc rc 12) (earM F T L Z tc rc) F T Z rc (ix p0) (ix p1) else 0)))) (wc := [xMod b th tc rc, xArr (t 0) (b 1) 120 (mkM F T L Z)]) (w1 := (fun u : Unit => [xMod b (nI (kIn2 tc 3 p0 p1)) tc rc, xArr (t 0) (b 1) 120 (mkM F T L Z)])) (o := some (.int 0)) (args := ([.ref (b 0), .int p0, .int p1] : List Value).toArray) () rfl trivial (by first | (rw [hk9]; rfl) | (simp only [hk9]; done) | (simp [hk9, c_1, eik_3, c_4]; done)) hP9 hD9 hS
      exact W.iret hx hb hr hq9 hf9 dX1_about_40 hlocks
    · have c_4 := bI_n0 c_4
      obtain ⟨k_6, hk_6, ek_6⟩ := inB_of c_4 (by omega)
      have eik_6 : ix p1 = k_6 := by rw [ek_6]; exact ix_nI (by omega)
      have hl : lv_has ls 3 [(0, .ref (b 0)), (1, .int (nI k_3)), (2, .int (nI k_6))] := by rw [← ek_6]; exact hl
      refine lv_aload_n hx hb dX1_about_22 rfl (lv_at hl 0 rfl) ?_
      refine lv_iload_n hx hb dX1_about_23 rfl (lv_at hl 1 rfl) ?_
      refine lv_iload_n hx hb dX1_about_24 rfl (lv_at hl 2 rfl) ?_
      refine lv_aload_n hx hb dX1_about_25 rfl (lv_at hl 0 rfl) ?_
      refine xm_V (b := b 0) (As := []) (rest := [.int (nI k_6), .int (nI k_3), .ref (b 0)]) (wr := []) ⟨hx, hb, hml, hown, hts⟩ aoT (c_X1_earliest l D t b 0 tc rc F T L Z _ (by omega) (by omega) hF) (cwV 0 hts gX1_about_X1_earliest rfl rfl rfl hd_X1_earliest ⟨Nat.le_of_ble_eq_true rfl, Nat.le_of_ble_eq_true rfl⟩) hK hP hD hS hA (fun U hW _ => va_AOA.moved hW.alike hXX) (va_recv hK hP (ci := 1) (q0 := 0) rfl rfl) [0, 1] [] rfl rfl (by decide) (by decide) (by decide) rfl hl.1 rfl (Nat.le_of_ble_eq_true rfl) dX1_about_26 ⟨(Nat.le_of_ble_eq_true rfl), (Nat.le_of_ble_eq_true rfl)⟩ (fun u_7 H locs hu hP hD hS hz => ?_)
      have hP : va_P D vwCl ([xMod b 0 tc rc, xArr (t 0) (b 1) 120 (mkM F T L Z), xArr (t 0) u_7 13 (earM F T L Z tc rc)]) H := hP
      have hD : va_D _ ([xMod b 0 tc rc, xArr (t 0) (b 1) 120 (mkM F T L Z), xArr (t 0) u_7 13 (earM F T L Z tc rc)]) := hD
      refine xr_V (b := b 0) (As := [.int (nI k_3), .int (nI k_6), .ref u_7]) (rest := []) ⟨hx, hb, hml, hown, hts⟩ (c_X1_turnTold l D t b 0 tc rc F T L Z u_7 (earM F T L Z tc rc) k_3 k_6 (by omega) (by omega) hF (by omega) (by omega)) (cwV 3 hts gX1_about_X1_turnTold rfl rfl rfl hd_X1_turnTold ⟨Nat.le_of_ble_eq_true rfl, Nat.le_of_ble_eq_true rfl⟩) hK hP (va_recv hK hP (ci := 1) (q0 := 0) rfl rfl) [0, 1, 2] rfl rfl hl.1 rfl (Nat.le_of_ble_eq_true rfl) dX1_about_29 ⟨(Nat.le_of_ble_eq_true rfl), (Nat.le_of_ble_eq_true rfl)⟩ ?_
      refine lv_goto (tgt := 40) hx hb dX1_about_32 (by decide) ?_
      have hP : va_P D vwCl ([xMod b 0 tc rc, xArr (t 0) (b 1) 120 (mkM F T L Z)]) H := hP.sub [0, 1] rfl
      have hD : va_D _ ([xMod b 0 tc rc, xArr (t 0) (b 1) 120 (mkM F T L Z)]) := hD.sub [0, 1] (by decide) rfl
      have hk9 : kIn2 tc 3 p0 p1 = 0 := by simp [kIn2, c_1, eik_3, c_4, eik_6]
      have hP9 : va_P D vwCl ([xMod b (nI (kIn2 tc 3 p0 p1)) tc rc, xArr (t 0) (b 1) 120 (mkM F T L Z)]) H := by rw [hk9]; exact hP
      have hD9 : va_D A ([xMod b (nI (kIn2 tc 3 p0 p1)) tc rc, xArr (t 0) (b 1) 120 (mkM F T L Z)]) := by rw [hk9]; exact hD
      subst hAe
      obtain ⟨hq9, hf9⟩ := xm_end (S := Unit) (pu := (fun u : Unit => True)) (r := (fun u : Unit => some (.int (if kIn2 tc 3 p0 p1 = 0 then aboutF (earM F T L Z tc rc 12) (earM F T L Z tc rc) F T Z rc (ix p0) (ix p1) else 0)))) (wc := [xMod b th tc rc, xArr (t 0) (b 1) 120 (mkM F T L Z)]) (w1 := (fun u : Unit => [xMod b (nI (kIn2 tc 3 p0 p1)) tc rc, xArr (t 0) (b 1) 120 (mkM F T L Z)])) (o := some (.int (aboutF ((earM F T L Z tc rc) 12) (earM F T L Z tc rc) F T Z rc k_3 k_6))) (args := ([.ref (b 0), .int p0, .int p1] : List Value).toArray) () rfl trivial (by first | (rw [hk9]; rfl) | (simp only [hk9]; done) | (simp [hk9, c_1, eik_3, c_4, eik_6]; done)) hP9 hD9 hS
      exact W.iret hx hb hr hq9 hf9 dX1_about_40 hlocks
set_option maxHeartbeats 4000000 in
set_option maxRecDepth 100000 in
theorem c_X1_count (l : Launch) (D : va_G) (t : Nat → ClassId) (b : Nat → Nat) (th : Int32) (tc rc : Nat) (F T : Nat → Nat) (L : Nat → Int32) (Z : Nat → Bool) (p0 : Int32) (sz : Nat) (htc : tc ≤ 12) (hrc : rc ≤ 30) (hF : ∀ r, r < rc → F r < tc ∧ T r < tc) : Met l yX1_count wsX1_count ({ frames := 4, cells := 157, slots := 1885, locals := 93 }) (xMu D (xTy t) (va_AOA .int) [.ref (b 0), .int p0] [xMod b th tc rc, xArr (t 0) (b 1) 120 (mkM F T L Z)] sz) (xQm D (fun u : Unit => True) (fun u : Unit => some (.int (if kIn 7 p0 = 0 then cntM (earM F T L Z tc rc) F T L Z tc rc (ix p0) else 0))) [xMod b th tc rc, xArr (t 0) (b 1) 120 (mkM F T L Z)] (fun u : Unit => [xMod b (nI (kIn 7 p0)) tc rc, xArr (t 0) (b 1) 120 (mkM F T L Z)]) sz) 157 1885 (va_A [xMod b th tc rc, xArr (t 0) (b 1) 120 (mkM F T L Z)] sz) := by
  refine Met.ofW (cc := cX1_count) (maxL := 2) (ret := (some .int)) (by decide) rfl ?_
  intro p e s m args below meth c s₁ hB9 hml hv
  obtain ⟨rfl, hsz, hP, hK, hD0, hXX⟩ := hv
  have hx := hB9.exec
  have hb := hB9.bytes
  have hr := hB9.returns
  have hts := atoms_spec (ws := wsX1_count) hB9.pre
  have hown : s.vm.findClass RX1 = some m.cls := findClass_of_methodNamed hB9.named
  have hlocks := hB9.notSynchronized
  have hin : ∀ w ∈ wsX10, w ∈ wsX1_count := fun _ h => List.mem_cons_of_mem _ (List.mem_append_right _ h)
  have fl_13 := hts (.fieldLink RX1 13 "RopeTimesModel" "thrown" "I") (by decide +kernel)
  subst hsz
  have hD := hD0.self (sz := s.heap.size)
  generalize hAe : va_A ([xMod b th tc rc, xArr (t 0) (b 1) 120 (mkM F T L Z)]) s.heap.size = A at hD ⊢
  have hA : ∀ q : Nat, s.heap.size ≤ q → A q := fun q h => by rw [← hAe]; exact Or.inr h
  have hS : va_S A s.heap s.heap [] := va_S.rf
  have hP : va_P D vwCl ([xMod b th tc rc, xArr (t 0) (b 1) 120 (mkM F T L Z)]) s.heap := hP
  have hD : va_D A ([xMod b th tc rc, xArr (t 0) (b 1) 120 (mkM F T L Z)]) := hD
  have hl := lv_entry ([.ref (b 0), .int p0]) (n := 2) (Nat.le_of_ble_eq_true rfl)
  rw [lg_entry_eq]
  generalize (lg_sl ([.ref (b 0), .int p0]) ++ List.replicate (2 - (lg_sl ([.ref (b 0), .int p0])).length) Slot.unset).toArray = ls at hl ⊢
  have hl : lv_has ls 2 [(0, .ref (b 0)), (1, .int p0)] := hl
  refine lv_aload_n hx hb dX1_count_0 rfl (lv_at hl 0 rfl) ?_
  refine lv_iconst (v := 0) hx hb dX1_count_1 (by decide) ?_
  refine x1_put (x := 0) hx hb hts hin hown hK hP hD hS 0 ([xMod b 0 tc rc, xArr (t 0) (b 1) 120 (mkM F T L Z)]) rfl 0 (by decide) fl_13 rfl rfl (Nat.le_of_ble_eq_true rfl) rfl dX1_count_2 rfl (fun H locs hP hD hS => ?_)
  refine lv_iload_n hx hb dX1_count_5 rfl (lv_at hl 1 rfl) ?_
  refine lv_iconst (v := 0) hx hb dX1_count_6 (by decide) ?_
  refine lv_bipush (v := 6) hx hb dX1_count_7 (by decide) ?_
  refine xr_S (As := [.int p0, .int 0, .int 6]) (rest := []) ⟨hx, hb, hml, hown, hts⟩ (c_X1_isIn l D t p0 0 6) (va_cwS 3 hts gX1_count_X1_isIn rfl rfl rfl hd_X1_isIn ⟨Nat.le_of_ble_eq_true rfl, Nat.le_of_ble_eq_true rfl⟩) hK hP [] rfl rfl hl.1 rfl (Nat.le_of_ble_eq_true rfl) dX1_count_9 ⟨(Nat.le_of_ble_eq_true rfl), (Nat.le_of_ble_eq_true rfl)⟩ ?_
  refine x_top (w := bI (inB p0 7)) (by rw [isIn_7]) ?_
  refine lv_if_eq (x := bI (inB p0 7)) (tgt := 27) hx hb dX1_count_12 (by decide) (fun c_1 => ?_) (fun c_1 => ?_)
  · have c_1 := bI_0 c_1
    refine lv_aload_n hx hb dX1_count_27 rfl (lv_at hl 0 rfl) ?_
    refine lv_iconst (v := 1) hx hb dX1_count_28 (by decide) ?_
    refine xm_V (b := b 0) (As := [.int 1]) (rest := []) (wr := [xArr (t 0) (b 1) 120 (mkM F T L Z)]) ⟨hx, hb, hml, hown, hts⟩ xTrav_T (c_X1_fail l D t b 0 tc rc 1 _) (cwV 1 hts gX1_count_X1_fail rfl rfl rfl hd_X1_fail ⟨Nat.le_of_ble_eq_true rfl, Nat.le_of_ble_eq_true rfl⟩) hK hP hD hS hA (fun _ _ _ => trivial) (va_recv hK hP (ci := 1) (q0 := 0) rfl rfl) [0] [1] rfl rfl (by decide) (by decide) (by decide) rfl hl.1 rfl (Nat.le_of_ble_eq_true rfl) dX1_count_29 ⟨(Nat.le_of_ble_eq_true rfl), (Nat.le_of_ble_eq_true rfl)⟩ (fun u_2 H locs hu hP hD hS hz => ?_)
    have hP : va_P D vwCl ([xMod b 1 tc rc, xArr (t 0) (b 1) 120 (mkM F T L Z)]) H := hP.sub [1, 0] rfl
    have hD : va_D _ ([xMod b 1 tc rc, xArr (t 0) (b 1) 120 (mkM F T L Z)]) := hD.sub [1, 0] (by decide) rfl
    have hk9 : kIn 7 p0 = 1 := by simp [kIn, c_1]
    have hP9 : va_P D vwCl ([xMod b (nI (kIn 7 p0)) tc rc, xArr (t 0) (b 1) 120 (mkM F T L Z)]) H := by rw [hk9]; exact hP
    have hD9 : va_D A ([xMod b (nI (kIn 7 p0)) tc rc, xArr (t 0) (b 1) 120 (mkM F T L Z)]) := by rw [hk9]; exact hD
    subst hAe
    refine W.widen (k := 157) (n := 1885) (Nat.le_of_ble_eq_true rfl) (Nat.le_of_ble_eq_true rfl) ?_
    obtain ⟨hq9, hf9⟩ := xm_end (S := Unit) (pu := (fun u : Unit => True)) (r := (fun u : Unit => some (.int (if kIn 7 p0 = 0 then cntM (earM F T L Z tc rc) F T L Z tc rc (ix p0) else 0)))) (wc := [xMod b th tc rc, xArr (t 0) (b 1) 120 (mkM F T L Z)]) (w1 := (fun u : Unit => [xMod b (nI (kIn 7 p0)) tc rc, xArr (t 0) (b 1) 120 (mkM F T L Z)])) (o := some (.int 0)) (args := ([.ref (b 0), .int p0] : List Value).toArray) () rfl trivial (by first | (rw [hk9]; rfl) | (simp only [hk9]; done) | (simp [hk9, c_1]; done)) hP9 hD9 hS
    exact W.iret hx hb hr hq9 hf9 dX1_count_32 hlocks
  · have c_1 := bI_n0 c_1
    obtain ⟨k_3, hk_3, ek_3⟩ := inB_of c_1 (by omega)
    have eik_3 : ix p0 = k_3 := by rw [ek_3]; exact ix_nI (by omega)
    have hl : lv_has ls 2 [(0, .ref (b 0)), (1, .int (nI k_3))] := by rw [← ek_3]; exact hl
    refine lv_aload_n hx hb dX1_count_15 rfl (lv_at hl 0 rfl) ?_
    refine lv_iload_n hx hb dX1_count_16 rfl (lv_at hl 1 rfl) ?_
    refine lv_aload_n hx hb dX1_count_17 rfl (lv_at hl 0 rfl) ?_
    refine xm_V (b := b 0) (As := []) (rest := [.int (nI k_3), .ref (b 0)]) (wr := []) ⟨hx, hb, hml, hown, hts⟩ aoT (c_X1_earliest l D t b 0 tc rc F T L Z _ (by omega) (by omega) hF) (cwV 0 hts gX1_count_X1_earliest rfl rfl rfl hd_X1_earliest ⟨Nat.le_of_ble_eq_true rfl, Nat.le_of_ble_eq_true rfl⟩) hK hP hD hS hA (fun U hW _ => va_AOA.moved hW.alike hXX) (va_recv hK hP (ci := 1) (q0 := 0) rfl rfl) [0, 1] [] rfl rfl (by decide) (by decide) (by decide) rfl hl.1 rfl (Nat.le_of_ble_eq_true rfl) dX1_count_18 ⟨(Nat.le_of_ble_eq_true rfl), (Nat.le_of_ble_eq_true rfl)⟩ (fun u_4 H locs hu hP hD hS hz => ?_)
    have hP : va_P D vwCl ([xMod b 0 tc rc, xArr (t 0) (b 1) 120 (mkM F T L Z), xArr (t 0) u_4 13 (earM F T L Z tc rc)]) H := hP
    have hD : va_D _ ([xMod b 0 tc rc, xArr (t 0) (b 1) 120 (mkM F T L Z), xArr (t 0) u_4 13 (earM F T L Z tc rc)]) := hD
    rcases Nat.lt_or_ge k_3 6 with h69 | h69
    · refine xr_V (b := b 0) (As := [.int (nI k_3), .ref u_4]) (rest := []) ⟨hx, hb, hml, hown, hts⟩ (c_X1_countedL l D t b 0 tc rc F T L Z u_4 (earM F T L Z tc rc) k_3 (by omega) (by omega) hF (by omega)) (cwV 2 hts gX1_count_X1_counted rfl rfl rfl hd_X1_counted ⟨Nat.le_of_ble_eq_true rfl, Nat.le_of_ble_eq_true rfl⟩) hK hP (va_recv hK hP (ci := 1) (q0 := 0) rfl rfl) [0, 1, 2] rfl rfl hl.1 rfl (Nat.le_of_ble_eq_true rfl) dX1_count_21 ⟨(Nat.le_of_ble_eq_true rfl), (Nat.le_of_ble_eq_true rfl)⟩ ?_
      refine lv_goto (tgt := 32) hx hb dX1_count_24 (by decide) ?_
      have hP : va_P D vwCl ([xMod b 0 tc rc, xArr (t 0) (b 1) 120 (mkM F T L Z)]) H := hP.sub [0, 1] rfl
      have hD : va_D _ ([xMod b 0 tc rc, xArr (t 0) (b 1) 120 (mkM F T L Z)]) := hD.sub [0, 1] (by decide) rfl
      have hk9 : kIn 7 p0 = 0 := by simp [kIn, c_1, eik_3]
      have hP9 : va_P D vwCl ([xMod b (nI (kIn 7 p0)) tc rc, xArr (t 0) (b 1) 120 (mkM F T L Z)]) H := by rw [hk9]; exact hP
      have hD9 : va_D A ([xMod b (nI (kIn 7 p0)) tc rc, xArr (t 0) (b 1) 120 (mkM F T L Z)]) := by rw [hk9]; exact hD
      subst hAe
      refine W.widen (k := 157) (n := 1885) (Nat.le_of_ble_eq_true rfl) (Nat.le_of_ble_eq_true rfl) ?_
      obtain ⟨hq9, hf9⟩ := xm_end (S := Unit) (pu := (fun u : Unit => True)) (r := (fun u : Unit => some (.int (if kIn 7 p0 = 0 then cntM (earM F T L Z tc rc) F T L Z tc rc (ix p0) else 0)))) (wc := [xMod b th tc rc, xArr (t 0) (b 1) 120 (mkM F T L Z)]) (w1 := (fun u : Unit => [xMod b (nI (kIn 7 p0)) tc rc, xArr (t 0) (b 1) 120 (mkM F T L Z)])) (o := some (.int (cntM (earM F T L Z tc rc) F T L Z tc rc k_3))) (args := ([.ref (b 0), .int p0] : List Value).toArray) () rfl trivial (by first | (rw [hk9]; rfl) | (simp only [hk9]; done) | (simp [hk9, c_1, eik_3]; done)) hP9 hD9 hS
      exact W.iret hx hb hr hq9 hf9 dX1_count_32 hlocks
    · obtain rfl : k_3 = 6 := by omega
      refine xm_V (b := b 0) (As := [.int (nI 6), .ref u_4]) (rest := []) (wr := []) ⟨hx, hb, hml, hown, hts⟩ aoT (c_X1_countedH l D t b 0 tc rc F T L Z u_4 (earM F T L Z tc rc) _ (by omega) (by omega) hF) (cwV 2 hts gX1_count_X1_counted rfl rfl rfl hd_X1_counted ⟨Nat.le_of_ble_eq_true rfl, Nat.le_of_ble_eq_true rfl⟩) hK hP hD hS hA (fun U hW _ => va_AOA.moved hW.alike hXX) (va_recv hK hP (ci := 1) (q0 := 0) rfl rfl) [0, 1, 2] [] rfl rfl (by decide) (by decide) (by decide) rfl hl.1 rfl (Nat.le_of_ble_eq_true rfl) dX1_count_21 ⟨(Nat.le_of_ble_eq_true rfl), (Nat.le_of_ble_eq_true rfl)⟩ (fun u_5 H locs hu hP hD hS hz => ?_)
      have hP : va_P D vwCl ([xMod b 0 tc rc, xArr (t 0) (b 1) 120 (mkM F T L Z), xArr (t 0) u_4 13 (earM F T L Z tc rc)]) H := hP
      have hD : va_D _ ([xMod b 0 tc rc, xArr (t 0) (b 1) 120 (mkM F T L Z), xArr (t 0) u_4 13 (earM F T L Z tc rc)]) := hD
      refine lv_goto (tgt := 32) hx hb dX1_count_24 (by decide) ?_
      have hP : va_P D vwCl ([xMod b 0 tc rc, xArr (t 0) (b 1) 120 (mkM F T L Z)]) H := hP.sub [0, 1] rfl
      have hD : va_D _ ([xMod b 0 tc rc, xArr (t 0) (b 1) 120 (mkM F T L Z)]) := hD.sub [0, 1] (by decide) rfl
      have hk9 : kIn 7 p0 = 0 := by simp [kIn, c_1, eik_3]
      have hP9 : va_P D vwCl ([xMod b (nI (kIn 7 p0)) tc rc, xArr (t 0) (b 1) 120 (mkM F T L Z)]) H := by rw [hk9]; exact hP
      have hD9 : va_D A ([xMod b (nI (kIn 7 p0)) tc rc, xArr (t 0) (b 1) 120 (mkM F T L Z)]) := by rw [hk9]; exact hD
      subst hAe
      obtain ⟨hq9, hf9⟩ := xm_end (S := Unit) (pu := (fun u : Unit => True)) (r := (fun u : Unit => some (.int (if kIn 7 p0 = 0 then cntM (earM F T L Z tc rc) F T L Z tc rc (ix p0) else 0)))) (wc := [xMod b th tc rc, xArr (t 0) (b 1) 120 (mkM F T L Z)]) (w1 := (fun u : Unit => [xMod b (nI (kIn 7 p0)) tc rc, xArr (t 0) (b 1) 120 (mkM F T L Z)])) (o := some (.int (cntM (earM F T L Z tc rc) F T L Z tc rc 6))) (args := ([.ref (b 0), .int p0] : List Value).toArray) () rfl trivial (by first | (rw [hk9]; rfl) | (simp only [hk9]; done) | (simp [hk9, c_1, eik_3]; done)) hP9 hD9 hS
      exact W.iret hx hb hr hq9 hf9 dX1_count_32 hlocks
set_option maxHeartbeats 4000000 in
set_option maxRecDepth 100000 in
theorem c_X1_most (l : Launch) (D : va_G) (t : Nat → ClassId) (b : Nat → Nat) (th : Int32) (tc rc : Nat) (F T : Nat → Nat) (L : Nat → Int32) (Z : Nat → Bool) (p0 p1 : Int32) (sz : Nat) (htc : tc ≤ 12) (hrc : rc ≤ 30) (hF : ∀ r, r < rc → F r < tc ∧ T r < tc) : Met l yX1_most wsX1_most ({ frames := 4, cells := 14, slots := 169, locals := 88 }) (xMu D (xTy t) (va_AOA .int) [.ref (b 0), .int p0, .int p1] [xMod b th tc rc, xArr (t 0) (b 1) 120 (mkM F T L Z)] sz) (xQm D (fun u : Unit => True) (fun u : Unit => some (.int (if c2 (kMost tc (earM F T L Z tc rc 12) p0 p1) = 0 then wayM F T L Z tc rc (ix p0) (ix p1) else 0))) [xMod b th tc rc, xArr (t 0) (b 1) 120 (mkM F T L Z)] (fun u : Unit => [xMod b (nI (c2 (kMost tc (earM F T L Z tc rc 12) p0 p1))) tc rc, xArr (t 0) (b 1) 120 (mkM F T L Z)]) sz) 14 169 (va_A [xMod b th tc rc, xArr (t 0) (b 1) 120 (mkM F T L Z)] sz) := by
  refine Met.ofW (cc := cX1_most) (maxL := 3) (ret := (some .int)) (by decide) rfl ?_
  intro p e s m args below meth c s₁ hB9 hml hv
  obtain ⟨rfl, hsz, hP, hK, hD0, hXX⟩ := hv
  have hx := hB9.exec
  have hb := hB9.bytes
  have hr := hB9.returns
  have hts := atoms_spec (ws := wsX1_most) hB9.pre
  have hown : s.vm.findClass RX1 = some m.cls := findClass_of_methodNamed hB9.named
  have hlocks := hB9.notSynchronized
  have hin : ∀ w ∈ wsX10, w ∈ wsX1_most := fun _ h => List.mem_cons_of_mem _ (List.mem_append_right _ h)
  have fl_13 := hts (.fieldLink RX1 13 "RopeTimesModel" "thrown" "I") (by decide +kernel)
  subst hsz
  have hD := hD0.self (sz := s.heap.size)
  generalize hAe : va_A ([xMod b th tc rc, xArr (t 0) (b 1) 120 (mkM F T L Z)]) s.heap.size = A at hD ⊢
  have hA : ∀ q : Nat, s.heap.size ≤ q → A q := fun q h => by rw [← hAe]; exact Or.inr h
  have hS : va_S A s.heap s.heap [] := va_S.rf
  have hP : va_P D vwCl ([xMod b th tc rc, xArr (t 0) (b 1) 120 (mkM F T L Z)]) s.heap := hP
  have hD : va_D A ([xMod b th tc rc, xArr (t 0) (b 1) 120 (mkM F T L Z)]) := hD
  have hl := lv_entry ([.ref (b 0), .int p0, .int p1]) (n := 3) (Nat.le_of_ble_eq_true rfl)
  rw [lg_entry_eq]
  generalize (lg_sl ([.ref (b 0), .int p0, .int p1]) ++ List.replicate (3 - (lg_sl ([.ref (b 0), .int p0, .int p1])).length) Slot.unset).toArray = ls at hl ⊢
  have hl : lv_has ls 3 [(0, .ref (b 0)), (1, .int p0), (2, .int p1)] := hl
  refine lv_aload_n hx hb dX1_most_0 rfl (lv_at hl 0 rfl) ?_
  refine lv_iconst (v := 0) hx hb dX1_most_1 (by decide) ?_
  refine x1_put (x := 0) hx hb hts hin hown hK hP hD hS 0 ([xMod b 0 tc rc, xArr (t 0) (b 1) 120 (mkM F T L Z)]) rfl 0 (by decide) fl_13 rfl rfl (Nat.le_of_ble_eq_true rfl) rfl dX1_most_2 rfl (fun H locs hP hD hS => ?_)
  refine lv_aload_n hx hb dX1_most_5 rfl (lv_at hl 0 rfl) ?_
  refine lv_iload_n hx hb dX1_most_6 rfl (lv_at hl 1 rfl) ?_
  refine xr_V (b := b 0) (As := [.int p0]) (rest := []) ⟨hx, hb, hml, hown, hts⟩ (c_X1_isTurn l D t b 0 tc rc p0 (by omega)) (cwV 1 hts gX1_most_X1_isTurn rfl rfl rfl hd_X1_isTurn ⟨Nat.le_of_ble_eq_true rfl, Nat.le_of_ble_eq_true rfl⟩) hK hP (va_recv hK hP (ci := 1) (q0 := 0) rfl rfl) [0] rfl rfl hl.1 rfl (Nat.le_of_ble_eq_true rfl) dX1_most_7 ⟨(Nat.le_of_ble_eq_true rfl), (Nat.le_of_ble_eq_true rfl)⟩ ?_
  refine lv_if_eq (x := bI (inB p0 tc)) (tgt := 21) hx hb dX1_most_10 (by decide) (fun c_1 => ?_) (fun c_1 => ?_)
  · have c_1 := bI_0 c_1
    refine lv_aload_n hx hb dX1_most_21 rfl (lv_at hl 0 rfl) ?_
    refine lv_iconst (v := 1) hx hb dX1_most_22 (by decide) ?_
    refine xm_V (b := b 0) (As := [.int 1]) (rest := []) (wr := [xArr (t 0) (b 1) 120 (mkM F T L Z)]) ⟨hx, hb, hml, hown, hts⟩ xTrav_T (c_X1_fail l D t b 0 tc rc 1 _) (cwV 1 hts gX1_most_X1_fail rfl rfl rfl hd_X1_fail ⟨Nat.le_of_ble_eq_true rfl, Nat.le_of_ble_eq_true rfl⟩) hK hP hD hS hA (fun _ _ _ => trivial) (va_recv hK hP (ci := 1) (q0 := 0) rfl rfl) [0] [1] rfl rfl (by decide) (by decide) (by decide) rfl hl.1 rfl (Nat.le_of_ble_eq_true rfl) dX1_most_23 ⟨(Nat.le_of_ble_eq_true rfl), (Nat.le_of_ble_eq_true rfl)⟩ (fun u_2 H locs hu hP hD hS hz => ?_)
    have hP : va_P D vwCl ([xMod b 1 tc rc, xArr (t 0) (b 1) 120 (mkM F T L Z)]) H := hP.sub [1, 0] rfl
    have hD : va_D _ ([xMod b 1 tc rc, xArr (t 0) (b 1) 120 (mkM F T L Z)]) := hD.sub [1, 0] (by decide) rfl
    have hk9 : c2 (kMost tc (earM F T L Z tc rc 12) p0 p1) = 1 := by simp [c2, kMost, c_1]
    have hP9 : va_P D vwCl ([xMod b (nI (c2 (kMost tc (earM F T L Z tc rc 12) p0 p1))) tc rc, xArr (t 0) (b 1) 120 (mkM F T L Z)]) H := by rw [hk9]; exact hP
    have hD9 : va_D A ([xMod b (nI (c2 (kMost tc (earM F T L Z tc rc 12) p0 p1))) tc rc, xArr (t 0) (b 1) 120 (mkM F T L Z)]) := by rw [hk9]; exact hD
    subst hAe
    refine W.widen (k := 14) (n := 169) (Nat.le_of_ble_eq_true rfl) (Nat.le_of_ble_eq_true rfl) ?_
    obtain ⟨hq9, hf9⟩ := xm_end (S := Unit) (pu := (fun u : Unit => True)) (r := (fun u : Unit => some (.int (if c2 (kMost tc (earM F T L Z tc rc 12) p0 p1) = 0 then wayM F T L Z tc rc (ix p0) (ix p1) else 0)))) (wc := [xMod b th tc rc, xArr (t 0) (b 1) 120 (mkM F T L Z)]) (w1 := (fun u : Unit => [xMod b (nI (c2 (kMost tc (earM F T L Z tc rc 12) p0 p1))) tc rc, xArr (t 0) (b 1) 120 (mkM F T L Z)])) (o := some (.int 0)) (args := ([.ref (b 0), .int p0, .int p1] : List Value).toArray) () rfl trivial (by first | (rw [hk9]; rfl) | (simp only [hk9]; done) | (simp [hk9, c_1]; done)) hP9 hD9 hS
    exact W.iret hx hb hr hq9 hf9 dX1_most_26 hlocks
  · have c_1 := bI_n0 c_1
    obtain ⟨k_3, hk_3, ek_3⟩ := inB_of c_1 (by omega)
    have eik_3 : ix p0 = k_3 := by rw [ek_3]; exact ix_nI (by omega)
    have hl : lv_has ls 3 [(0, .ref (b 0)), (1, .int (nI k_3)), (2, .int p1)] := by rw [← ek_3]; exact hl
    refine lv_aload_n hx hb dX1_most_13 rfl (lv_at hl 0 rfl) ?_
    refine lv_iload_n hx hb dX1_most_14 rfl (lv_at hl 2 rfl) ?_
    refine xr_V (b := b 0) (As := [.int p1]) (rest := []) ⟨hx, hb, hml, hown, hts⟩ (c_X1_isTurn l D t b 0 tc rc p1 (by omega)) (cwV 1 hts gX1_most_X1_isTurn rfl rfl rfl hd_X1_isTurn ⟨Nat.le_of_ble_eq_true rfl, Nat.le_of_ble_eq_true rfl⟩) hK hP (va_recv hK hP (ci := 1) (q0 := 0) rfl rfl) [0] rfl rfl hl.1 rfl (Nat.le_of_ble_eq_true rfl) dX1_most_15 ⟨(Nat.le_of_ble_eq_true rfl), (Nat.le_of_ble_eq_true rfl)⟩ ?_
    refine lv_if_ne (x := bI (inB p1 tc)) (tgt := 27) hx hb dX1_most_18 (by decide) (fun c_4 => ?_) (fun c_4 => ?_)
    · have c_4 := bI_n0 c_4
      obtain ⟨k_5, hk_5, ek_5⟩ := inB_of c_4 (by omega)
      have eik_5 : ix p1 = k_5 := by rw [ek_5]; exact ix_nI (by omega)
      have hl : lv_has ls 3 [(0, .ref (b 0)), (1, .int (nI k_3)), (2, .int (nI k_5))] := by rw [← ek_5]; exact hl
      refine lv_aload_n hx hb dX1_most_27 rfl (lv_at hl 0 rfl) ?_
      refine xm_V (b := b 0) (As := []) (rest := []) (wr := []) ⟨hx, hb, hml, hown, hts⟩ aoT (c_X1_isHeld l D t b 0 tc rc F T L Z _ (by omega) (by omega) hF) (cwV 0 hts gX1_most_X1_isHeld rfl rfl rfl hd_X1_isHeld ⟨Nat.le_of_ble_eq_true rfl, Nat.le_of_ble_eq_true rfl⟩) hK hP hD hS hA (fun U hW _ => va_AOA.moved hW.alike hXX) (va_recv hK hP (ci := 1) (q0 := 0) rfl rfl) [0, 1] [] rfl rfl (by decide) (by decide) (by decide) rfl hl.1 rfl (Nat.le_of_ble_eq_true rfl) dX1_most_28 ⟨(Nat.le_of_ble_eq_true rfl), (Nat.le_of_ble_eq_true rfl)⟩ (fun u_6 H locs hu hP hD hS hz => ?_)
      have hP : va_P D vwCl ([xMod b 0 tc rc, xArr (t 0) (b 1) 120 (mkM F T L Z)]) H := hP
      have hD : va_D _ ([xMod b 0 tc rc, xArr (t 0) (b 1) 120 (mkM F T L Z)]) := hD
      refine lv_if_eq (x := bI (decide (¬ earM F T L Z tc rc 12 = -1))) (tgt := 45) hx hb dX1_most_31 (by decide) (fun c_7 => ?_) (fun c_7 => ?_)
      · have c_7 := Classical.not_not.mp (of_decide_eq_false (bI_0 c_7))
        refine lv_aload_n hx hb dX1_most_45 rfl (lv_at hl 0 rfl) ?_
        refine lv_iconst (v := 2) hx hb dX1_most_46 (by decide) ?_
        refine xm_V (b := b 0) (As := [.int 2]) (rest := []) (wr := [xArr (t 0) (b 1) 120 (mkM F T L Z)]) ⟨hx, hb, hml, hown, hts⟩ xTrav_T (c_X1_fail l D t b 0 tc rc 2 _) (cwV 1 hts gX1_most_X1_fail rfl rfl rfl hd_X1_fail ⟨Nat.le_of_ble_eq_true rfl, Nat.le_of_ble_eq_true rfl⟩) hK hP hD hS hA (fun _ _ _ => trivial) (va_recv hK hP (ci := 1) (q0 := 0) rfl rfl) [0] [1] rfl rfl (by decide) (by decide) (by decide) rfl hl.1 rfl (Nat.le_of_ble_eq_true rfl) dX1_most_47 ⟨(Nat.le_of_ble_eq_true rfl), (Nat.le_of_ble_eq_true rfl)⟩ (fun u_8 H locs hu hP hD hS hz => ?_)
        have hP : va_P D vwCl ([xMod b 2 tc rc, xArr (t 0) (b 1) 120 (mkM F T L Z)]) H := hP.sub [1, 0] rfl
        have hD : va_D _ ([xMod b 2 tc rc, xArr (t 0) (b 1) 120 (mkM F T L Z)]) := hD.sub [1, 0] (by decide) rfl
        have hk9 : c2 (kMost tc (earM F T L Z tc rc 12) p0 p1) = 2 := by simp [c2, kMost, c_1, eik_3, c_4, eik_5, c_7]
        have hP9 : va_P D vwCl ([xMod b (nI (c2 (kMost tc (earM F T L Z tc rc 12) p0 p1))) tc rc, xArr (t 0) (b 1) 120 (mkM F T L Z)]) H := by rw [hk9]; exact hP
        have hD9 : va_D A ([xMod b (nI (c2 (kMost tc (earM F T L Z tc rc 12) p0 p1))) tc rc, xArr (t 0) (b 1) 120 (mkM F T L Z)]) := by rw [hk9]; exact hD
        subst hAe
        refine W.widen (k := 14) (n := 169) (Nat.le_of_ble_eq_true rfl) (Nat.le_of_ble_eq_true rfl) ?_
        obtain ⟨hq9, hf9⟩ := xm_end (S := Unit) (pu := (fun u : Unit => True)) (r := (fun u : Unit => some (.int (if c2 (kMost tc (earM F T L Z tc rc 12) p0 p1) = 0 then wayM F T L Z tc rc (ix p0) (ix p1) else 0)))) (wc := [xMod b th tc rc, xArr (t 0) (b 1) 120 (mkM F T L Z)]) (w1 := (fun u : Unit => [xMod b (nI (c2 (kMost tc (earM F T L Z tc rc 12) p0 p1))) tc rc, xArr (t 0) (b 1) 120 (mkM F T L Z)])) (o := some (.int 0)) (args := ([.ref (b 0), .int p0, .int p1] : List Value).toArray) () rfl trivial (by first | (rw [hk9]; rfl) | (simp only [hk9]; done) | (simp [hk9, c_1, eik_3, c_4, eik_5, c_7]; done)) hP9 hD9 hS
        exact W.iret hx hb hr hq9 hf9 dX1_most_50 hlocks
      · have c_7 := of_decide_eq_true (bI_n0 c_7)
        refine lv_aload_n hx hb dX1_most_34 rfl (lv_at hl 0 rfl) ?_
        refine xm_V (b := b 0) (As := []) (rest := []) (wr := []) ⟨hx, hb, hml, hown, hts⟩ aoT (c_X1_ways l D t b 0 tc rc F T L Z _ (by omega) (by omega) hF) (cwV 0 hts gX1_most_X1_ways rfl rfl rfl hd_X1_ways ⟨Nat.le_of_ble_eq_true rfl, Nat.le_of_ble_eq_true rfl⟩) hK hP hD hS hA (fun U hW _ => va_AOA.moved hW.alike hXX) (va_recv hK hP (ci := 1) (q0 := 0) rfl rfl) [0, 1] [] rfl rfl (by decide) (by decide) (by decide) rfl hl.1 rfl (Nat.le_of_ble_eq_true rfl) dX1_most_35 ⟨(Nat.le_of_ble_eq_true rfl), (Nat.le_of_ble_eq_true rfl)⟩ (fun u_9 H locs hu hP hD hS hz => ?_)
        have hP : va_P D vwCl ([xMod b 0 tc rc, xArr (t 0) (b 1) 120 (mkM F T L Z), xGo (t 3) u_9.1 u_9.2] ++ xGr (t 0) u_9.2 (wayM F T L Z tc rc)) H := hP
        have hD : va_D _ ([xMod b 0 tc rc, xArr (t 0) (b 1) 120 (mkM F T L Z), xGo (t 3) u_9.1 u_9.2] ++ xGr (t 0) u_9.2 (wayM F T L Z tc rc)) := hD
        refine lv_iload_n hx hb dX1_most_38 rfl (lv_at hl 1 rfl) ?_
        refine x_aald (v := u_9.2 k_3) hx hb hK hP 2 3 rfl rfl (k := k_3) (by omega) (Nat.le_of_ble_eq_true rfl) (if_pos (by omega)) dX1_most_39 ?_
        refine lv_iload_n hx hb dX1_most_40 rfl (lv_at hl 2 rfl) ?_
        refine x_gld (M := wayM F T L Z tc rc) (i := k_3) (j := k_5) hx hb hK hP 0 rfl (by omega) (by omega) dX1_most_41 ?_
        refine lv_goto (tgt := 50) hx hb dX1_most_42 (by decide) ?_
        have hP : va_P D vwCl ([xMod b 0 tc rc, xArr (t 0) (b 1) 120 (mkM F T L Z)]) H := hP.sub [0, 1] rfl
        have hD : va_D _ ([xMod b 0 tc rc, xArr (t 0) (b 1) 120 (mkM F T L Z)]) := hD.sub [0, 1] (by decide) rfl
        have hk9 : c2 (kMost tc (earM F T L Z tc rc 12) p0 p1) = 0 := by simp [c2, kMost, c_1, eik_3, c_4, eik_5, c_7]
        have hP9 : va_P D vwCl ([xMod b (nI (c2 (kMost tc (earM F T L Z tc rc 12) p0 p1))) tc rc, xArr (t 0) (b 1) 120 (mkM F T L Z)]) H := by rw [hk9]; exact hP
        have hD9 : va_D A ([xMod b (nI (c2 (kMost tc (earM F T L Z tc rc 12) p0 p1))) tc rc, xArr (t 0) (b 1) 120 (mkM F T L Z)]) := by rw [hk9]; exact hD
        subst hAe
        obtain ⟨hq9, hf9⟩ := xm_end (S := Unit) (pu := (fun u : Unit => True)) (r := (fun u : Unit => some (.int (if c2 (kMost tc (earM F T L Z tc rc 12) p0 p1) = 0 then wayM F T L Z tc rc (ix p0) (ix p1) else 0)))) (wc := [xMod b th tc rc, xArr (t 0) (b 1) 120 (mkM F T L Z)]) (w1 := (fun u : Unit => [xMod b (nI (c2 (kMost tc (earM F T L Z tc rc 12) p0 p1))) tc rc, xArr (t 0) (b 1) 120 (mkM F T L Z)])) (o := some (.int ((wayM F T L Z tc rc) k_3 k_5))) (args := ([.ref (b 0), .int p0, .int p1] : List Value).toArray) () rfl trivial (by first | (rw [hk9]; rfl) | (simp only [hk9]; done) | (simp [hk9, c_1, eik_3, c_4, eik_5, c_7]; done)) hP9 hD9 hS
        exact W.iret hx hb hr hq9 hf9 dX1_most_50 hlocks
    · have c_4 := bI_0 c_4
      refine lv_aload_n hx hb dX1_most_21 rfl (lv_at hl 0 rfl) ?_
      refine lv_iconst (v := 1) hx hb dX1_most_22 (by decide) ?_
      refine xm_V (b := b 0) (As := [.int 1]) (rest := []) (wr := [xArr (t 0) (b 1) 120 (mkM F T L Z)]) ⟨hx, hb, hml, hown, hts⟩ xTrav_T (c_X1_fail l D t b 0 tc rc 1 _) (cwV 1 hts gX1_most_X1_fail rfl rfl rfl hd_X1_fail ⟨Nat.le_of_ble_eq_true rfl, Nat.le_of_ble_eq_true rfl⟩) hK hP hD hS hA (fun _ _ _ => trivial) (va_recv hK hP (ci := 1) (q0 := 0) rfl rfl) [0] [1] rfl rfl (by decide) (by decide) (by decide) rfl hl.1 rfl (Nat.le_of_ble_eq_true rfl) dX1_most_23 ⟨(Nat.le_of_ble_eq_true rfl), (Nat.le_of_ble_eq_true rfl)⟩ (fun u_10 H locs hu hP hD hS hz => ?_)
      have hP : va_P D vwCl ([xMod b 1 tc rc, xArr (t 0) (b 1) 120 (mkM F T L Z)]) H := hP.sub [1, 0] rfl
      have hD : va_D _ ([xMod b 1 tc rc, xArr (t 0) (b 1) 120 (mkM F T L Z)]) := hD.sub [1, 0] (by decide) rfl
      have hk9 : c2 (kMost tc (earM F T L Z tc rc 12) p0 p1) = 1 := by simp [c2, kMost, c_1, eik_3, c_4]
      have hP9 : va_P D vwCl ([xMod b (nI (c2 (kMost tc (earM F T L Z tc rc 12) p0 p1))) tc rc, xArr (t 0) (b 1) 120 (mkM F T L Z)]) H := by rw [hk9]; exact hP
      have hD9 : va_D A ([xMod b (nI (c2 (kMost tc (earM F T L Z tc rc 12) p0 p1))) tc rc, xArr (t 0) (b 1) 120 (mkM F T L Z)]) := by rw [hk9]; exact hD
      subst hAe
      refine W.widen (k := 14) (n := 169) (Nat.le_of_ble_eq_true rfl) (Nat.le_of_ble_eq_true rfl) ?_
      obtain ⟨hq9, hf9⟩ := xm_end (S := Unit) (pu := (fun u : Unit => True)) (r := (fun u : Unit => some (.int (if c2 (kMost tc (earM F T L Z tc rc 12) p0 p1) = 0 then wayM F T L Z tc rc (ix p0) (ix p1) else 0)))) (wc := [xMod b th tc rc, xArr (t 0) (b 1) 120 (mkM F T L Z)]) (w1 := (fun u : Unit => [xMod b (nI (c2 (kMost tc (earM F T L Z tc rc 12) p0 p1))) tc rc, xArr (t 0) (b 1) 120 (mkM F T L Z)])) (o := some (.int 0)) (args := ([.ref (b 0), .int p0, .int p1] : List Value).toArray) () rfl trivial (by first | (rw [hk9]; rfl) | (simp only [hk9]; done) | (simp [hk9, c_1, eik_3, c_4]; done)) hP9 hD9 hS
      exact W.iret hx hb hr hq9 hf9 dX1_most_26 hlocks
set_option maxHeartbeats 4000000 in
set_option maxRecDepth 100000 in
theorem c_X1_room (l : Launch) (D : va_G) (t : Nat → ClassId) (b : Nat → Nat) (th : Int32) (tc rc : Nat) (F T : Nat → Nat) (L : Nat → Int32) (Z : Nat → Bool) (p0 : Int32) (sz : Nat) (htc : tc ≤ 12) (hrc : rc ≤ 30) (hF : ∀ r, r < rc → F r < tc ∧ T r < tc) : Met l yX1_room wsX1_room ({ frames := 4, cells := 14, slots := 169, locals := 89 }) (xMu D (xTy t) (va_AOA .int) [.ref (b 0), .int p0] [xMod b th tc rc, xArr (t 0) (b 1) 120 (mkM F T L Z)] sz) (xQm D (fun u : Unit => True) (fun u : Unit => some (.int (if c2 (kRoom rc Z (earM F T L Z tc rc 12) p0) = 0 then leastG (wayM F T L Z tc rc) (F (ix p0)) (T (ix p0)) else 0))) [xMod b th tc rc, xArr (t 0) (b 1) 120 (mkM F T L Z)] (fun u : Unit => [xMod b (nI (c2 (kRoom rc Z (earM F T L Z tc rc 12) p0))) tc rc, xArr (t 0) (b 1) 120 (mkM F T L Z)]) sz) 14 169 (va_A [xMod b th tc rc, xArr (t 0) (b 1) 120 (mkM F T L Z)] sz) := by
  refine Met.ofW (cc := cX1_room) (maxL := 2) (ret := (some .int)) (by decide) rfl ?_
  intro p e s m args below meth c s₁ hB9 hml hv
  obtain ⟨rfl, hsz, hP, hK, hD0, hXX⟩ := hv
  have hx := hB9.exec
  have hb := hB9.bytes
  have hr := hB9.returns
  have hts := atoms_spec (ws := wsX1_room) hB9.pre
  have hown : s.vm.findClass RX1 = some m.cls := findClass_of_methodNamed hB9.named
  have hlocks := hB9.notSynchronized
  have hin : ∀ w ∈ wsX10, w ∈ wsX1_room := fun _ h => List.mem_cons_of_mem _ (List.mem_append_right _ h)
  have fl_13 := hts (.fieldLink RX1 13 "RopeTimesModel" "thrown" "I") (by decide +kernel)
  subst hsz
  have hD := hD0.self (sz := s.heap.size)
  generalize hAe : va_A ([xMod b th tc rc, xArr (t 0) (b 1) 120 (mkM F T L Z)]) s.heap.size = A at hD ⊢
  have hA : ∀ q : Nat, s.heap.size ≤ q → A q := fun q h => by rw [← hAe]; exact Or.inr h
  have hS : va_S A s.heap s.heap [] := va_S.rf
  have hP : va_P D vwCl ([xMod b th tc rc, xArr (t 0) (b 1) 120 (mkM F T L Z)]) s.heap := hP
  have hD : va_D A ([xMod b th tc rc, xArr (t 0) (b 1) 120 (mkM F T L Z)]) := hD
  have hl := lv_entry ([.ref (b 0), .int p0]) (n := 2) (Nat.le_of_ble_eq_true rfl)
  rw [lg_entry_eq]
  generalize (lg_sl ([.ref (b 0), .int p0]) ++ List.replicate (2 - (lg_sl ([.ref (b 0), .int p0])).length) Slot.unset).toArray = ls at hl ⊢
  have hl : lv_has ls 2 [(0, .ref (b 0)), (1, .int p0)] := hl
  refine lv_aload_n hx hb dX1_room_0 rfl (lv_at hl 0 rfl) ?_
  refine lv_iconst (v := 0) hx hb dX1_room_1 (by decide) ?_
  refine x1_put (x := 0) hx hb hts hin hown hK hP hD hS 0 ([xMod b 0 tc rc, xArr (t 0) (b 1) 120 (mkM F T L Z)]) rfl 0 (by decide) fl_13 rfl rfl (Nat.le_of_ble_eq_true rfl) rfl dX1_room_2 rfl (fun H locs hP hD hS => ?_)
  refine lv_aload_n hx hb dX1_room_5 rfl (lv_at hl 0 rfl) ?_
  refine lv_iload_n hx hb dX1_room_6 rfl (lv_at hl 1 rfl) ?_
  refine xr_V (b := b 0) (As := [.int p0]) (rest := []) ⟨hx, hb, hml, hown, hts⟩ (c_X1_isRope l D t b 0 tc rc p0 (by omega)) (cwV 1 hts gX1_room_X1_isRope rfl rfl rfl hd_X1_isRope ⟨Nat.le_of_ble_eq_true rfl, Nat.le_of_ble_eq_true rfl⟩) hK hP (va_recv hK hP (ci := 1) (q0 := 0) rfl rfl) [0] rfl rfl hl.1 rfl (Nat.le_of_ble_eq_true rfl) dX1_room_7 ⟨(Nat.le_of_ble_eq_true rfl), (Nat.le_of_ble_eq_true rfl)⟩ ?_
  refine lv_if_ne (x := bI (inB p0 rc)) (tgt := 19) hx hb dX1_room_10 (by decide) (fun c_1 => ?_) (fun c_1 => ?_)
  · have c_1 := bI_n0 c_1
    obtain ⟨k_2, hk_2, ek_2⟩ := inB_of c_1 (by omega)
    have eik_2 : ix p0 = k_2 := by rw [ek_2]; exact ix_nI (by omega)
    have hl : lv_has ls 2 [(0, .ref (b 0)), (1, .int (nI k_2))] := by rw [← ek_2]; exact hl
    refine lv_aload_n hx hb dX1_room_19 rfl (lv_at hl 0 rfl) ?_
    refine lv_iload_n hx hb dX1_room_20 rfl (lv_at hl 1 rfl) ?_
    refine xr_V (b := b 0) (As := [.int (nI k_2)]) (rest := []) ⟨hx, hb, hml, hown, hts⟩ (c_X1_isTied l D t b 0 tc rc F T L Z k_2 (by omega)) (cwV 1 hts gX1_room_X1_isTied rfl rfl rfl hd_X1_isTied ⟨Nat.le_of_ble_eq_true rfl, Nat.le_of_ble_eq_true rfl⟩) hK hP (va_recv hK hP (ci := 1) (q0 := 0) rfl rfl) [0, 1] rfl rfl hl.1 rfl (Nat.le_of_ble_eq_true rfl) dX1_room_21 ⟨(Nat.le_of_ble_eq_true rfl), (Nat.le_of_ble_eq_true rfl)⟩ ?_
    refine lv_if_eq (x := bI (Z k_2)) (tgt := 42) hx hb dX1_room_24 (by decide) (fun c_3 => ?_) (fun c_3 => ?_)
    · have c_3 := bI_0 c_3
      refine lv_aload_n hx hb dX1_room_42 rfl (lv_at hl 0 rfl) ?_
      refine lv_iconst (v := 2) hx hb dX1_room_43 (by decide) ?_
      refine xm_V (b := b 0) (As := [.int 2]) (rest := []) (wr := [xArr (t 0) (b 1) 120 (mkM F T L Z)]) ⟨hx, hb, hml, hown, hts⟩ xTrav_T (c_X1_fail l D t b 0 tc rc 2 _) (cwV 1 hts gX1_room_X1_fail rfl rfl rfl hd_X1_fail ⟨Nat.le_of_ble_eq_true rfl, Nat.le_of_ble_eq_true rfl⟩) hK hP hD hS hA (fun _ _ _ => trivial) (va_recv hK hP (ci := 1) (q0 := 0) rfl rfl) [0] [1] rfl rfl (by decide) (by decide) (by decide) rfl hl.1 rfl (Nat.le_of_ble_eq_true rfl) dX1_room_44 ⟨(Nat.le_of_ble_eq_true rfl), (Nat.le_of_ble_eq_true rfl)⟩ (fun u_4 H locs hu hP hD hS hz => ?_)
      have hP : va_P D vwCl ([xMod b 2 tc rc, xArr (t 0) (b 1) 120 (mkM F T L Z)]) H := hP.sub [1, 0] rfl
      have hD : va_D _ ([xMod b 2 tc rc, xArr (t 0) (b 1) 120 (mkM F T L Z)]) := hD.sub [1, 0] (by decide) rfl
      have hk9 : c2 (kRoom rc Z (earM F T L Z tc rc 12) p0) = 2 := by simp [c2, kRoom, c_1, eik_2, c_3]
      have hP9 : va_P D vwCl ([xMod b (nI (c2 (kRoom rc Z (earM F T L Z tc rc 12) p0))) tc rc, xArr (t 0) (b 1) 120 (mkM F T L Z)]) H := by rw [hk9]; exact hP
      have hD9 : va_D A ([xMod b (nI (c2 (kRoom rc Z (earM F T L Z tc rc 12) p0))) tc rc, xArr (t 0) (b 1) 120 (mkM F T L Z)]) := by rw [hk9]; exact hD
      subst hAe
      refine W.widen (k := 14) (n := 169) (Nat.le_of_ble_eq_true rfl) (Nat.le_of_ble_eq_true rfl) ?_
      obtain ⟨hq9, hf9⟩ := xm_end (S := Unit) (pu := (fun u : Unit => True)) (r := (fun u : Unit => some (.int (if c2 (kRoom rc Z (earM F T L Z tc rc 12) p0) = 0 then leastG (wayM F T L Z tc rc) (F (ix p0)) (T (ix p0)) else 0)))) (wc := [xMod b th tc rc, xArr (t 0) (b 1) 120 (mkM F T L Z)]) (w1 := (fun u : Unit => [xMod b (nI (c2 (kRoom rc Z (earM F T L Z tc rc 12) p0))) tc rc, xArr (t 0) (b 1) 120 (mkM F T L Z)])) (o := some (.int 0)) (args := ([.ref (b 0), .int p0] : List Value).toArray) () rfl trivial (by first | (rw [hk9]; rfl) | (simp only [hk9]; done) | (simp [hk9, c_1, eik_2, c_3]; done)) hP9 hD9 hS
      exact W.iret hx hb hr hq9 hf9 dX1_room_47 hlocks
    · have c_3 := bI_n0 c_3
      refine lv_aload_n hx hb dX1_room_27 rfl (lv_at hl 0 rfl) ?_
      refine xm_V (b := b 0) (As := []) (rest := []) (wr := []) ⟨hx, hb, hml, hown, hts⟩ aoT (c_X1_isHeld l D t b 0 tc rc F T L Z _ (by omega) (by omega) hF) (cwV 0 hts gX1_room_X1_isHeld rfl rfl rfl hd_X1_isHeld ⟨Nat.le_of_ble_eq_true rfl, Nat.le_of_ble_eq_true rfl⟩) hK hP hD hS hA (fun U hW _ => va_AOA.moved hW.alike hXX) (va_recv hK hP (ci := 1) (q0 := 0) rfl rfl) [0, 1] [] rfl rfl (by decide) (by decide) (by decide) rfl hl.1 rfl (Nat.le_of_ble_eq_true rfl) dX1_room_28 ⟨(Nat.le_of_ble_eq_true rfl), (Nat.le_of_ble_eq_true rfl)⟩ (fun u_5 H locs hu hP hD hS hz => ?_)
      have hP : va_P D vwCl ([xMod b 0 tc rc, xArr (t 0) (b 1) 120 (mkM F T L Z)]) H := hP
      have hD : va_D _ ([xMod b 0 tc rc, xArr (t 0) (b 1) 120 (mkM F T L Z)]) := hD
      refine lv_if_eq (x := bI (decide (¬ earM F T L Z tc rc 12 = -1))) (tgt := 42) hx hb dX1_room_31 (by decide) (fun c_6 => ?_) (fun c_6 => ?_)
      · have c_6 := Classical.not_not.mp (of_decide_eq_false (bI_0 c_6))
        refine lv_aload_n hx hb dX1_room_42 rfl (lv_at hl 0 rfl) ?_
        refine lv_iconst (v := 2) hx hb dX1_room_43 (by decide) ?_
        refine xm_V (b := b 0) (As := [.int 2]) (rest := []) (wr := [xArr (t 0) (b 1) 120 (mkM F T L Z)]) ⟨hx, hb, hml, hown, hts⟩ xTrav_T (c_X1_fail l D t b 0 tc rc 2 _) (cwV 1 hts gX1_room_X1_fail rfl rfl rfl hd_X1_fail ⟨Nat.le_of_ble_eq_true rfl, Nat.le_of_ble_eq_true rfl⟩) hK hP hD hS hA (fun _ _ _ => trivial) (va_recv hK hP (ci := 1) (q0 := 0) rfl rfl) [0] [1] rfl rfl (by decide) (by decide) (by decide) rfl hl.1 rfl (Nat.le_of_ble_eq_true rfl) dX1_room_44 ⟨(Nat.le_of_ble_eq_true rfl), (Nat.le_of_ble_eq_true rfl)⟩ (fun u_7 H locs hu hP hD hS hz => ?_)
        have hP : va_P D vwCl ([xMod b 2 tc rc, xArr (t 0) (b 1) 120 (mkM F T L Z)]) H := hP.sub [1, 0] rfl
        have hD : va_D _ ([xMod b 2 tc rc, xArr (t 0) (b 1) 120 (mkM F T L Z)]) := hD.sub [1, 0] (by decide) rfl
        have hk9 : c2 (kRoom rc Z (earM F T L Z tc rc 12) p0) = 2 := by simp [c2, kRoom, c_1, eik_2, c_3, c_6]
        have hP9 : va_P D vwCl ([xMod b (nI (c2 (kRoom rc Z (earM F T L Z tc rc 12) p0))) tc rc, xArr (t 0) (b 1) 120 (mkM F T L Z)]) H := by rw [hk9]; exact hP
        have hD9 : va_D A ([xMod b (nI (c2 (kRoom rc Z (earM F T L Z tc rc 12) p0))) tc rc, xArr (t 0) (b 1) 120 (mkM F T L Z)]) := by rw [hk9]; exact hD
        subst hAe
        refine W.widen (k := 14) (n := 169) (Nat.le_of_ble_eq_true rfl) (Nat.le_of_ble_eq_true rfl) ?_
        obtain ⟨hq9, hf9⟩ := xm_end (S := Unit) (pu := (fun u : Unit => True)) (r := (fun u : Unit => some (.int (if c2 (kRoom rc Z (earM F T L Z tc rc 12) p0) = 0 then leastG (wayM F T L Z tc rc) (F (ix p0)) (T (ix p0)) else 0)))) (wc := [xMod b th tc rc, xArr (t 0) (b 1) 120 (mkM F T L Z)]) (w1 := (fun u : Unit => [xMod b (nI (c2 (kRoom rc Z (earM F T L Z tc rc 12) p0))) tc rc, xArr (t 0) (b 1) 120 (mkM F T L Z)])) (o := some (.int 0)) (args := ([.ref (b 0), .int p0] : List Value).toArray) () rfl trivial (by first | (rw [hk9]; rfl) | (simp only [hk9]; done) | (simp [hk9, c_1, eik_2, c_3, c_6]; done)) hP9 hD9 hS
        exact W.iret hx hb hr hq9 hf9 dX1_room_47 hlocks
      · have c_6 := of_decide_eq_true (bI_n0 c_6)
        refine lv_aload_n hx hb dX1_room_34 rfl (lv_at hl 0 rfl) ?_
        refine lv_iload_n hx hb dX1_room_35 rfl (lv_at hl 1 rfl) ?_
        refine xm_V (b := b 0) (As := [.int (nI k_2)]) (rest := []) (wr := []) ⟨hx, hb, hml, hown, hts⟩ aoT (c_X1_shortest l D t b 0 tc rc F T L Z k_2 _ (by omega) (by omega) hF (by omega)) (cwV 1 hts gX1_room_X1_shortest rfl rfl rfl hd_X1_shortest ⟨Nat.le_of_ble_eq_true rfl, Nat.le_of_ble_eq_true rfl⟩) hK hP hD hS hA (fun U hW _ => va_AOA.moved hW.alike hXX) (va_recv hK hP (ci := 1) (q0 := 0) rfl rfl) [0, 1] [] rfl rfl (by decide) (by decide) (by decide) rfl hl.1 rfl (Nat.le_of_ble_eq_true rfl) dX1_room_36 ⟨(Nat.le_of_ble_eq_true rfl), (Nat.le_of_ble_eq_true rfl)⟩ (fun u_8 H locs hu hP hD hS hz => ?_)
        have hP : va_P D vwCl ([xMod b 0 tc rc, xArr (t 0) (b 1) 120 (mkM F T L Z)]) H := hP
        have hD : va_D _ ([xMod b 0 tc rc, xArr (t 0) (b 1) 120 (mkM F T L Z)]) := hD
        refine lv_goto (tgt := 47) hx hb dX1_room_39 (by decide) ?_
        have hk9 : c2 (kRoom rc Z (earM F T L Z tc rc 12) p0) = 0 := by simp [c2, kRoom, c_1, eik_2, c_3, c_6]
        have hP9 : va_P D vwCl ([xMod b (nI (c2 (kRoom rc Z (earM F T L Z tc rc 12) p0))) tc rc, xArr (t 0) (b 1) 120 (mkM F T L Z)]) H := by rw [hk9]; exact hP
        have hD9 : va_D A ([xMod b (nI (c2 (kRoom rc Z (earM F T L Z tc rc 12) p0))) tc rc, xArr (t 0) (b 1) 120 (mkM F T L Z)]) := by rw [hk9]; exact hD
        subst hAe
        obtain ⟨hq9, hf9⟩ := xm_end (S := Unit) (pu := (fun u : Unit => True)) (r := (fun u : Unit => some (.int (if c2 (kRoom rc Z (earM F T L Z tc rc 12) p0) = 0 then leastG (wayM F T L Z tc rc) (F (ix p0)) (T (ix p0)) else 0)))) (wc := [xMod b th tc rc, xArr (t 0) (b 1) 120 (mkM F T L Z)]) (w1 := (fun u : Unit => [xMod b (nI (c2 (kRoom rc Z (earM F T L Z tc rc 12) p0))) tc rc, xArr (t 0) (b 1) 120 (mkM F T L Z)])) (o := some (.int (leastG (wayM F T L Z tc rc) (F k_2) (T k_2)))) (args := ([.ref (b 0), .int p0] : List Value).toArray) () rfl trivial (by first | (rw [hk9]; rfl) | (simp only [hk9]; done) | (simp [hk9, c_1, eik_2, c_3, c_6]; done)) hP9 hD9 hS
        exact W.iret hx hb hr hq9 hf9 dX1_room_47 hlocks
  · have c_1 := bI_0 c_1
    refine lv_aload_n hx hb dX1_room_13 rfl (lv_at hl 0 rfl) ?_
    refine lv_iconst (v := 1) hx hb dX1_room_14 (by decide) ?_
    refine xm_V (b := b 0) (As := [.int 1]) (rest := []) (wr := [xArr (t 0) (b 1) 120 (mkM F T L Z)]) ⟨hx, hb, hml, hown, hts⟩ xTrav_T (c_X1_fail l D t b 0 tc rc 1 _) (cwV 1 hts gX1_room_X1_fail rfl rfl rfl hd_X1_fail ⟨Nat.le_of_ble_eq_true rfl, Nat.le_of_ble_eq_true rfl⟩) hK hP hD hS hA (fun _ _ _ => trivial) (va_recv hK hP (ci := 1) (q0 := 0) rfl rfl) [0] [1] rfl rfl (by decide) (by decide) (by decide) rfl hl.1 rfl (Nat.le_of_ble_eq_true rfl) dX1_room_15 ⟨(Nat.le_of_ble_eq_true rfl), (Nat.le_of_ble_eq_true rfl)⟩ (fun u_9 H locs hu hP hD hS hz => ?_)
    have hP : va_P D vwCl ([xMod b 1 tc rc, xArr (t 0) (b 1) 120 (mkM F T L Z)]) H := hP.sub [1, 0] rfl
    have hD : va_D _ ([xMod b 1 tc rc, xArr (t 0) (b 1) 120 (mkM F T L Z)]) := hD.sub [1, 0] (by decide) rfl
    have hk9 : c2 (kRoom rc Z (earM F T L Z tc rc 12) p0) = 1 := by simp [c2, kRoom, c_1]
    have hP9 : va_P D vwCl ([xMod b (nI (c2 (kRoom rc Z (earM F T L Z tc rc 12) p0))) tc rc, xArr (t 0) (b 1) 120 (mkM F T L Z)]) H := by rw [hk9]; exact hP
    have hD9 : va_D A ([xMod b (nI (c2 (kRoom rc Z (earM F T L Z tc rc 12) p0))) tc rc, xArr (t 0) (b 1) 120 (mkM F T L Z)]) := by rw [hk9]; exact hD
    subst hAe
    refine W.widen (k := 14) (n := 169) (Nat.le_of_ble_eq_true rfl) (Nat.le_of_ble_eq_true rfl) ?_
    obtain ⟨hq9, hf9⟩ := xm_end (S := Unit) (pu := (fun u : Unit => True)) (r := (fun u : Unit => some (.int (if c2 (kRoom rc Z (earM F T L Z tc rc 12) p0) = 0 then leastG (wayM F T L Z tc rc) (F (ix p0)) (T (ix p0)) else 0)))) (wc := [xMod b th tc rc, xArr (t 0) (b 1) 120 (mkM F T L Z)]) (w1 := (fun u : Unit => [xMod b (nI (c2 (kRoom rc Z (earM F T L Z tc rc 12) p0))) tc rc, xArr (t 0) (b 1) 120 (mkM F T L Z)])) (o := some (.int 0)) (args := ([.ref (b 0), .int p0] : List Value).toArray) () rfl trivial (by first | (rw [hk9]; rfl) | (simp only [hk9]; done) | (simp [hk9, c_1]; done)) hP9 hD9 hS
    exact W.iret hx hb hr hq9 hf9 dX1_room_18 hlocks
