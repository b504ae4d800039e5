theorem hd_X0_pushOnce : yX0_pushOnce.cls = RX0 ∧ yX0_pushOnce.cls ≠ "java/lang/invoke/MethodHandle" ∧ yX0_pushOnce.cls ≠ "java/lang/invoke/VarHandle" ∧ (parseMethodDescriptor yX0_pushOnce.desc).map (fun d => d.parameters.length) = some 2 := by decide +kernel
theorem hd_X0_findEarliest : yX0_findEarliest.cls = RX0 ∧ yX0_findEarliest.cls ≠ "java/lang/invoke/MethodHandle" ∧ yX0_findEarliest.cls ≠ "java/lang/invoke/VarHandle" ∧ (parseMethodDescriptor yX0_findEarliest.desc).map (fun d => d.parameters.length) = some 2 := by decide +kernel
theorem hd_X0_shortenBound : yX0_shortenBound.cls = RX0 ∧ yX0_shortenBound.cls ≠ "java/lang/invoke/MethodHandle" ∧ yX0_shortenBound.cls ≠ "java/lang/invoke/VarHandle" ∧ (parseMethodDescriptor yX0_shortenBound.desc).map (fun d => d.parameters.length) = some 3 := by decide +kernel
theorem hd_X0_startBounds : yX0_startBounds.cls = RX0 ∧ yX0_startBounds.cls ≠ "java/lang/invoke/MethodHandle" ∧ yX0_startBounds.cls ≠ "java/lang/invoke/VarHandle" ∧ (parseMethodDescriptor yX0_startBounds.desc).map (fun d => d.parameters.length) = some 0 := by decide +kernel
theorem hd_X0_goOnOver : yX0_goOnOver.cls = RX0 ∧ yX0_goOnOver.cls ≠ "java/lang/invoke/MethodHandle" ∧ yX0_goOnOver.cls ≠ "java/lang/invoke/VarHandle" ∧ (parseMethodDescriptor yX0_goOnOver.desc).map (fun d => d.parameters.length) = some 2 := by decide +kernel
theorem hd_X0_findBounds : yX0_findBounds.cls = RX0 ∧ yX0_findBounds.cls ≠ "java/lang/invoke/MethodHandle" ∧ yX0_findBounds.cls ≠ "java/lang/invoke/VarHandle" ∧ (parseMethodDescriptor yX0_findBounds.desc).map (fun d => d.parameters.length) = some 0 := by decide +kernel
theorem hd_X0_settle : yX0_settle.cls = RX0 ∧ yX0_settle.cls ≠ "java/lang/invoke/MethodHandle" ∧ yX0_settle.cls ≠ "java/lang/invoke/VarHandle" ∧ (parseMethodDescriptor yX0_settle.desc).map (fun d => d.parameters.length) = some 0 := by decide +kernel
theorem hd_X0_goOneRope : yX0_goOneRope.cls = RX0 ∧ yX0_goOneRope.cls ≠ "java/lang/invoke/MethodHandle" ∧ yX0_goOneRope.cls ≠ "java/lang/invoke/VarHandle" ∧ (parseMethodDescriptor yX0_goOneRope.desc).map (fun d => d.parameters.length) = some 0 := by decide +kernel
theorem hd_X0_shortRingFrom : yX0_shortRingFrom.cls = RX0 ∧ yX0_shortRingFrom.cls ≠ "java/lang/invoke/MethodHandle" ∧ yX0_shortRingFrom.cls ≠ "java/lang/invoke/VarHandle" ∧ (parseMethodDescriptor yX0_shortRingFrom.desc).map (fun d => d.parameters.length) = some 1 := by decide +kernel
theorem hd_X0_shortRingLength : yX0_shortRingLength.cls = RX0 ∧ yX0_shortRingLength.cls ≠ "java/lang/invoke/MethodHandle" ∧ yX0_shortRingLength.cls ≠ "java/lang/invoke/VarHandle" ∧ (parseMethodDescriptor yX0_shortRingLength.desc).map (fun d => d.parameters.length) = some 0 := by decide +kernel
theorem hd_X0_tightenOne : yX0_tightenOne.cls = RX0 ∧ yX0_tightenOne.cls ≠ "java/lang/invoke/MethodHandle" ∧ yX0_tightenOne.cls ≠ "java/lang/invoke/VarHandle" ∧ (parseMethodDescriptor yX0_tightenOne.desc).map (fun d => d.parameters.length) = some 1 := by decide +kernel
theorem hd_X0_tighten : yX0_tighten.cls = RX0 ∧ yX0_tighten.cls ≠ "java/lang/invoke/MethodHandle" ∧ yX0_tighten.cls ≠ "java/lang/invoke/VarHandle" ∧ (parseMethodDescriptor yX0_tighten.desc).map (fun d => d.parameters.length) = some 0 := by decide +kernel
set_option maxHeartbeats 4000000 in
set_option maxRecDepth 100000 in
theorem c_X0_pushOnce (l : Launch) (D : va_G) (t : Nat → ClassId) (a : Nat → Nat) (tc rc : Nat) (ro : Int32) (F T : Nat → Nat) (L : Nat → Int32) (Z : Nat → Bool) (q : Nat) (E : Nat → Int32) (lo : Int32) (sz : Nat) (htc : tc ≤ 12) (hrc : rc ≤ 30) (hF : ∀ r, r < rc → F r < tc ∧ T r < tc) : Met l yX0_pushOnce wsX0_pushOnce ({ frames := 0, cells := 0, slots := 0, locals := 0 }) (xMu D (xTy t) (fun _ => True) [.ref (a 0), .ref q, .int lo] [xObj a tc rc ro, xArr (t 0) (a 1) 30 (xN F), xArr (t 0) (a 2) 30 (xN T), xArr (t 0) (a 3) 30 L, xArr (t 1) (a 4) 30 (xB Z), xArr (t 0) q 12 E] sz) (xQm D (fun u : Unit => True) (fun u : Unit => some (.int (bI ((passF F T L (actC Z lo) rc 0 E false).2)))) [xObj a tc rc ro, xArr (t 0) (a 1) 30 (xN F), xArr (t 0) (a 2) 30 (xN T), xArr (t 0) (a 3) 30 L, xArr (t 1) (a 4) 30 (xB Z), xArr (t 0) q 12 E] (fun u : Unit => [xObj a tc rc ro, xArr (t 0) (a 1) 30 (xN F), xArr (t 0) (a 2) 30 (xN T), xArr (t 0) (a 3) 30 L, xArr (t 1) (a 4) 30 (xB Z), xArr (t 0) q 12 ((passF F T L (actC Z lo) rc 0 E false).1)]) sz) 0 0 (va_A [xObj a tc rc ro, xArr (t 0) (a 1) 30 (xN F), xArr (t 0) (a 2) 30 (xN T), xArr (t 0) (a 3) 30 L, xArr (t 1) (a 4) 30 (xB Z), xArr (t 0) q 12 E] sz) := by
  refine Met.ofW (cc := cX0_pushOnce) (maxL := 6) (ret := (some .boolean)) (by decide) rfl ?_
  intro p e s m args below meth c s₁ hB9 hml hv
  obtain ⟨rfl, hsz, hP, hK, hD0, hXX⟩ := hv
  have hx := hB9.exec
  have hb := hB9.bytes
  have hr := hB9.returns
  have hts := atoms_spec (ws := wsX0_pushOnce) hB9.pre
  have hown : s.vm.findClass RX0 = some m.cls := findClass_of_methodNamed hB9.named
  have hlocks := hB9.notSynchronized
  have hin : ∀ w ∈ wsX00, w ∈ wsX0_pushOnce := fun _ h => List.mem_cons_of_mem _ (List.mem_append_right _ h)
  have fl_63 := hts (.fieldLink RX0 63 "RopeTimes" "ropeCount" "I") (by decide +kernel)
  have fl_19 := hts (.fieldLink RX0 19 "RopeTimes" "tied" "[Z") (by decide +kernel)
  have fl_13 := hts (.fieldLink RX0 13 "RopeTimes" "to" "[I") (by decide +kernel)
  have fl_16 := hts (.fieldLink RX0 16 "RopeTimes" "length" "[I") (by decide +kernel)
  have fl_9 := hts (.fieldLink RX0 9 "RopeTimes" "from" "[I") (by decide +kernel)
  subst hsz
  have hD := hD0.self (sz := s.heap.size)
  generalize hAe : va_A ([xObj a tc rc ro, xArr (t 0) (a 1) 30 (xN F), xArr (t 0) (a 2) 30 (xN T), xArr (t 0) (a 3) 30 L, xArr (t 1) (a 4) 30 (xB Z), xArr (t 0) q 12 E]) s.heap.size = A at hD ⊢
  have hA : ∀ q : Nat, s.heap.size ≤ q → A q := fun q h => by rw [← hAe]; exact Or.inr h
  have hS : va_S A s.heap s.heap [] := va_S.rf
  have hP : va_P D vwCl ([xObj a tc rc ro, xArr (t 0) (a 1) 30 (xN F), xArr (t 0) (a 2) 30 (xN T), xArr (t 0) (a 3) 30 L, xArr (t 1) (a 4) 30 (xB Z), xArr (t 0) q 12 E]) s.heap := hP
  have hD : va_D A ([xObj a tc rc ro, xArr (t 0) (a 1) 30 (xN F), xArr (t 0) (a 2) 30 (xN T), xArr (t 0) (a 3) 30 L, xArr (t 1) (a 4) 30 (xB Z), xArr (t 0) q 12 E]) := hD
  have hl := lv_entry ([.ref (a 0), .ref q, .int lo]) (n := 6) (Nat.le_of_ble_eq_true rfl)
  rw [lg_entry_eq]
  generalize (lg_sl ([.ref (a 0), .ref q, .int lo]) ++ List.replicate (6 - (lg_sl ([.ref (a 0), .ref q, .int lo])).length) Slot.unset).toArray = ls at hl ⊢
  have hl : lv_has ls 6 [(0, .ref (a 0)), (1, .ref q), (2, .int lo)] := hl
  refine lv_iconst (v := 0) hx hb dX0_pushOnce_0 (by decide) ?_
  refine lv_istore_n (lv' := [(3, .int 0), (0, .ref (a 0)), (1, .ref q), (2, .int lo)]) hx hb dX0_pushOnce_1 rfl hl (by decide) rfl (fun ls hl => ?_)
  refine lv_iconst (v := 0) hx hb dX0_pushOnce_2 (by decide) ?_
  refine lv_istore (lv' := [(4, .int 0), (3, .int 0), (0, .ref (a 0)), (1, .ref q), (2, .int lo)]) hx hb dX0_pushOnce_3 hl (by decide) rfl (fun ls hl => ?_)
  have lp_5 : ∀ (n5 : Nat) (r : Nat) (E1 : Nat → Int32) (ch : Bool), r + n5 = rc → passF F T L (actC Z lo) n5 r E1 ch = passF F T L (actC Z lo) rc 0 E false → ∀ (H : Heap) (locs : List Loc), va_P D vwCl ([xObj a tc rc ro, xArr (t 0) (a 1) 30 (xN F), xArr (t 0) (a 2) 30 (xN T), xArr (t 0) (a 3) 30 L, xArr (t 1) (a 4) 30 (xB Z), xArr (t 0) q 12 E1]) H → va_D A ([xObj a tc rc ro, xArr (t 0) (a 1) 30 (xN F), xArr (t 0) (a 2) 30 (xN T), xArr (t 0) (a 3) 30 L, xArr (t 1) (a 4) 30 (xB Z), xArr (t 0) q 12 E1]) → va_S A s.heap H locs → ∀ ls : Array Slot, lv_has ls 6 [(4, .int (nI r)), (3, .int (bI ch)), (0, .ref (a 0)), (1, .ref q), (2, .int lo)] → W p l e (headSpec wsX0_pushOnce ({ frames := 0, cells := 0, slots := 0, locals := 0 } : Jvm.Room)).room s m (([.ref (a 0), .ref q, .int lo] : List Value).toArray) below meth c H locs 0 0 (MQ below (xQm D (fun u : Unit => True) (fun u : Unit => some (.int (bI ((passF F T L (actC Z lo) rc 0 E false).2)))) [xObj a tc rc ro, xArr (t 0) (a 1) 30 (xN F), xArr (t 0) (a 2) 30 (xN T), xArr (t 0) (a 3) 30 L, xArr (t 1) (a 4) 30 (xB Z), xArr (t 0) q 12 E] (fun u : Unit => [xObj a tc rc ro, xArr (t 0) (a 1) 30 (xN F), xArr (t 0) (a 2) 30 (xN T), xArr (t 0) (a 3) 30 L, xArr (t 1) (a 4) 30 (xB Z), xArr (t 0) q 12 ((passF F T L (actC Z lo) rc 0 E false).1)]) s.heap.size) (([.ref (a 0), .ref q, .int lo] : List Value).toArray) s 0 0 A) (F0 m 5 ls []) := by
    intro n5
    induction n5 using Nat.strongRecOn with
    | _ n5 ih_5 =>
      intro r E1 ch hm_5 hfin_5 H locs hP hD hS ls hl
      refine lv_iload hx hb dX0_pushOnce_5 (lv_at hl 0 rfl) ?_
      refine lv_aload_n hx hb dX0_pushOnce_7 rfl (lv_at hl 2 rfl) ?_
      refine x0_get (v := .int (nI rc)) hx hb hts hin hown hK hP 0 rfl 1 (by decide) fl_63 rfl dX0_pushOnce_8 rfl ?_
      refine lv_icmp_ge (x := nI r) (y := nI rc) (tgt := 82) hx hb dX0_pushOnce_11 (by decide) (fun c_1 => ?_) (fun c_1 => ?_)
      · have c_1 := (nI_leI (a := rc) (b := r) (by omega) (by omega)).mp c_1
        have hn0_5 : n5 = 0 := by omega
        subst hn0_5
        obtain rfl : E1 = (passF F T L (actC Z lo) rc 0 E false).1 := congrArg (fun z => z.1) hfin_5
        obtain rfl : ch = (passF F T L (actC Z lo) rc 0 E false).2 := congrArg (fun z => z.2) hfin_5
        refine lv_iload_n hx hb dX0_pushOnce_82 rfl (lv_at hl 1 rfl) ?_
        subst hAe
        obtain ⟨hq9, hf9⟩ := xm_end (S := Unit) (pu := (fun u : Unit => True)) (r := (fun u : Unit => some (.int (bI ((passF F T L (actC Z lo) rc 0 E false).2))))) (wc := [xObj a tc rc ro, xArr (t 0) (a 1) 30 (xN F), xArr (t 0) (a 2) 30 (xN T), xArr (t 0) (a 3) 30 L, xArr (t 1) (a 4) 30 (xB Z), xArr (t 0) q 12 E]) (w1 := (fun u : Unit => [xObj a tc rc ro, xArr (t 0) (a 1) 30 (xN F), xArr (t 0) (a 2) 30 (xN T), xArr (t 0) (a 3) 30 L, xArr (t 1) (a 4) 30 (xB Z), xArr (t 0) q 12 ((passF F T L (actC Z lo) rc 0 E false).1)])) (o := some (.int (bI ((passF F T L (actC Z lo) rc 0 E false).2)))) (args := ([.ref (a 0), .ref q, .int lo] : List Value).toArray) () rfl trivial rfl hP hD hS
        exact W.zret hx hb hr (x_narB _) hq9 hf9 dX0_pushOnce_83 hlocks
      · have c_1 : r < rc := Nat.lt_of_not_le (fun z9 => c_1 ((nI_leI (a := rc) (b := r) (by omega) (by omega)).mpr z9))
        obtain ⟨n59, rfl⟩ : ∃ z, n5 = z + 1 := ⟨n5 - 1, by omega⟩
        refine lv_aload_n hx hb dX0_pushOnce_14 rfl (lv_at hl 2 rfl) ?_
        refine x0_get (v := .ref (a 4)) hx hb hts hin hown hK hP 0 rfl 5 (by decide) fl_19 rfl dX0_pushOnce_15 rfl ?_
        refine lv_iload hx hb dX0_pushOnce_18 (lv_at hl 0 rfl) ?_
        refine x_zald (f := xB Z) hx hb hK hP 4 1 rfl rfl (k := r) (by omega) (Nat.le_of_ble_eq_true rfl) dX0_pushOnce_20 ?_
        refine x_top (w := bI (Z r)) rfl ?_
        refine lv_if_eq (x := bI (Z r)) (tgt := 76) hx hb dX0_pushOnce_21 (by decide) (fun c_2 => ?_) (fun c_2 => ?_)
        · have c_2 := bI_0 c_2
          refine lv_iinc (v := nI (r + 1)) (lv' := [(4, .int (nI (r + 1))), (3, .int (bI ch)), (0, .ref (a 0)), (1, .ref q), (2, .int lo)]) hx hb dX0_pushOnce_76 hl (k := 0) rfl (x_inc _) (by decide) rfl (fun ls hl => ?_)
          refine lv_goto (tgt := 5) hx hb dX0_pushOnce_79 (by decide) ?_
          exact ih_5 n59 (by omega) (r + 1) E1 ch (by omega) (by rw [← hfin_5]; simp [passF, actC, c_1, c_2]) _ _ hP hD hS _ (lv_sub hl [0, 1, 2, 3, 4] rfl)
        · have c_2 := bI_n0 c_2
          refine lv_iload hx hb dX0_pushOnce_24 (lv_at hl 0 rfl) ?_
          refine lv_iload_n hx hb dX0_pushOnce_26 rfl (lv_at hl 4 rfl) ?_
          refine lv_icmp_eq (x := nI r) (y := lo) (tgt := 76) hx hb dX0_pushOnce_27 (by decide) (fun c_3 => ?_) (fun c_3 => ?_)
          · refine lv_iinc (v := nI (r + 1)) (lv' := [(4, .int (nI (r + 1))), (3, .int (bI ch)), (0, .ref (a 0)), (1, .ref q), (2, .int lo)]) hx hb dX0_pushOnce_76 hl (k := 0) rfl (x_inc _) (by decide) rfl (fun ls hl => ?_)
            refine lv_goto (tgt := 5) hx hb dX0_pushOnce_79 (by decide) ?_
            exact ih_5 n59 (by omega) (r + 1) E1 ch (by omega) (by rw [← hfin_5]; simp [passF, actC, c_1, c_2, c_3]) _ _ hP hD hS _ (lv_sub hl [0, 1, 2, 3, 4] rfl)
          · refine lv_aload_n hx hb dX0_pushOnce_30 rfl (lv_at hl 3 rfl) ?_
            refine lv_aload_n hx hb dX0_pushOnce_31 rfl (lv_at hl 2 rfl) ?_
            refine x0_get (v := .ref (a 2)) hx hb hts hin hown hK hP 0 rfl 3 (by decide) fl_13 rfl dX0_pushOnce_32 rfl ?_
            refine lv_iload hx hb dX0_pushOnce_35 (lv_at hl 0 rfl) ?_
            refine x_iald (f := xN T) hx hb hK hP 2 0 rfl rfl (k := r) (by omega) (Nat.le_of_ble_eq_true rfl) dX0_pushOnce_37 ?_
            refine x_top (w := nI (T r)) rfl ?_
            have hf_4 := hF r (by omega)
            refine x_iald (f := E1) hx hb hK hP 5 0 rfl rfl (k := T r) (by omega) (Nat.le_of_ble_eq_true rfl) dX0_pushOnce_38 ?_
            refine lv_aload_n hx hb dX0_pushOnce_39 rfl (lv_at hl 2 rfl) ?_
            refine x0_get (v := .ref (a 3)) hx hb hts hin hown hK hP 0 rfl 4 (by decide) fl_16 rfl dX0_pushOnce_40 rfl ?_
            refine lv_iload hx hb dX0_pushOnce_43 (lv_at hl 0 rfl) ?_
            refine x_iald (f := L) hx hb hK hP 3 0 rfl rfl (k := r) (by omega) (Nat.le_of_ble_eq_true rfl) dX0_pushOnce_45 ?_
            refine lv_isub (x := E1 (T r)) (y := L r) hx hb dX0_pushOnce_46 ?_
            refine lv_istore (lv' := [(5, .int ((E1 (T r)) - (L r))), (4, .int (nI r)), (3, .int (bI ch)), (0, .ref (a 0)), (1, .ref q), (2, .int lo)]) hx hb dX0_pushOnce_47 hl (by decide) rfl (fun ls hl => ?_)
            refine lv_aload_n hx hb dX0_pushOnce_49 rfl (lv_at hl 4 rfl) ?_
            refine lv_aload_n hx hb dX0_pushOnce_50 rfl (lv_at hl 3 rfl) ?_
            refine x0_get (v := .ref (a 1)) hx hb hts hin hown hK hP 0 rfl 2 (by decide) fl_9 rfl dX0_pushOnce_51 rfl ?_
            refine lv_iload hx hb dX0_pushOnce_54 (lv_at hl 1 rfl) ?_
            refine x_iald (f := xN F) hx hb hK hP 1 0 rfl rfl (k := r) (by omega) (Nat.le_of_ble_eq_true rfl) dX0_pushOnce_56 ?_
            refine x_top (w := nI (F r)) rfl ?_
            have hf_5 := hF r (by omega)
            refine x_iald (f := E1) hx hb hK hP 5 0 rfl rfl (k := F r) (by omega) (Nat.le_of_ble_eq_true rfl) dX0_pushOnce_57 ?_
            refine lv_iload hx hb dX0_pushOnce_58 (lv_at hl 0 rfl) ?_
            refine lv_icmp_ge (x := E1 (F r)) (y := (E1 (T r)) - (L r)) (tgt := 76) hx hb dX0_pushOnce_60 (by decide) (fun c_6 => ?_) (fun c_6 => ?_)
            · have c_6 := Int32.not_lt.mpr c_6
              refine lv_iinc (v := nI (r + 1)) (lv' := [(4, .int (nI (r + 1))), (5, .int ((E1 (T r)) - (L r))), (3, .int (bI ch)), (0, .ref (a 0)), (1, .ref q), (2, .int lo)]) hx hb dX0_pushOnce_76 hl (k := 1) rfl (x_inc _) (by decide) rfl (fun ls hl => ?_)
              refine lv_goto (tgt := 5) hx hb dX0_pushOnce_79 (by decide) ?_
              exact ih_5 n59 (by omega) (r + 1) E1 ch (by omega) (by rw [← hfin_5]; simp [passF, actC, c_1, c_2, c_3, c_6]) _ _ hP hD hS _ (lv_sub hl [0, 2, 3, 4, 5] rfl)
            · have c_6 := Int32.not_le.mp c_6
              refine lv_aload_n hx hb dX0_pushOnce_63 rfl (lv_at hl 4 rfl) ?_
              refine lv_aload_n hx hb dX0_pushOnce_64 rfl (lv_at hl 3 rfl) ?_
              refine x0_get (v := .ref (a 1)) hx hb hts hin hown hK hP 0 rfl 2 (by decide) fl_9 rfl dX0_pushOnce_65 rfl ?_
              refine lv_iload hx hb dX0_pushOnce_68 (lv_at hl 1 rfl) ?_
              refine x_iald (f := xN F) hx hb hK hP 1 0 rfl rfl (k := r) (by omega) (Nat.le_of_ble_eq_true rfl) dX0_pushOnce_70 ?_
              refine x_top (w := nI (F r)) rfl ?_
              have hf_7 := hF r (by omega)
              refine lv_iload hx hb dX0_pushOnce_71 (lv_at hl 0 rfl) ?_
              refine x_iast (x := (E1 (T r)) - (L r)) (f := E1) hx hb hK hP hD hS 5 0 ([xObj a tc rc ro, xArr (t 0) (a 1) 30 (xN F), xArr (t 0) (a 2) 30 (xN T), xArr (t 0) (a 3) 30 L, xArr (t 1) (a 4) 30 (xB Z), xArr (t 0) q 12 (upd E1 (F r) ((E1 (T r)) - (L r)))]) rfl rfl (k := F r) rfl (by omega) (Nat.le_of_ble_eq_true rfl) dX0_pushOnce_73 (fun H locs hP hD hS => ?_)
              refine lv_iconst (v := 1) hx hb dX0_pushOnce_74 (by decide) ?_
              refine lv_istore_n (lv' := [(3, .int 1), (5, .int ((E1 (T r)) - (L r))), (4, .int (nI r)), (0, .ref (a 0)), (1, .ref q), (2, .int lo)]) hx hb dX0_pushOnce_75 rfl hl (by decide) rfl (fun ls hl => ?_)
              refine lv_iinc (v := nI (r + 1)) (lv' := [(4, .int (nI (r + 1))), (3, .int 1), (5, .int ((E1 (T r)) - (L r))), (0, .ref (a 0)), (1, .ref q), (2, .int lo)]) hx hb dX0_pushOnce_76 hl (k := 2) rfl (x_inc _) (by decide) rfl (fun ls hl => ?_)
              refine lv_goto (tgt := 5) hx hb dX0_pushOnce_79 (by decide) ?_
              exact ih_5 n59 (by omega) (r + 1) (upd E1 (F r) ((E1 (T r)) - (L r))) true (by omega) (by rw [← hfin_5]; simp [passF, actC, c_1, c_2, c_3, c_6]) _ _ hP hD hS _ (lv_sub hl [0, 1, 3, 4, 5] rfl)
  exact lp_5 rc 0 E false (by omega) rfl _ _ hP hD hS _ (lv_sub hl [0, 1, 2, 3, 4] rfl)
set_option maxHeartbeats 4000000 in
set_option maxRecDepth 100000 in
theorem c_X0_findEarliest (l : Launch) (D : va_G) (t : Nat → ClassId) (a : Nat → Nat) (tc rc : Nat) (ro : Int32) (F T : Nat → Nat) (L : Nat → Int32) (Z : Nat → Bool) (q : Nat) (E : Nat → Int32) (lo : Int32) (sz : Nat) (htc : tc ≤ 12) (hrc : rc ≤ 30) (hF : ∀ r, r < rc → F r < tc ∧ T r < tc) : Met l yX0_findEarliest wsX0_findEarliest ({ frames := 1, cells := 0, slots := 0, locals := 25 }) (xMu D (xTy t) (fun _ => True) [.ref (a 0), .ref q, .int lo] [xObj a tc rc ro, xArr (t 0) (a 1) 30 (xN F), xArr (t 0) (a 2) 30 (xN T), xArr (t 0) (a 3) 30 L, xArr (t 1) (a 4) 30 (xB Z), xArr (t 0) q 12 E] sz) (xQm D (fun u : Unit => True) (fun u : Unit => some (.int ((findE F T L (actC Z lo) tc rc E).2))) [xObj a tc rc ro, xArr (t 0) (a 1) 30 (xN F), xArr (t 0) (a 2) 30 (xN T), xArr (t 0) (a 3) 30 L, xArr (t 1) (a 4) 30 (xB Z), xArr (t 0) q 12 E] (fun u : Unit => [xObj a tc rc ro, xArr (t 0) (a 1) 30 (xN F), xArr (t 0) (a 2) 30 (xN T), xArr (t 0) (a 3) 30 L, xArr (t 1) (a 4) 30 (xB Z), xArr (t 0) q 12 ((findE F T L (actC Z lo) tc rc E).1)]) sz) 0 0 (va_A [xObj a tc rc ro, xArr (t 0) (a 1) 30 (xN F), xArr (t 0) (a 2) 30 (xN T), xArr (t 0) (a 3) 30 L, xArr (t 1) (a 4) 30 (xB Z), xArr (t 0) q 12 E] sz) := by
  refine Met.ofW (cc := cX0_findEarliest) (maxL := 4) (ret := (some .int)) (by decide) rfl ?_
  intro p e s m args below meth c s₁ hB9 hml hv
  obtain ⟨rfl, hsz, hP, hK, hD0, hXX⟩ := hv
  have hx := hB9.exec
  have hb := hB9.bytes
  have hr := hB9.returns
  have hts := atoms_spec (ws := wsX0_findEarliest) hB9.pre
  have hown : s.vm.findClass RX0 = some m.cls := findClass_of_methodNamed hB9.named
  have hlocks := hB9.notSynchronized
  have hin : ∀ w ∈ wsX00, w ∈ wsX0_findEarliest := fun _ h => List.mem_cons_of_mem _ (List.mem_append_right _ h)
  have fl_41 := hts (.fieldLink RX0 41 "RopeTimes" "turnCount" "I") (by decide +kernel)
  subst hsz
  have hD := hD0.self (sz := s.heap.size)
  generalize hAe : va_A ([xObj a tc rc ro, xArr (t 0) (a 1) 30 (xN F), xArr (t 0) (a 2) 30 (xN T), xArr (t 0) (a 3) 30 L, xArr (t 1) (a 4) 30 (xB Z), xArr (t 0) q 12 E]) s.heap.size = A at hD ⊢
  have hA : ∀ q : Nat, s.heap.size ≤ q → A q := fun q h => by rw [← hAe]; exact Or.inr h
  have hS : va_S A s.heap s.heap [] := va_S.rf
  have hP : va_P D vwCl ([xObj a tc rc ro, xArr (t 0) (a 1) 30 (xN F), xArr (t 0) (a 2) 30 (xN T), xArr (t 0) (a 3) 30 L, xArr (t 1) (a 4) 30 (xB Z), xArr (t 0) q 12 E]) s.heap := hP
  have hD : va_D A ([xObj a tc rc ro, xArr (t 0) (a 1) 30 (xN F), xArr (t 0) (a 2) 30 (xN T), xArr (t 0) (a 3) 30 L, xArr (t 1) (a 4) 30 (xB Z), xArr (t 0) q 12 E]) := hD
  have hl := lv_entry ([.ref (a 0), .ref q, .int lo]) (n := 4) (Nat.le_of_ble_eq_true rfl)
  rw [lg_entry_eq]
  generalize (lg_sl ([.ref (a 0), .ref q, .int lo]) ++ List.replicate (4 - (lg_sl ([.ref (a 0), .ref q, .int lo])).length) Slot.unset).toArray = ls at hl ⊢
  have hl : lv_has ls 4 [(0, .ref (a 0)), (1, .ref q), (2, .int lo)] := hl
  refine lv_iconst (v := 0) hx hb dX0_findEarliest_0 (by decide) ?_
  refine lv_istore_n (lv' := [(3, .int 0), (0, .ref (a 0)), (1, .ref q), (2, .int lo)]) hx hb dX0_findEarliest_1 rfl hl (by decide) rfl (fun ls hl => ?_)
  have lp_2 : ∀ (n2 : Nat) (i : Nat) (E1 : Nat → Int32), i + n2 = tc → fillF 0 n2 i E1 = fillF 0 tc 0 E → ∀ (H : Heap) (locs : List Loc), va_P D vwCl ([xObj a tc rc ro, xArr (t 0) (a 1) 30 (xN F), xArr (t 0) (a 2) 30 (xN T), xArr (t 0) (a 3) 30 L, xArr (t 1) (a 4) 30 (xB Z), xArr (t 0) q 12 E1]) H → va_D A ([xObj a tc rc ro, xArr (t 0) (a 1) 30 (xN F), xArr (t 0) (a 2) 30 (xN T), xArr (t 0) (a 3) 30 L, xArr (t 1) (a 4) 30 (xB Z), xArr (t 0) q 12 E1]) → va_S A s.heap H locs → ∀ ls : Array Slot, lv_has ls 4 [(3, .int (nI i)), (0, .ref (a 0)), (1, .ref q), (2, .int lo)] → W p l e (headSpec wsX0_findEarliest ({ frames := 1, cells := 0, slots := 0, locals := 25 } : Jvm.Room)).room s m (([.ref (a 0), .ref q, .int lo] : List Value).toArray) below meth c H locs 0 0 (MQ below (xQm D (fun u : Unit => True) (fun u : Unit => some (.int ((findE F T L (actC Z lo) tc rc E).2))) [xObj a tc rc ro, xArr (t 0) (a 1) 30 (xN F), xArr (t 0) (a 2) 30 (xN T), xArr (t 0) (a 3) 30 L, xArr (t 1) (a 4) 30 (xB Z), xArr (t 0) q 12 E] (fun u : Unit => [xObj a tc rc ro, xArr (t 0) (a 1) 30 (xN F), xArr (t 0) (a 2) 30 (xN T), xArr (t 0) (a 3) 30 L, xArr (t 1) (a 4) 30 (xB Z), xArr (t 0) q 12 ((findE F T L (actC Z lo) tc rc E).1)]) s.heap.size) (([.ref (a 0), .ref q, .int lo] : List Value).toArray) s 0 0 A) (F0 m 2 ls []) := by
    intro n2
    induction n2 using Nat.strongRecOn with
    | _ n2 ih_2 =>
      intro i E1 hm_2 hfin_2 H locs hP hD hS ls hl
      refine lv_iload_n hx hb dX0_findEarliest_2 rfl (lv_at hl 0 rfl) ?_
      refine lv_aload_n hx hb dX0_findEarliest_3 rfl (lv_at hl 1 rfl) ?_
      refine x0_get (v := .int (nI tc)) hx hb hts hin hown hK hP 0 rfl 0 (by decide) fl_41 rfl dX0_findEarliest_4 rfl ?_
      refine lv_icmp_ge (x := nI i) (y := nI tc) (tgt := 20) hx hb dX0_findEarliest_7 (by decide) (fun c_1 => ?_) (fun c_1 => ?_)
      · have c_1 := (nI_leI (a := tc) (b := i) (by omega) (by omega)).mp c_1
        have hn0_2 : n2 = 0 := by omega
        subst hn0_2
        obtain rfl : E1 = fillF 0 tc 0 E := hfin_2
        refine lv_iconst (v := 0) hx hb dX0_findEarliest_20 (by decide) ?_
        refine lv_istore_n (lv' := [(3, .int 0), (0, .ref (a 0)), (1, .ref q), (2, .int lo)]) hx hb dX0_findEarliest_21 rfl hl (by decide) rfl (fun ls hl => ?_)
        have lp_22 : ∀ (n22 : Nat) (k : Nat) (E1 : Nat → Int32), k + n22 = tc + 1 → rndF F T L (actC Z lo) rc n22 k E1 = rndF F T L (actC Z lo) rc (tc + 1) 0 (fillF 0 tc 0 E) → ∀ (H : Heap) (locs : List Loc), va_P D vwCl ([xObj a tc rc ro, xArr (t 0) (a 1) 30 (xN F), xArr (t 0) (a 2) 30 (xN T), xArr (t 0) (a 3) 30 L, xArr (t 1) (a 4) 30 (xB Z), xArr (t 0) q 12 E1]) H → va_D A ([xObj a tc rc ro, xArr (t 0) (a 1) 30 (xN F), xArr (t 0) (a 2) 30 (xN T), xArr (t 0) (a 3) 30 L, xArr (t 1) (a 4) 30 (xB Z), xArr (t 0) q 12 E1]) → va_S A s.heap H locs → ∀ ls : Array Slot, lv_has ls 4 [(3, .int (nI k)), (0, .ref (a 0)), (1, .ref q), (2, .int lo)] → W p l e (headSpec wsX0_findEarliest ({ frames := 1, cells := 0, slots := 0, locals := 25 } : Jvm.Room)).room s m (([.ref (a 0), .ref q, .int lo] : List Value).toArray) below meth c H locs 0 0 (MQ below (xQm D (fun u : Unit => True) (fun u : Unit => some (.int ((findE F T L (actC Z lo) tc rc E).2))) [xObj a tc rc ro, xArr (t 0) (a 1) 30 (xN F), xArr (t 0) (a 2) 30 (xN T), xArr (t 0) (a 3) 30 L, xArr (t 1) (a 4) 30 (xB Z), xArr (t 0) q 12 E] (fun u : Unit => [xObj a tc rc ro, xArr (t 0) (a 1) 30 (xN F), xArr (t 0) (a 2) 30 (xN T), xArr (t 0) (a 3) 30 L, xArr (t 1) (a 4) 30 (xB Z), xArr (t 0) q 12 ((findE F T L (actC Z lo) tc rc E).1)]) s.heap.size) (([.ref (a 0), .ref q, .int lo] : List Value).toArray) s 0 0 A) (F0 m 22 ls []) := by
          intro n22
          induction n22 using Nat.strongRecOn with
          | _ n22 ih_22 =>
            intro k E1 hm_22 hfin_22 H locs hP hD hS ls hl
            refine lv_iload_n hx hb dX0_findEarliest_22 rfl (lv_at hl 0 rfl) ?_
            refine lv_aload_n hx hb dX0_findEarliest_23 rfl (lv_at hl 1 rfl) ?_
            refine x0_get (v := .int (nI tc)) hx hb hts hin hown hK hP 0 rfl 0 (by decide) fl_41 rfl dX0_findEarliest_24 rfl ?_
            refine lv_icmp_gt (x := nI k) (y := nI tc) (tgt := 49) hx hb dX0_findEarliest_27 (by decide) (fun c_2 => ?_) (fun c_2 => ?_)
            · have c_2 := (nI_ltI (a := tc) (b := k) (by omega) (by omega)).mp c_2
              have hn0_22 : n22 = 0 := by omega
              subst hn0_22
              refine lv_iconst (v := (-1)) hx hb dX0_findEarliest_49 (by decide) ?_
              have e9 : (E1, (-1)) = findE F T L (actC Z lo) tc rc E := by unfold findE; rw [← hfin_22]; simp [rndF, c_1, Nat.not_lt.mpr c_1, c_2]
              have hP9 : va_P D vwCl ([xObj a tc rc ro, xArr (t 0) (a 1) 30 (xN F), xArr (t 0) (a 2) 30 (xN T), xArr (t 0) (a 3) 30 L, xArr (t 1) (a 4) 30 (xB Z), xArr (t 0) q 12 ((findE F T L (actC Z lo) tc rc E).1)]) H := by rw [← e9]; exact hP
              have hD9 : va_D A ([xObj a tc rc ro, xArr (t 0) (a 1) 30 (xN F), xArr (t 0) (a 2) 30 (xN T), xArr (t 0) (a 3) 30 L, xArr (t 1) (a 4) 30 (xB Z), xArr (t 0) q 12 ((findE F T L (actC Z lo) tc rc E).1)]) := by rw [← e9]; exact hD
              subst hAe
              obtain ⟨hq9, hf9⟩ := xm_end (S := Unit) (pu := (fun u : Unit => True)) (r := (fun u : Unit => some (.int ((findE F T L (actC Z lo) tc rc E).2)))) (wc := [xObj a tc rc ro, xArr (t 0) (a 1) 30 (xN F), xArr (t 0) (a 2) 30 (xN T), xArr (t 0) (a 3) 30 L, xArr (t 1) (a 4) 30 (xB Z), xArr (t 0) q 12 E]) (w1 := (fun u : Unit => [xObj a tc rc ro, xArr (t 0) (a 1) 30 (xN F), xArr (t 0) (a 2) 30 (xN T), xArr (t 0) (a 3) 30 L, xArr (t 1) (a 4) 30 (xB Z), xArr (t 0) q 12 ((findE F T L (actC Z lo) tc rc E).1)])) (o := some (.int (-1))) (args := ([.ref (a 0), .ref q, .int lo] : List Value).toArray) () rfl trivial (by rw [← e9]) hP9 hD9 hS
              exact W.iret hx hb hr hq9 hf9 dX0_findEarliest_50 hlocks
            · have c_2 : k ≤ tc := Nat.le_of_not_lt (fun z9 => c_2 ((nI_ltI (a := tc) (b := k) (by omega) (by omega)).mpr z9))
              obtain ⟨n229, rfl⟩ : ∃ z, n22 = z + 1 := ⟨n22 - 1, by omega⟩
              refine lv_aload_n hx hb dX0_findEarliest_30 rfl (lv_at hl 1 rfl) ?_
              refine lv_aload_n hx hb dX0_findEarliest_31 rfl (lv_at hl 2 rfl) ?_
              refine lv_iload_n hx hb dX0_findEarliest_32 rfl (lv_at hl 3 rfl) ?_
              refine xm_V (b := a 0) (As := [.ref q, .int lo]) (rest := []) (wr := []) ⟨hx, hb, hml, hown, hts⟩ xTrav_T (c_X0_pushOnce l D t a tc rc ro F T L Z q E1 lo _ (by omega) (by omega) hF) (cwV 2 hts gX0_findEarliest_X0_pushOnce rfl rfl rfl hd_X0_pushOnce ⟨Nat.le_of_ble_eq_true rfl, Nat.le_of_ble_eq_true rfl⟩) hK hP hD hS hA (fun _ _ _ => trivial) (va_recv hK hP (ci := 0) (q0 := 0) rfl rfl) [0, 1, 2, 3, 4, 5] [] rfl rfl (by decide) (by decide) (by decide) rfl hl.1 rfl (Nat.le_of_ble_eq_true rfl) dX0_findEarliest_33 ⟨(Nat.le_of_ble_eq_true rfl), (Nat.le_of_ble_eq_true rfl)⟩ (fun u_3 H locs hu hP hD hS hz => ?_)
              have hP : va_P D vwCl ([xObj a tc rc ro, xArr (t 0) (a 1) 30 (xN F), xArr (t 0) (a 2) 30 (xN T), xArr (t 0) (a 3) 30 L, xArr (t 1) (a 4) 30 (xB Z), xArr (t 0) q 12 ((passF F T L (actC Z lo) rc 0 E1 false).1)]) H := hP
              have hD : va_D _ ([xObj a tc rc ro, xArr (t 0) (a 1) 30 (xN F), xArr (t 0) (a 2) 30 (xN T), xArr (t 0) (a 3) 30 L, xArr (t 1) (a 4) 30 (xB Z), xArr (t 0) q 12 ((passF F T L (actC Z lo) rc 0 E1 false).1)]) := hD
              refine lv_if_ne (x := bI ((passF F T L (actC Z lo) rc 0 E1 false).2)) (tgt := 43) hx hb dX0_findEarliest_36 (by decide) (fun c_4 => ?_) (fun c_4 => ?_)
              · have c_4 := bI_n0 c_4
                refine lv_iinc (v := nI (k + 1)) (lv' := [(3, .int (nI (k + 1))), (0, .ref (a 0)), (1, .ref q), (2, .int lo)]) hx hb dX0_findEarliest_43 hl (k := 0) rfl (x_inc _) (by decide) rfl (fun ls hl => ?_)
                refine lv_goto (tgt := 22) hx hb dX0_findEarliest_46 (by decide) ?_
                exact ih_22 n229 (by omega) (k + 1) ((passF F T L (actC Z lo) rc 0 E1 false).1) (by omega) (by rw [← hfin_22]; simp [rndF, c_1, Nat.not_lt.mpr c_1, c_2, Nat.not_lt.mpr c_2, c_4]) _ _ hP hD hS _ (lv_sub hl [0, 1, 2, 3] rfl)
              · have c_4 := bI_0 c_4
                refine lv_iload_n hx hb dX0_findEarliest_39 rfl (lv_at hl 0 rfl) ?_
                refine lv_iconst (v := 1) hx hb dX0_findEarliest_40 (by decide) ?_
                refine lv_iadd (x := nI k) (y := 1) hx hb dX0_findEarliest_41 ?_
                refine x_top (w := nI (k + 1)) (nI_add k 1) ?_
                have e9 : ((passF F T L (actC Z lo) rc 0 E1 false).1, nI (k + 1)) = findE F T L (actC Z lo) tc rc E := by unfold findE; rw [← hfin_22]; simp [rndF, c_1, Nat.not_lt.mpr c_1, c_2, Nat.not_lt.mpr c_2, c_4]
                have hP9 : va_P D vwCl ([xObj a tc rc ro, xArr (t 0) (a 1) 30 (xN F), xArr (t 0) (a 2) 30 (xN T), xArr (t 0) (a 3) 30 L, xArr (t 1) (a 4) 30 (xB Z), xArr (t 0) q 12 ((findE F T L (actC Z lo) tc rc E).1)]) H := by rw [← e9]; exact hP
                have hD9 : va_D A ([xObj a tc rc ro, xArr (t 0) (a 1) 30 (xN F), xArr (t 0) (a 2) 30 (xN T), xArr (t 0) (a 3) 30 L, xArr (t 1) (a 4) 30 (xB Z), xArr (t 0) q 12 ((findE F T L (actC Z lo) tc rc E).1)]) := by rw [← e9]; exact hD
                subst hAe
                obtain ⟨hq9, hf9⟩ := xm_end (S := Unit) (pu := (fun u : Unit => True)) (r := (fun u : Unit => some (.int ((findE F T L (actC Z lo) tc rc E).2)))) (wc := [xObj a tc rc ro, xArr (t 0) (a 1) 30 (xN F), xArr (t 0) (a 2) 30 (xN T), xArr (t 0) (a 3) 30 L, xArr (t 1) (a 4) 30 (xB Z), xArr (t 0) q 12 E]) (w1 := (fun u : Unit => [xObj a tc rc ro, xArr (t 0) (a 1) 30 (xN F), xArr (t 0) (a 2) 30 (xN T), xArr (t 0) (a 3) 30 L, xArr (t 1) (a 4) 30 (xB Z), xArr (t 0) q 12 ((findE F T L (actC Z lo) tc rc E).1)])) (o := some (.int (nI (k + 1)))) (args := ([.ref (a 0), .ref q, .int lo] : List Value).toArray) () rfl trivial (by rw [← e9]) hP9 hD9 hS
                exact W.iret hx hb hr hq9 hf9 dX0_findEarliest_42 hlocks
        exact lp_22 (tc + 1) 0 (fillF 0 tc 0 E) (by omega) rfl _ _ hP hD hS _ (lv_sub hl [0, 1, 2, 3] rfl)
      · have c_1 : i < tc := Nat.lt_of_not_le (fun z9 => c_1 ((nI_leI (a := tc) (b := i) (by omega) (by omega)).mpr z9))
        obtain ⟨n29, rfl⟩ : ∃ z, n2 = z + 1 := ⟨n2 - 1, by omega⟩
        refine lv_aload_n hx hb dX0_findEarliest_10 rfl (lv_at hl 2 rfl) ?_
        refine lv_iload_n hx hb dX0_findEarliest_11 rfl (lv_at hl 0 rfl) ?_
        refine lv_iconst (v := 0) hx hb dX0_findEarliest_12 (by decide) ?_
        refine x_iast (x := 0) (f := E1) hx hb hK hP hD hS 5 0 ([xObj a tc rc ro, xArr (t 0) (a 1) 30 (xN F), xArr (t 0) (a 2) 30 (xN T), xArr (t 0) (a 3) 30 L, xArr (t 1) (a 4) 30 (xB Z), xArr (t 0) q 12 (upd E1 i 0)]) rfl rfl (k := i) rfl (by omega) (Nat.le_of_ble_eq_true rfl) dX0_findEarliest_13 (fun H locs hP hD hS => ?_)
        refine lv_iinc (v := nI (i + 1)) (lv' := [(3, .int (nI (i + 1))), (0, .ref (a 0)), (1, .ref q), (2, .int lo)]) hx hb dX0_findEarliest_14 hl (k := 0) rfl (x_inc _) (by decide) rfl (fun ls hl => ?_)
        refine lv_goto (tgt := 2) hx hb dX0_findEarliest_17 (by decide) ?_
        exact ih_2 n29 (by omega) (i + 1) (upd E1 i 0) (by omega) (by rw [← hfin_2]; rfl) _ _ hP hD hS _ (lv_sub hl [0, 1, 2, 3] rfl)
  exact lp_2 tc 0 E (by omega) rfl _ _ hP hD hS _ (lv_sub hl [0, 1, 2, 3] rfl)
set_option maxHeartbeats 4000000 in
set_option maxRecDepth 100000 in
theorem c_X0_shortenBound (l : Launch) (D : va_G) (t : Nat → ClassId) (a : Nat → Nat) (tc rc : Nat) (ro : Int32) (B : Nat → Int32) (i j : Nat) (w : Int32) (sz : Nat) (hi : i < 12) (hj : j < 12) : Met l yX0_shortenBound wsX0_shortenBound ({ frames := 1, cells := 0, slots := 0, locals := 21 }) (xMu D (xTy t) (fun _ => True) [.ref (a 0), .int (nI i), .int (nI j), .int w] [xObj a tc rc ro, xArr (t 0) (a 6) 144 B] sz) (xQm D (fun u : Unit => True) (fun u : Unit => none) [xObj a tc rc ro, xArr (t 0) (a 6) 144 B] (fun u : Unit => [xObj a tc rc ro, xArr (t 0) (a 6) 144 (shortB B i j w)]) sz) 0 0 (va_A [xObj a tc rc ro, xArr (t 0) (a 6) 144 B] sz) := by
  refine Met.ofW (cc := cX0_shortenBound) (maxL := 5) (ret := none) (by decide) rfl ?_
  intro p e s m args below meth c s₁ hB9 hml hv
  obtain ⟨rfl, hsz, hP, hK, hD0, hXX⟩ := hv
  have hx := hB9.exec
  have hb := hB9.bytes
  have hr := hB9.returns
  have hts := atoms_spec (ws := wsX0_shortenBound) hB9.pre
  have hown : s.vm.findClass RX0 = some m.cls := findClass_of_methodNamed hB9.named
  have hlocks := hB9.notSynchronized
  have hin : ∀ w ∈ wsX00, w ∈ wsX0_shortenBound := fun _ h => List.mem_cons_of_mem _ (List.mem_append_right _ h)
  have fl_26 := hts (.fieldLink RX0 26 "RopeTimes" "bound" "[I") (by decide +kernel)
  have ml_122 := hts (.methodLink RX0 122 Lib.Math.min.name) (by decide +kernel)
  have ms_min := hts (.static Lib.Math.min.name) (by decide +kernel)
  have mc_min := hts (.code Lib.Math.min.name Lib.Math.min.code 2 (some .int)) (by decide +kernel)
  have mi_Math := hts (.initialized "java/lang/Math") (by decide +kernel)
  subst hsz
  have hD := hD0.self (sz := s.heap.size)
  generalize hAe : va_A ([xObj a tc rc ro, xArr (t 0) (a 6) 144 B]) s.heap.size = A at hD ⊢
  have hA : ∀ q : Nat, s.heap.size ≤ q → A q := fun q h => by rw [← hAe]; exact Or.inr h
  have hS : va_S A s.heap s.heap [] := va_S.rf
  have hP : va_P D vwCl ([xObj a tc rc ro, xArr (t 0) (a 6) 144 B]) s.heap := hP
  have hD : va_D A ([xObj a tc rc ro, xArr (t 0) (a 6) 144 B]) := hD
  have hl := lv_entry ([.ref (a 0), .int (nI i), .int (nI j), .int w]) (n := 5) (Nat.le_of_ble_eq_true rfl)
  rw [lg_entry_eq]
  generalize (lg_sl ([.ref (a 0), .int (nI i), .int (nI j), .int w]) ++ List.replicate (5 - (lg_sl ([.ref (a 0), .int (nI i), .int (nI j), .int w])).length) Slot.unset).toArray = ls at hl ⊢
  have hl : lv_has ls 5 [(0, .ref (a 0)), (1, .int (nI i)), (2, .int (nI j)), (3, .int w)] := hl
  refine lv_iload_n hx hb dX0_shortenBound_0 rfl (lv_at hl 1 rfl) ?_
  refine lv_bipush (v := 12) hx hb dX0_shortenBound_1 (by decide) ?_
  refine lv_imul (x := nI i) (y := 12) hx hb dX0_shortenBound_3 ?_
  refine x_top (w := nI (i * 12)) (pk_mul i 12) ?_
  refine lv_iload_n hx hb dX0_shortenBound_4 rfl (lv_at hl 2 rfl) ?_
  refine lv_iadd (x := nI (i * 12)) (y := nI j) hx hb dX0_shortenBound_5 ?_
  refine x_top (w := nI (i * 12 + j)) (nI_add (i * 12) j) ?_
  refine lv_istore (lv' := [(4, .int (nI (i * 12 + j))), (0, .ref (a 0)), (1, .int (nI i)), (2, .int (nI j)), (3, .int w)]) hx hb dX0_shortenBound_6 hl (by decide) rfl (fun ls hl => ?_)
  refine lv_aload_n hx hb dX0_shortenBound_8 rfl (lv_at hl 1 rfl) ?_
  refine x0_get (v := .ref (a 6)) hx hb hts hin hown hK hP 0 rfl 8 (by decide) fl_26 rfl dX0_shortenBound_9 rfl ?_
  refine lv_iload hx hb dX0_shortenBound_12 (lv_at hl 0 rfl) ?_
  refine lv_aload_n hx hb dX0_shortenBound_14 rfl (lv_at hl 1 rfl) ?_
  refine x0_get (v := .ref (a 6)) hx hb hts hin hown hK hP 0 rfl 8 (by decide) fl_26 rfl dX0_shortenBound_15 rfl ?_
  refine lv_iload hx hb dX0_shortenBound_18 (lv_at hl 0 rfl) ?_
  refine x_iald (f := B) hx hb hK hP 1 0 rfl rfl (k := i * 12 + j) (by omega) (Nat.le_of_ble_eq_true rfl) dX0_shortenBound_20 ?_
  refine lv_iload_n hx hb dX0_shortenBound_21 rfl (lv_at hl 4 rfl) ?_
  refine va_mmin (x := B (i * 12 + j)) (y := w) hx hb (hml.trans hl.1.symm) hown ml_122 ms_min mi_Math mc_min (Nat.le_of_ble_eq_true rfl) (Nat.le_of_ble_eq_true rfl) (Nat.le_of_ble_eq_true rfl) (Nat.le_of_ble_eq_true rfl) dX0_shortenBound_22 ?_
  refine x_top (w := mnI (B (i * 12 + j)) w) rfl ?_
  refine x_iast (x := mnI (B (i * 12 + j)) w) (f := B) hx hb hK hP hD hS 1 0 ([xObj a tc rc ro, xArr (t 0) (a 6) 144 (upd B (i * 12 + j) (mnI (B (i * 12 + j)) w))]) rfl rfl (k := i * 12 + j) rfl (by omega) (Nat.le_of_ble_eq_true rfl) dX0_shortenBound_25 (fun H locs hP hD hS => ?_)
  subst hAe
  obtain ⟨hq9, hf9⟩ := xm_end (S := Unit) (pu := (fun u : Unit => True)) (r := (fun u : Unit => none)) (wc := [xObj a tc rc ro, xArr (t 0) (a 6) 144 B]) (w1 := (fun u : Unit => [xObj a tc rc ro, xArr (t 0) (a 6) 144 (shortB B i j w)])) (o := none) (args := ([.ref (a 0), .int (nI i), .int (nI j), .int w] : List Value).toArray) () rfl trivial rfl hP hD hS
  exact W.vret hx hb hr hq9 hf9 dX0_shortenBound_26 hlocks
set_option maxHeartbeats 4000000 in
set_option maxRecDepth 100000 in
theorem c_X0_startBounds (l : Launch) (D : va_G) (t : Nat → ClassId) (a : Nat → Nat) (tc rc : Nat) (ro : Int32) (F T : Nat → Nat) (L : Nat → Int32) (Z : Nat → Bool) (B : Nat → Int32) (sz : Nat) (htc : tc ≤ 12) (hrc : rc ≤ 30) (hF : ∀ r, r < rc → F r < tc ∧ T r < tc) : Met l yX0_startBounds wsX0_startBounds ({ frames := 2, cells := 0, slots := 0, locals := 45 }) (xMu D (xTy t) (fun _ => True) [.ref (a 0)] [xObj a tc rc ro, xArr (t 0) (a 1) 30 (xN F), xArr (t 0) (a 2) 30 (xN T), xArr (t 0) (a 3) 30 L, xArr (t 1) (a 4) 30 (xB Z), xArr (t 0) (a 6) 144 B] sz) (xQm D (fun u : Unit => True) (fun u : Unit => none) [xObj a tc rc ro, xArr (t 0) (a 1) 30 (xN F), xArr (t 0) (a 2) 30 (xN T), xArr (t 0) (a 3) 30 L, xArr (t 1) (a 4) 30 (xB Z), xArr (t 0) (a 6) 144 B] (fun u : Unit => [xObj a tc rc ro, xArr (t 0) (a 1) 30 (xN F), xArr (t 0) (a 2) 30 (xN T), xArr (t 0) (a 3) 30 L, xArr (t 1) (a 4) 30 (xB Z), xArr (t 0) (a 6) 144 (startF F T L Z tc rc B)]) sz) 0 0 (va_A [xObj a tc rc ro, xArr (t 0) (a 1) 30 (xN F), xArr (t 0) (a 2) 30 (xN T), xArr (t 0) (a 3) 30 L, xArr (t 1) (a 4) 30 (xB Z), xArr (t 0) (a 6) 144 B] sz) := by
  refine Met.ofW (cc := cX0_startBounds) (maxL := 3) (ret := none) (by decide) rfl ?_
  intro p e s m args below meth c s₁ hB9 hml hv
  obtain ⟨rfl, hsz, hP, hK, hD0, hXX⟩ := hv
  have hx := hB9.exec
  have hb := hB9.bytes
  have hr := hB9.returns
  have hts := atoms_spec (ws := wsX0_startBounds) hB9.pre
  have hown : s.vm.findClass RX0 = some m.cls := findClass_of_methodNamed hB9.named
  have hlocks := hB9.notSynchronized
  have hin : ∀ w ∈ wsX00, w ∈ wsX0_startBounds := fun _ h => List.mem_cons_of_mem _ (List.mem_append_right _ h)
  have fl_41 := hts (.fieldLink RX0 41 "RopeTimes" "turnCount" "I") (by decide +kernel)
  have fl_26 := hts (.fieldLink RX0 26 "RopeTimes" "bound" "[I") (by decide +kernel)
  have kc_121 := hts (.constant RX0 121 (99999)) (by decide +kernel)
  have fl_63 := hts (.fieldLink RX0 63 "RopeTimes" "ropeCount" "I") (by decide +kernel)
  have fl_19 := hts (.fieldLink RX0 19 "RopeTimes" "tied" "[Z") (by decide +kernel)
  have fl_9 := hts (.fieldLink RX0 9 "RopeTimes" "from" "[I") (by decide +kernel)
  have fl_13 := hts (.fieldLink RX0 13 "RopeTimes" "to" "[I") (by decide +kernel)
  have fl_16 := hts (.fieldLink RX0 16 "RopeTimes" "length" "[I") (by decide +kernel)
  subst hsz
  have hD := hD0.self (sz := s.heap.size)
  generalize hAe : va_A ([xObj a tc rc ro, xArr (t 0) (a 1) 30 (xN F), xArr (t 0) (a 2) 30 (xN T), xArr (t 0) (a 3) 30 L, xArr (t 1) (a 4) 30 (xB Z), xArr (t 0) (a 6) 144 B]) s.heap.size = A at hD ⊢
  have hA : ∀ q : Nat, s.heap.size ≤ q → A q := fun q h => by rw [← hAe]; exact Or.inr h
  have hS : va_S A s.heap s.heap [] := va_S.rf
  have hP : va_P D vwCl ([xObj a tc rc ro, xArr (t 0) (a 1) 30 (xN F), xArr (t 0) (a 2) 30 (xN T), xArr (t 0) (a 3) 30 L, xArr (t 1) (a 4) 30 (xB Z), xArr (t 0) (a 6) 144 B]) s.heap := hP
  have hD : va_D A ([xObj a tc rc ro, xArr (t 0) (a 1) 30 (xN F), xArr (t 0) (a 2) 30 (xN T), xArr (t 0) (a 3) 30 L, xArr (t 1) (a 4) 30 (xB Z), xArr (t 0) (a 6) 144 B]) := hD
  have hl := lv_entry ([.ref (a 0)]) (n := 3) (Nat.le_of_ble_eq_true rfl)
  rw [lg_entry_eq]
  generalize (lg_sl ([.ref (a 0)]) ++ List.replicate (3 - (lg_sl ([.ref (a 0)])).length) Slot.unset).toArray = ls at hl ⊢
  have hl : lv_has ls 3 [(0, .ref (a 0))] := hl
  refine lv_iconst (v := 0) hx hb dX0_startBounds_0 (by decide) ?_
  refine lv_istore_n (lv' := [(1, .int 0), (0, .ref (a 0))]) hx hb dX0_startBounds_1 rfl hl (by decide) rfl (fun ls hl => ?_)
  have lp_2 : ∀ (n2 : Nat) (i : Nat) (B1 : Nat → Int32), i + n2 = tc → sbA tc n2 i B1 = sbA tc tc 0 B → ∀ (H : Heap) (locs : List Loc), va_P D vwCl ([xObj a tc rc ro, xArr (t 0) (a 1) 30 (xN F), xArr (t 0) (a 2) 30 (xN T), xArr (t 0) (a 3) 30 L, xArr (t 1) (a 4) 30 (xB Z), xArr (t 0) (a 6) 144 B1]) H → va_D A ([xObj a tc rc ro, xArr (t 0) (a 1) 30 (xN F), xArr (t 0) (a 2) 30 (xN T), xArr (t 0) (a 3) 30 L, xArr (t 1) (a 4) 30 (xB Z), xArr (t 0) (a 6) 144 B1]) → va_S A s.heap H locs → ∀ ls : Array Slot, lv_has ls 3 [(1, .int (nI i)), (0, .ref (a 0))] → W p l e (headSpec wsX0_startBounds ({ frames := 2, cells := 0, slots := 0, locals := 45 } : Jvm.Room)).room s m (([.ref (a 0)] : List Value).toArray) below meth c H locs 0 0 (MQ below (xQm D (fun u : Unit => True) (fun u : Unit => none) [xObj a tc rc ro, xArr (t 0) (a 1) 30 (xN F), xArr (t 0) (a 2) 30 (xN T), xArr (t 0) (a 3) 30 L, xArr (t 1) (a 4) 30 (xB Z), xArr (t 0) (a 6) 144 B] (fun u : Unit => [xObj a tc rc ro, xArr (t 0) (a 1) 30 (xN F), xArr (t 0) (a 2) 30 (xN T), xArr (t 0) (a 3) 30 L, xArr (t 1) (a 4) 30 (xB Z), xArr (t 0) (a 6) 144 (startF F T L Z tc rc B)]) s.heap.size) (([.ref (a 0)] : List Value).toArray) s 0 0 A) (F0 m 2 ls []) := by
    intro n2
    induction n2 using Nat.strongRecOn with
    | _ n2 ih_2 =>
      intro i B1 hm_2 hfin_2 H locs hP hD hS ls hl
      refine lv_iload_n hx hb dX0_startBounds_2 rfl (lv_at hl 0 rfl) ?_
      refine lv_aload_n hx hb dX0_startBounds_3 rfl (lv_at hl 1 rfl) ?_
      refine x0_get (v := .int (nI tc)) hx hb hts hin hown hK hP 0 rfl 0 (by decide) fl_41 rfl dX0_startBounds_4 rfl ?_
      refine lv_icmp_ge (x := nI i) (y := nI tc) (tgt := 54) hx hb dX0_startBounds_7 (by decide) (fun c_1 => ?_) (fun c_1 => ?_)
      · have c_1 := (nI_leI (a := tc) (b := i) (by omega) (by omega)).mp c_1
        have hn0_2 : n2 = 0 := by omega
        subst hn0_2
        obtain rfl : B1 = sbA tc tc 0 B := hfin_2
        refine lv_iconst (v := 0) hx hb dX0_startBounds_54 (by decide) ?_
        refine lv_istore_n (lv' := [(1, .int 0), (0, .ref (a 0))]) hx hb dX0_startBounds_55 rfl hl (by decide) rfl (fun ls hl => ?_)
        have lp_56 : ∀ (n56 : Nat) (r : Nat) (B3 : Nat → Int32), r + n56 = rc → sbW F T L Z n56 r B3 = sbW F T L Z rc 0 (sbA tc tc 0 B) → ∀ (H : Heap) (locs : List Loc), va_P D vwCl ([xObj a tc rc ro, xArr (t 0) (a 1) 30 (xN F), xArr (t 0) (a 2) 30 (xN T), xArr (t 0) (a 3) 30 L, xArr (t 1) (a 4) 30 (xB Z), xArr (t 0) (a 6) 144 B3]) H → va_D A ([xObj a tc rc ro, xArr (t 0) (a 1) 30 (xN F), xArr (t 0) (a 2) 30 (xN T), xArr (t 0) (a 3) 30 L, xArr (t 1) (a 4) 30 (xB Z), xArr (t 0) (a 6) 144 B3]) → va_S A s.heap H locs → ∀ ls : Array Slot, lv_has ls 3 [(1, .int (nI r)), (0, .ref (a 0))] → W p l e (headSpec wsX0_startBounds ({ frames := 2, cells := 0, slots := 0, locals := 45 } : Jvm.Room)).room s m (([.ref (a 0)] : List Value).toArray) below meth c H locs 0 0 (MQ below (xQm D (fun u : Unit => True) (fun u : Unit => none) [xObj a tc rc ro, xArr (t 0) (a 1) 30 (xN F), xArr (t 0) (a 2) 30 (xN T), xArr (t 0) (a 3) 30 L, xArr (t 1) (a 4) 30 (xB Z), xArr (t 0) (a 6) 144 B] (fun u : Unit => [xObj a tc rc ro, xArr (t 0) (a 1) 30 (xN F), xArr (t 0) (a 2) 30 (xN T), xArr (t 0) (a 3) 30 L, xArr (t 1) (a 4) 30 (xB Z), xArr (t 0) (a 6) 144 (startF F T L Z tc rc B)]) s.heap.size) (([.ref (a 0)] : List Value).toArray) s 0 0 A) (F0 m 56 ls []) := by
          intro n56
          induction n56 using Nat.strongRecOn with
          | _ n56 ih_56 =>
            intro r B3 hm_56 hfin_56 H locs hP hD hS ls hl
            refine lv_iload_n hx hb dX0_startBounds_56 rfl (lv_at hl 0 rfl) ?_
            refine lv_aload_n hx hb dX0_startBounds_57 rfl (lv_at hl 1 rfl) ?_
            refine x0_get (v := .int (nI rc)) hx hb hts hin hown hK hP 0 rfl 1 (by decide) fl_63 rfl dX0_startBounds_58 rfl ?_
            refine lv_icmp_ge (x := nI r) (y := nI rc) (tgt := 101) hx hb dX0_startBounds_61 (by decide) (fun c_2 => ?_) (fun c_2 => ?_)
            · have c_2 := (nI_leI (a := rc) (b := r) (by omega) (by omega)).mp c_2
              have hn0_56 : n56 = 0 := by omega
              subst hn0_56
              obtain rfl : B3 = sbW F T L Z rc 0 (sbA tc tc 0 B) := hfin_56
              subst hAe
              obtain ⟨hq9, hf9⟩ := xm_end (S := Unit) (pu := (fun u : Unit => True)) (r := (fun u : Unit => none)) (wc := [xObj a tc rc ro, xArr (t 0) (a 1) 30 (xN F), xArr (t 0) (a 2) 30 (xN T), xArr (t 0) (a 3) 30 L, xArr (t 1) (a 4) 30 (xB Z), xArr (t 0) (a 6) 144 B]) (w1 := (fun u : Unit => [xObj a tc rc ro, xArr (t 0) (a 1) 30 (xN F), xArr (t 0) (a 2) 30 (xN T), xArr (t 0) (a 3) 30 L, xArr (t 1) (a 4) 30 (xB Z), xArr (t 0) (a 6) 144 (startF F T L Z tc rc B)])) (o := none) (args := ([.ref (a 0)] : List Value).toArray) () rfl trivial rfl hP hD hS
              exact W.vret hx hb hr hq9 hf9 dX0_startBounds_101 hlocks
            · have c_2 : r < rc := Nat.lt_of_not_le (fun z9 => c_2 ((nI_leI (a := rc) (b := r) (by omega) (by omega)).mpr z9))
              obtain ⟨n569, rfl⟩ : ∃ z, n56 = z + 1 := ⟨n56 - 1, by omega⟩
              refine lv_aload_n hx hb dX0_startBounds_64 rfl (lv_at hl 1 rfl) ?_
              refine x0_get (v := .ref (a 4)) hx hb hts hin hown hK hP 0 rfl 5 (by decide) fl_19 rfl dX0_startBounds_65 rfl ?_
              refine lv_iload_n hx hb dX0_startBounds_68 rfl (lv_at hl 0 rfl) ?_
              refine x_zald (f := xB Z) hx hb hK hP 4 1 rfl rfl (k := r) (by omega) (Nat.le_of_ble_eq_true rfl) dX0_startBounds_69 ?_
              refine x_top (w := bI (Z r)) rfl ?_
              refine lv_if_eq (x := bI (Z r)) (tgt := 95) hx hb dX0_startBounds_70 (by decide) (fun c_3 => ?_) (fun c_3 => ?_)
              · have c_3 := bI_0 c_3
                refine lv_iinc (v := nI (r + 1)) (lv' := [(1, .int (nI (r + 1))), (0, .ref (a 0))]) hx hb dX0_startBounds_95 hl (k := 0) rfl (x_inc _) (by decide) rfl (fun ls hl => ?_)
                refine lv_goto (tgt := 56) hx hb dX0_startBounds_98 (by decide) ?_
                exact ih_56 n569 (by omega) (r + 1) B3 (by omega) (by rw [← hfin_56]; simp [sbW, c_1, Nat.not_lt.mpr c_1, c_2, c_3]) _ _ hP hD hS _ (lv_sub hl [0, 1] rfl)
              · have c_3 := bI_n0 c_3
                refine lv_aload_n hx hb dX0_startBounds_73 rfl (lv_at hl 1 rfl) ?_
                refine lv_aload_n hx hb dX0_startBounds_74 rfl (lv_at hl 1 rfl) ?_
                refine x0_get (v := .ref (a 1)) hx hb hts hin hown hK hP 0 rfl 2 (by decide) fl_9 rfl dX0_startBounds_75 rfl ?_
                refine lv_iload_n hx hb dX0_startBounds_78 rfl (lv_at hl 0 rfl) ?_
                refine x_iald (f := xN F) hx hb hK hP 1 0 rfl rfl (k := r) (by omega) (Nat.le_of_ble_eq_true rfl) dX0_startBounds_79 ?_
                refine x_top (w := nI (F r)) rfl ?_
                have hf_4 := hF r (by omega)
                refine lv_aload_n hx hb dX0_startBounds_80 rfl (lv_at hl 1 rfl) ?_
                refine x0_get (v := .ref (a 2)) hx hb hts hin hown hK hP 0 rfl 3 (by decide) fl_13 rfl dX0_startBounds_81 rfl ?_
                refine lv_iload_n hx hb dX0_startBounds_84 rfl (lv_at hl 0 rfl) ?_
                refine x_iald (f := xN T) hx hb hK hP 2 0 rfl rfl (k := r) (by omega) (Nat.le_of_ble_eq_true rfl) dX0_startBounds_85 ?_
                refine x_top (w := nI (T r)) rfl ?_
                have hf_5 := hF r (by omega)
                refine lv_aload_n hx hb dX0_startBounds_86 rfl (lv_at hl 1 rfl) ?_
                refine x0_get (v := .ref (a 3)) hx hb hts hin hown hK hP 0 rfl 4 (by decide) fl_16 rfl dX0_startBounds_87 rfl ?_
                refine lv_iload_n hx hb dX0_startBounds_90 rfl (lv_at hl 0 rfl) ?_
                refine x_iald (f := L) hx hb hK hP 3 0 rfl rfl (k := r) (by omega) (Nat.le_of_ble_eq_true rfl) dX0_startBounds_91 ?_
                refine xm_V (b := a 0) (As := [.int (nI (F r)), .int (nI (T r)), .int (L r)]) (rest := []) (wr := [xArr (t 0) (a 1) 30 (xN F), xArr (t 0) (a 2) 30 (xN T), xArr (t 0) (a 3) 30 L, xArr (t 1) (a 4) 30 (xB Z)]) ⟨hx, hb, hml, hown, hts⟩ xTrav_T (c_X0_shortenBound l D t a tc rc ro B3 (F r) (T r) (L r) _ (by omega) (by omega)) (cwV 3 hts gX0_startBounds_X0_shortenBound rfl rfl rfl hd_X0_shortenBound ⟨Nat.le_of_ble_eq_true rfl, Nat.le_of_ble_eq_true rfl⟩) hK hP hD hS hA (fun _ _ _ => trivial) (va_recv hK hP (ci := 0) (q0 := 0) rfl rfl) [0, 5] [1, 2, 3, 4] rfl rfl (by decide) (by decide) (by decide) rfl hl.1 rfl (Nat.le_of_ble_eq_true rfl) dX0_startBounds_92 ⟨(Nat.le_of_ble_eq_true rfl), (Nat.le_of_ble_eq_true rfl)⟩ (fun u_6 H locs hu hP hD hS hz => ?_)
                have hP : va_P D vwCl ([xObj a tc rc ro, xArr (t 0) (a 1) 30 (xN F), xArr (t 0) (a 2) 30 (xN T), xArr (t 0) (a 3) 30 L, xArr (t 1) (a 4) 30 (xB Z), xArr (t 0) (a 6) 144 (shortB B3 (F r) (T r) (L r))]) H := hP.sub [4, 0, 1, 2, 3, 5] rfl
                have hD : va_D _ ([xObj a tc rc ro, xArr (t 0) (a 1) 30 (xN F), xArr (t 0) (a 2) 30 (xN T), xArr (t 0) (a 3) 30 L, xArr (t 1) (a 4) 30 (xB Z), xArr (t 0) (a 6) 144 (shortB B3 (F r) (T r) (L r))]) := hD.sub [4, 0, 1, 2, 3, 5] (by decide) rfl
                refine lv_iinc (v := nI (r + 1)) (lv' := [(1, .int (nI (r + 1))), (0, .ref (a 0))]) hx hb dX0_startBounds_95 hl (k := 0) rfl (x_inc _) (by decide) rfl (fun ls hl => ?_)
                refine lv_goto (tgt := 56) hx hb dX0_startBounds_98 (by decide) ?_
                exact ih_56 n569 (by omega) (r + 1) (shortB B3 (F r) (T r) (L r)) (by omega) (by rw [← hfin_56]; simp [sbW, c_1, Nat.not_lt.mpr c_1, c_2, c_3]) _ _ hP hD hS _ (lv_sub hl [0, 1] rfl)
        exact lp_56 rc 0 (sbA tc tc 0 B) (by omega) rfl _ _ hP hD hS _ (lv_sub hl [0, 1] rfl)
      · have c_1 : i < tc := Nat.lt_of_not_le (fun z9 => c_1 ((nI_leI (a := tc) (b := i) (by omega) (by omega)).mpr z9))
        obtain ⟨n29, rfl⟩ : ∃ z, n2 = z + 1 := ⟨n2 - 1, by omega⟩
        refine lv_iconst (v := 0) hx hb dX0_startBounds_10 (by decide) ?_
        refine lv_istore_n (lv' := [(2, .int 0), (1, .int (nI i)), (0, .ref (a 0))]) hx hb dX0_startBounds_11 rfl hl (by decide) rfl (fun ls hl => ?_)
        have lp_12 : ∀ (n12 : Nat) (j : Nat) (B2 : Nat → Int32), j + n12 = tc → sbR i n12 j B2 = sbR i tc 0 B1 → ∀ (H : Heap) (locs : List Loc), va_P D vwCl ([xObj a tc rc ro, xArr (t 0) (a 1) 30 (xN F), xArr (t 0) (a 2) 30 (xN T), xArr (t 0) (a 3) 30 L, xArr (t 1) (a 4) 30 (xB Z), xArr (t 0) (a 6) 144 B2]) H → va_D A ([xObj a tc rc ro, xArr (t 0) (a 1) 30 (xN F), xArr (t 0) (a 2) 30 (xN T), xArr (t 0) (a 3) 30 L, xArr (t 1) (a 4) 30 (xB Z), xArr (t 0) (a 6) 144 B2]) → va_S A s.heap H locs → ∀ ls : Array Slot, lv_has ls 3 [(2, .int (nI j)), (1, .int (nI i)), (0, .ref (a 0))] → W p l e (headSpec wsX0_startBounds ({ frames := 2, cells := 0, slots := 0, locals := 45 } : Jvm.Room)).room s m (([.ref (a 0)] : List Value).toArray) below meth c H locs 0 0 (MQ below (xQm D (fun u : Unit => True) (fun u : Unit => none) [xObj a tc rc ro, xArr (t 0) (a 1) 30 (xN F), xArr (t 0) (a 2) 30 (xN T), xArr (t 0) (a 3) 30 L, xArr (t 1) (a 4) 30 (xB Z), xArr (t 0) (a 6) 144 B] (fun u : Unit => [xObj a tc rc ro, xArr (t 0) (a 1) 30 (xN F), xArr (t 0) (a 2) 30 (xN T), xArr (t 0) (a 3) 30 L, xArr (t 1) (a 4) 30 (xB Z), xArr (t 0) (a 6) 144 (startF F T L Z tc rc B)]) s.heap.size) (([.ref (a 0)] : List Value).toArray) s 0 0 A) (F0 m 12 ls []) := by
          intro n12
          induction n12 using Nat.strongRecOn with
          | _ n12 ih_12 =>
            intro j B2 hm_12 hfin_12 H locs hP hD hS ls hl
            refine lv_iload_n hx hb dX0_startBounds_12 rfl (lv_at hl 0 rfl) ?_
            refine lv_aload_n hx hb dX0_startBounds_13 rfl (lv_at hl 2 rfl) ?_
            refine x0_get (v := .int (nI tc)) hx hb hts hin hown hK hP 0 rfl 0 (by decide) fl_41 rfl dX0_startBounds_14 rfl ?_
            refine lv_icmp_ge (x := nI j) (y := nI tc) (tgt := 48) hx hb dX0_startBounds_17 (by decide) (fun c_7 => ?_) (fun c_7 => ?_)
            · have c_7 := (nI_leI (a := tc) (b := j) (by omega) (by omega)).mp c_7
              have hn0_12 : n12 = 0 := by omega
              subst hn0_12
              obtain rfl : B2 = sbR i tc 0 B1 := hfin_12
              refine lv_iinc (v := nI (i + 1)) (lv' := [(1, .int (nI (i + 1))), (2, .int (nI j)), (0, .ref (a 0))]) hx hb dX0_startBounds_48 hl (k := 1) rfl (x_inc _) (by decide) rfl (fun ls hl => ?_)
              refine lv_goto (tgt := 2) hx hb dX0_startBounds_51 (by decide) ?_
              exact ih_2 n29 (by omega) (i + 1) (sbR i tc 0 B1) (by omega) (by rw [← hfin_2]; rfl) _ _ hP hD hS _ (lv_sub hl [0, 2] rfl)
            · have c_7 : j < tc := Nat.lt_of_not_le (fun z9 => c_7 ((nI_leI (a := tc) (b := j) (by omega) (by omega)).mpr z9))
              obtain ⟨n129, rfl⟩ : ∃ z, n12 = z + 1 := ⟨n12 - 1, by omega⟩
              refine lv_aload_n hx hb dX0_startBounds_20 rfl (lv_at hl 2 rfl) ?_
              refine x0_get (v := .ref (a 6)) hx hb hts hin hown hK hP 0 rfl 8 (by decide) fl_26 rfl dX0_startBounds_21 rfl ?_
              refine lv_iload_n hx hb dX0_startBounds_24 rfl (lv_at hl 1 rfl) ?_
              refine lv_bipush (v := 12) hx hb dX0_startBounds_25 (by decide) ?_
              refine lv_imul (x := nI i) (y := 12) hx hb dX0_startBounds_27 ?_
              refine x_top (w := nI (i * 12)) (pk_mul i 12) ?_
              refine lv_iload_n hx hb dX0_startBounds_28 rfl (lv_at hl 0 rfl) ?_
              refine lv_iadd (x := nI (i * 12)) (y := nI j) hx hb dX0_startBounds_29 ?_
              refine x_top (w := nI (i * 12 + j)) (nI_add (i * 12) j) ?_
              refine lv_iload_n hx hb dX0_startBounds_30 rfl (lv_at hl 1 rfl) ?_
              refine lv_iload_n hx hb dX0_startBounds_31 rfl (lv_at hl 0 rfl) ?_
              refine lv_icmp_ne (x := nI i) (y := nI j) (tgt := 39) hx hb dX0_startBounds_32 (by decide) (fun c_8 => ?_) (fun c_8 => ?_)
              · have c_8 : ¬ i = j := fun z9 => c_8 ((nI_eq (a := i) (b := j) (by omega) (by omega)).mpr z9)
                refine lv_ldc (v := 99999) hx hb hown kc_121 dX0_startBounds_39 ?_
                refine x_iast (x := 99999) (f := B2) hx hb hK hP hD hS 5 0 ([xObj a tc rc ro, xArr (t 0) (a 1) 30 (xN F), xArr (t 0) (a 2) 30 (xN T), xArr (t 0) (a 3) 30 L, xArr (t 1) (a 4) 30 (xB Z), xArr (t 0) (a 6) 144 (upd B2 (i * 12 + j) 99999)]) rfl rfl (k := i * 12 + j) rfl (by omega) (Nat.le_of_ble_eq_true rfl) dX0_startBounds_41 (fun H locs hP hD hS => ?_)
                refine lv_iinc (v := nI (j + 1)) (lv' := [(2, .int (nI (j + 1))), (1, .int (nI i)), (0, .ref (a 0))]) hx hb dX0_startBounds_42 hl (k := 0) rfl (x_inc _) (by decide) rfl (fun ls hl => ?_)
                refine lv_goto (tgt := 12) hx hb dX0_startBounds_45 (by decide) ?_
                exact ih_12 n129 (by omega) (j + 1) (upd B2 (i * 12 + j) 99999) (by omega) (by rw [← hfin_12]; simp [sbR, c_1, c_7, c_8]) _ _ hP hD hS _ (lv_sub hl [0, 1, 2] rfl)
              · have c_8 := (nI_eq (a := i) (b := j) (by omega) (by omega)).mp c_8
                refine lv_iconst (v := 0) hx hb dX0_startBounds_35 (by decide) ?_
                refine lv_goto (tgt := 41) hx hb dX0_startBounds_36 (by decide) ?_
                refine x_iast (x := 0) (f := B2) hx hb hK hP hD hS 5 0 ([xObj a tc rc ro, xArr (t 0) (a 1) 30 (xN F), xArr (t 0) (a 2) 30 (xN T), xArr (t 0) (a 3) 30 L, xArr (t 1) (a 4) 30 (xB Z), xArr (t 0) (a 6) 144 (upd B2 (i * 12 + j) 0)]) rfl rfl (k := i * 12 + j) rfl (by omega) (Nat.le_of_ble_eq_true rfl) dX0_startBounds_41 (fun H locs hP hD hS => ?_)
                refine lv_iinc (v := nI (j + 1)) (lv' := [(2, .int (nI (j + 1))), (1, .int (nI i)), (0, .ref (a 0))]) hx hb dX0_startBounds_42 hl (k := 0) rfl (x_inc _) (by decide) rfl (fun ls hl => ?_)
                refine lv_goto (tgt := 12) hx hb dX0_startBounds_45 (by decide) ?_
                exact ih_12 n129 (by omega) (j + 1) (upd B2 (i * 12 + j) 0) (by omega) (by rw [← hfin_12]; simp [sbR, c_1, c_7, c_8]) _ _ hP hD hS _ (lv_sub hl [0, 1, 2] rfl)
        exact lp_12 tc 0 B1 (by omega) rfl _ _ hP hD hS _ (lv_sub hl [0, 1, 2] rfl)
  exact lp_2 tc 0 B (by omega) rfl _ _ hP hD hS _ (lv_sub hl [0, 1] rfl)
set_option maxHeartbeats 4000000 in
set_option maxRecDepth 100000 in
theorem c_X0_goOnOver (l : Launch) (D : va_G) (t : Nat → ClassId) (a : Nat → Nat) (tc rc : Nat) (ro : Int32) (B : Nat → Int32) (i mid : Nat) (sz : Nat) (htc : tc ≤ 12) (hi : i < tc) (hj : mid < tc) : Met l yX0_goOnOver wsX0_goOnOver ({ frames := 2, cells := 0, slots := 0, locals := 45 }) (xMu D (xTy t) (fun _ => True) [.ref (a 0), .int (nI i), .int (nI mid)] [xObj a tc rc ro, xArr (t 0) (a 6) 144 B] sz) (xQm D (fun u : Unit => True) (fun u : Unit => none) [xObj a tc rc ro, xArr (t 0) (a 6) 144 B] (fun u : Unit => [xObj a tc rc ro, xArr (t 0) (a 6) 144 (goF i mid (B (i * 12 + mid)) tc 0 B)]) sz) 0 0 (va_A [xObj a tc rc ro, xArr (t 0) (a 6) 144 B] sz) := by
  refine Met.ofW (cc := cX0_goOnOver) (maxL := 6) (ret := none) (by decide) rfl ?_
  intro p e s m args below meth c s₁ hB9 hml hv
  obtain ⟨rfl, hsz, hP, hK, hD0, hXX⟩ := hv
  have hx := hB9.exec
  have hb := hB9.bytes
  have hr := hB9.returns
  have hts := atoms_spec (ws := wsX0_goOnOver) hB9.pre
  have hown : s.vm.findClass RX0 = some m.cls := findClass_of_methodNamed hB9.named
  have hlocks := hB9.notSynchronized
  have hin : ∀ w ∈ wsX00, w ∈ wsX0_goOnOver := fun _ h => List.mem_cons_of_mem _ (List.mem_append_right _ h)
  have fl_41 := hts (.fieldLink RX0 41 "RopeTimes" "turnCount" "I") (by decide +kernel)
  have kc_121 := hts (.constant RX0 121 (99999)) (by decide +kernel)
  subst hsz
  have hD := hD0.self (sz := s.heap.size)
  generalize hAe : va_A ([xObj a tc rc ro, xArr (t 0) (a 6) 144 B]) s.heap.size = A at hD ⊢
  have hA : ∀ q : Nat, s.heap.size ≤ q → A q := fun q h => by rw [← hAe]; exact Or.inr h
  have hS : va_S A s.heap s.heap [] := va_S.rf
  have hP : va_P D vwCl ([xObj a tc rc ro, xArr (t 0) (a 6) 144 B]) s.heap := hP
  have hD : va_D A ([xObj a tc rc ro, xArr (t 0) (a 6) 144 B]) := hD
  have hl := lv_entry ([.ref (a 0), .int (nI i), .int (nI mid)]) (n := 6) (Nat.le_of_ble_eq_true rfl)
  rw [lg_entry_eq]
  generalize (lg_sl ([.ref (a 0), .int (nI i), .int (nI mid)]) ++ List.replicate (6 - (lg_sl ([.ref (a 0), .int (nI i), .int (nI mid)])).length) Slot.unset).toArray = ls at hl ⊢
  have hl : lv_has ls 6 [(0, .ref (a 0)), (1, .int (nI i)), (2, .int (nI mid))] := hl
  refine lv_aload_n hx hb dX0_goOnOver_0 rfl (lv_at hl 0 rfl) ?_
  refine lv_iload_n hx hb dX0_goOnOver_1 rfl (lv_at hl 1 rfl) ?_
  refine lv_iload_n hx hb dX0_goOnOver_2 rfl (lv_at hl 2 rfl) ?_
  refine xr_V (b := a 0) (As := [.int (nI i), .int (nI mid)]) (rest := []) ⟨hx, hb, hml, hown, hts⟩ (c_X0_boundFrom l D t a tc rc ro B i mid (by omega) (by omega)) (cwV 2 hts gX0_goOnOver_X0_boundFrom rfl rfl rfl hd_X0_boundFrom ⟨Nat.le_of_ble_eq_true rfl, Nat.le_of_ble_eq_true rfl⟩) hK hP (va_recv hK hP (ci := 0) (q0 := 0) rfl rfl) [0, 1] rfl rfl hl.1 rfl (Nat.le_of_ble_eq_true rfl) dX0_goOnOver_3 ⟨(Nat.le_of_ble_eq_true rfl), (Nat.le_of_ble_eq_true rfl)⟩ ?_
  refine lv_istore_n (lv' := [(3, .int (B (i * 12 + mid))), (0, .ref (a 0)), (1, .int (nI i)), (2, .int (nI mid))]) hx hb dX0_goOnOver_6 rfl hl (by decide) rfl (fun ls hl => ?_)
  refine lv_iconst (v := 0) hx hb dX0_goOnOver_7 (by decide) ?_
  refine lv_istore (lv' := [(4, .int 0), (3, .int (B (i * 12 + mid))), (0, .ref (a 0)), (1, .int (nI i)), (2, .int (nI mid))]) hx hb dX0_goOnOver_8 hl (by decide) rfl (fun ls hl => ?_)
  have lp_10 : ∀ (n10 : Nat) (j : Nat) (B1 : Nat → Int32), j + n10 = tc → goF i mid (B (i * 12 + mid)) n10 j B1 = goF i mid (B (i * 12 + mid)) tc 0 B → ∀ (H : Heap) (locs : List Loc), va_P D vwCl ([xObj a tc rc ro, xArr (t 0) (a 6) 144 B1]) H → va_D A ([xObj a tc rc ro, xArr (t 0) (a 6) 144 B1]) → va_S A s.heap H locs → ∀ ls : Array Slot, lv_has ls 6 [(4, .int (nI j)), (3, .int (B (i * 12 + mid))), (0, .ref (a 0)), (1, .int (nI i)), (2, .int (nI mid))] → W p l e (headSpec wsX0_goOnOver ({ frames := 2, cells := 0, slots := 0, locals := 45 } : Jvm.Room)).room s m (([.ref (a 0), .int (nI i), .int (nI mid)] : List Value).toArray) below meth c H locs 0 0 (MQ below (xQm D (fun u : Unit => True) (fun u : Unit => none) [xObj a tc rc ro, xArr (t 0) (a 6) 144 B] (fun u : Unit => [xObj a tc rc ro, xArr (t 0) (a 6) 144 (goF i mid (B (i * 12 + mid)) tc 0 B)]) s.heap.size) (([.ref (a 0), .int (nI i), .int (nI mid)] : List Value).toArray) s 0 0 A) (F0 m 10 ls []) := by
    intro n10
    induction n10 using Nat.strongRecOn with
    | _ n10 ih_10 =>
      intro j B1 hm_10 hfin_10 H locs hP hD hS ls hl
      refine lv_iload hx hb dX0_goOnOver_10 (lv_at hl 0 rfl) ?_
      refine lv_aload_n hx hb dX0_goOnOver_12 rfl (lv_at hl 2 rfl) ?_
      refine x0_get (v := .int (nI tc)) hx hb hts hin hown hK hP 0 rfl 0 (by decide) fl_41 rfl dX0_goOnOver_13 rfl ?_
      refine lv_icmp_ge (x := nI j) (y := nI tc) (tgt := 52) hx hb dX0_goOnOver_16 (by decide) (fun c_1 => ?_) (fun c_1 => ?_)
      · have c_1 := (nI_leI (a := tc) (b := j) (by omega) (by omega)).mp c_1
        have hn0_10 : n10 = 0 := by omega
        subst hn0_10
        obtain rfl : B1 = goF i mid (B (i * 12 + mid)) tc 0 B := hfin_10
        subst hAe
        obtain ⟨hq9, hf9⟩ := xm_end (S := Unit) (pu := (fun u : Unit => True)) (r := (fun u : Unit => none)) (wc := [xObj a tc rc ro, xArr (t 0) (a 6) 144 B]) (w1 := (fun u : Unit => [xObj a tc rc ro, xArr (t 0) (a 6) 144 (goF i mid (B (i * 12 + mid)) tc 0 B)])) (o := none) (args := ([.ref (a 0), .int (nI i), .int (nI mid)] : List Value).toArray) () rfl trivial rfl hP hD hS
        exact W.vret hx hb hr hq9 hf9 dX0_goOnOver_52 hlocks
      · have c_1 : j < tc := Nat.lt_of_not_le (fun z9 => c_1 ((nI_leI (a := tc) (b := j) (by omega) (by omega)).mpr z9))
        obtain ⟨n109, rfl⟩ : ∃ z, n10 = z + 1 := ⟨n10 - 1, by omega⟩
        refine lv_aload_n hx hb dX0_goOnOver_19 rfl (lv_at hl 2 rfl) ?_
        refine lv_iload_n hx hb dX0_goOnOver_20 rfl (lv_at hl 4 rfl) ?_
        refine lv_iload hx hb dX0_goOnOver_21 (lv_at hl 0 rfl) ?_
        refine xr_V (b := a 0) (As := [.int (nI mid), .int (nI j)]) (rest := []) ⟨hx, hb, hml, hown, hts⟩ (c_X0_boundFrom l D t a tc rc ro B1 mid j (by omega) (by omega)) (cwV 2 hts gX0_goOnOver_X0_boundFrom rfl rfl rfl hd_X0_boundFrom ⟨Nat.le_of_ble_eq_true rfl, Nat.le_of_ble_eq_true rfl⟩) hK hP (va_recv hK hP (ci := 0) (q0 := 0) rfl rfl) [0, 1] rfl rfl hl.1 rfl (Nat.le_of_ble_eq_true rfl) dX0_goOnOver_23 ⟨(Nat.le_of_ble_eq_true rfl), (Nat.le_of_ble_eq_true rfl)⟩ ?_
        refine lv_istore (lv' := [(5, .int (B1 (mid * 12 + j))), (4, .int (nI j)), (3, .int (B (i * 12 + mid))), (0, .ref (a 0)), (1, .int (nI i)), (2, .int (nI mid))]) hx hb dX0_goOnOver_26 hl (by decide) rfl (fun ls hl => ?_)
        refine lv_iload hx hb dX0_goOnOver_28 (lv_at hl 0 rfl) ?_
        refine lv_ldc (v := 99999) hx hb hown kc_121 dX0_goOnOver_30 ?_
        refine lv_icmp_eq (x := B1 (mid * 12 + j)) (y := 99999) (tgt := 46) hx hb dX0_goOnOver_32 (by decide) (fun c_2 => ?_) (fun c_2 => ?_)
        · refine lv_iinc (v := nI (j + 1)) (lv' := [(4, .int (nI (j + 1))), (5, .int (B1 (mid * 12 + j))), (3, .int (B (i * 12 + mid))), (0, .ref (a 0)), (1, .int (nI i)), (2, .int (nI mid))]) hx hb dX0_goOnOver_46 hl (k := 1) rfl (x_inc _) (by decide) rfl (fun ls hl => ?_)
          refine lv_goto (tgt := 10) hx hb dX0_goOnOver_49 (by decide) ?_
          exact ih_10 n109 (by omega) (j + 1) B1 (by omega) (by rw [← hfin_10]; simp [goF, c_1, c_2]) _ _ hP hD hS _ (lv_sub hl [0, 2, 3, 4, 5] rfl)
        · refine lv_aload_n hx hb dX0_goOnOver_35 rfl (lv_at hl 3 rfl) ?_
          refine lv_iload_n hx hb dX0_goOnOver_36 rfl (lv_at hl 4 rfl) ?_
          refine lv_iload hx hb dX0_goOnOver_37 (lv_at hl 1 rfl) ?_
          refine lv_iload_n hx hb dX0_goOnOver_39 rfl (lv_at hl 2 rfl) ?_
          refine lv_iload hx hb dX0_goOnOver_40 (lv_at hl 0 rfl) ?_
          refine lv_iadd (x := B (i * 12 + mid)) (y := B1 (mid * 12 + j)) hx hb dX0_goOnOver_42 ?_
          refine xm_V (b := a 0) (As := [.int (nI i), .int (nI j), .int ((B (i * 12 + mid)) + (B1 (mid * 12 + j)))]) (rest := []) (wr := []) ⟨hx, hb, hml, hown, hts⟩ xTrav_T (c_X0_shortenBound l D t a tc rc ro B1 i j ((B (i * 12 + mid)) + (B1 (mid * 12 + j))) _ (by omega) (by omega)) (cwV 3 hts gX0_goOnOver_X0_shortenBound rfl rfl rfl hd_X0_shortenBound ⟨Nat.le_of_ble_eq_true rfl, Nat.le_of_ble_eq_true rfl⟩) hK hP hD hS hA (fun _ _ _ => trivial) (va_recv hK hP (ci := 0) (q0 := 0) rfl rfl) [0, 1] [] rfl rfl (by decide) (by decide) (by decide) rfl hl.1 rfl (Nat.le_of_ble_eq_true rfl) dX0_goOnOver_43 ⟨(Nat.le_of_ble_eq_true rfl), (Nat.le_of_ble_eq_true rfl)⟩ (fun u_3 H locs hu hP hD hS hz => ?_)
          have hP : va_P D vwCl ([xObj a tc rc ro, xArr (t 0) (a 6) 144 (shortB B1 i j ((B (i * 12 + mid)) + (B1 (mid * 12 + j))))]) H := hP
          have hD : va_D _ ([xObj a tc rc ro, xArr (t 0) (a 6) 144 (shortB B1 i j ((B (i * 12 + mid)) + (B1 (mid * 12 + j))))]) := hD
          refine lv_iinc (v := nI (j + 1)) (lv' := [(4, .int (nI (j + 1))), (5, .int (B1 (mid * 12 + j))), (3, .int (B (i * 12 + mid))), (0, .ref (a 0)), (1, .int (nI i)), (2, .int (nI mid))]) hx hb dX0_goOnOver_46 hl (k := 1) rfl (x_inc _) (by decide) rfl (fun ls hl => ?_)
          refine lv_goto (tgt := 10) hx hb dX0_goOnOver_49 (by decide) ?_
          exact ih_10 n109 (by omega) (j + 1) (shortB B1 i j ((B (i * 12 + mid)) + (B1 (mid * 12 + j)))) (by omega) (by rw [← hfin_10]; simp [goF, c_1, c_2]) _ _ hP hD hS _ (lv_sub hl [0, 2, 3, 4, 5] rfl)
  exact lp_10 tc 0 B (by omega) rfl _ _ hP hD hS _ (lv_sub hl [0, 1, 2, 3, 4] rfl)
set_option maxHeartbeats 4000000 in
set_option maxRecDepth 100000 in
theorem c_X0_findBounds (l : Launch) (D : va_G) (t : Nat → ClassId) (a : Nat → Nat) (tc rc : Nat) (ro : Int32) (F T : Nat → Nat) (L : Nat → Int32) (Z : Nat → Bool) (B : Nat → Int32) (sz : Nat) (htc : tc ≤ 12) (hrc : rc ≤ 30) (hF : ∀ r, r < rc → F r < tc ∧ T r < tc) : Met l yX0_findBounds wsX0_findBounds ({ frames := 3, cells := 0, slots := 0, locals := 70 }) (xMu D (xTy t) (fun _ => True) [.ref (a 0)] [xObj a tc rc ro, xArr (t 0) (a 1) 30 (xN F), xArr (t 0) (a 2) 30 (xN T), xArr (t 0) (a 3) 30 L, xArr (t 1) (a 4) 30 (xB Z), xArr (t 0) (a 6) 144 B] sz) (xQm D (fun u : Unit => True) (fun u : Unit => none) [xObj a tc rc ro, xArr (t 0) (a 1) 30 (xN F), xArr (t 0) (a 2) 30 (xN T), xArr (t 0) (a 3) 30 L, xArr (t 1) (a 4) 30 (xB Z), xArr (t 0) (a 6) 144 B] (fun u : Unit => [xObj a tc rc ro, xArr (t 0) (a 1) 30 (xN F), xArr (t 0) (a 2) 30 (xN T), xArr (t 0) (a 3) 30 L, xArr (t 1) (a 4) 30 (xB Z), xArr (t 0) (a 6) 144 (findB F T L Z tc rc B)]) sz) 0 0 (va_A [xObj a tc rc ro, xArr (t 0) (a 1) 30 (xN F), xArr (t 0) (a 2) 30 (xN T), xArr (t 0) (a 3) 30 L, xArr (t 1) (a 4) 30 (xB Z), xArr (t 0) (a 6) 144 B] sz) := by
  refine Met.ofW (cc := cX0_findBounds) (maxL := 3) (ret := none) (by decide) rfl ?_
  intro p e s m args below meth c s₁ hB9 hml hv
  obtain ⟨rfl, hsz, hP, hK, hD0, hXX⟩ := hv
  have hx := hB9.exec
  have hb := hB9.bytes
  have hr := hB9.returns
  have hts := atoms_spec (ws := wsX0_findBounds) hB9.pre
  have hown : s.vm.findClass RX0 = some m.cls := findClass_of_methodNamed hB9.named
  have hlocks := hB9.notSynchronized
  have hin : ∀ w ∈ wsX00, w ∈ wsX0_findBounds := fun _ h => List.mem_cons_of_mem _ (List.mem_append_right _ h)
  have fl_41 := hts (.fieldLink RX0 41 "RopeTimes" "turnCount" "I") (by decide +kernel)
  have kc_121 := hts (.constant RX0 121 (99999)) (by decide +kernel)
  subst hsz
  have hD := hD0.self (sz := s.heap.size)
  generalize hAe : va_A ([xObj a tc rc ro, xArr (t 0) (a 1) 30 (xN F), xArr (t 0) (a 2) 30 (xN T), xArr (t 0) (a 3) 30 L, xArr (t 1) (a 4) 30 (xB Z), xArr (t 0) (a 6) 144 B]) s.heap.size = A at hD ⊢
  have hA : ∀ q : Nat, s.heap.size ≤ q → A q := fun q h => by rw [← hAe]; exact Or.inr h
  have hS : va_S A s.heap s.heap [] := va_S.rf
  have hP : va_P D vwCl ([xObj a tc rc ro, xArr (t 0) (a 1) 30 (xN F), xArr (t 0) (a 2) 30 (xN T), xArr (t 0) (a 3) 30 L, xArr (t 1) (a 4) 30 (xB Z), xArr (t 0) (a 6) 144 B]) s.heap := hP
  have hD : va_D A ([xObj a tc rc ro, xArr (t 0) (a 1) 30 (xN F), xArr (t 0) (a 2) 30 (xN T), xArr (t 0) (a 3) 30 L, xArr (t 1) (a 4) 30 (xB Z), xArr (t 0) (a 6) 144 B]) := hD
  have hl := lv_entry ([.ref (a 0)]) (n := 3) (Nat.le_of_ble_eq_true rfl)
  rw [lg_entry_eq]
  generalize (lg_sl ([.ref (a 0)]) ++ List.replicate (3 - (lg_sl ([.ref (a 0)])).length) Slot.unset).toArray = ls at hl ⊢
  have hl : lv_has ls 3 [(0, .ref (a 0))] := hl
  refine lv_aload_n hx hb dX0_findBounds_0 rfl (lv_at hl 0 rfl) ?_
  refine xm_V (b := a 0) (As := []) (rest := []) (wr := []) ⟨hx, hb, hml, hown, hts⟩ xTrav_T (c_X0_startBounds l D t a tc rc ro F T L Z B _ (by omega) (by omega) hF) (cwV 0 hts gX0_findBounds_X0_startBounds rfl rfl rfl hd_X0_startBounds ⟨Nat.le_of_ble_eq_true rfl, Nat.le_of_ble_eq_true rfl⟩) hK hP hD hS hA (fun _ _ _ => trivial) (va_recv hK hP (ci := 0) (q0 := 0) rfl rfl) [0, 1, 2, 3, 4, 5] [] rfl rfl (by decide) (by decide) (by decide) rfl hl.1 rfl (Nat.le_of_ble_eq_true rfl) dX0_findBounds_1 ⟨(Nat.le_of_ble_eq_true rfl), (Nat.le_of_ble_eq_true rfl)⟩ (fun u_1 H locs hu hP hD hS hz => ?_)
  have hP : va_P D vwCl ([xObj a tc rc ro, xArr (t 0) (a 1) 30 (xN F), xArr (t 0) (a 2) 30 (xN T), xArr (t 0) (a 3) 30 L, xArr (t 1) (a 4) 30 (xB Z), xArr (t 0) (a 6) 144 (startF F T L Z tc rc B)]) H := hP
  have hD : va_D _ ([xObj a tc rc ro, xArr (t 0) (a 1) 30 (xN F), xArr (t 0) (a 2) 30 (xN T), xArr (t 0) (a 3) 30 L, xArr (t 1) (a 4) 30 (xB Z), xArr (t 0) (a 6) 144 (startF F T L Z tc rc B)]) := hD
  refine lv_iconst (v := 0) hx hb dX0_findBounds_4 (by decide) ?_
  refine lv_istore_n (lv' := [(1, .int 0), (0, .ref (a 0))]) hx hb dX0_findBounds_5 rfl hl (by decide) rfl (fun ls hl => ?_)
  have lp_6 : ∀ (n6 : Nat) (mid : Nat) (B1 : Nat → Int32), mid + n6 = tc → fbM tc n6 mid B1 = fbM tc tc 0 (startF F T L Z tc rc B) → ∀ (H : Heap) (locs : List Loc), va_P D vwCl ([xObj a tc rc ro, xArr (t 0) (a 1) 30 (xN F), xArr (t 0) (a 2) 30 (xN T), xArr (t 0) (a 3) 30 L, xArr (t 1) (a 4) 30 (xB Z), xArr (t 0) (a 6) 144 B1]) H → va_D A ([xObj a tc rc ro, xArr (t 0) (a 1) 30 (xN F), xArr (t 0) (a 2) 30 (xN T), xArr (t 0) (a 3) 30 L, xArr (t 1) (a 4) 30 (xB Z), xArr (t 0) (a 6) 144 B1]) → va_S A s.heap H locs → ∀ ls : Array Slot, lv_has ls 3 [(1, .int (nI mid)), (0, .ref (a 0))] → W p l e (headSpec wsX0_findBounds ({ frames := 3, cells := 0, slots := 0, locals := 70 } : Jvm.Room)).room s m (([.ref (a 0)] : List Value).toArray) below meth c H locs 0 0 (MQ below (xQm D (fun u : Unit => True) (fun u : Unit => none) [xObj a tc rc ro, xArr (t 0) (a 1) 30 (xN F), xArr (t 0) (a 2) 30 (xN T), xArr (t 0) (a 3) 30 L, xArr (t 1) (a 4) 30 (xB Z), xArr (t 0) (a 6) 144 B] (fun u : Unit => [xObj a tc rc ro, xArr (t 0) (a 1) 30 (xN F), xArr (t 0) (a 2) 30 (xN T), xArr (t 0) (a 3) 30 L, xArr (t 1) (a 4) 30 (xB Z), xArr (t 0) (a 6) 144 (findB F T L Z tc rc B)]) s.heap.size) (([.ref (a 0)] : List Value).toArray) s 0 0 A) (F0 m 6 ls []) := by
    intro n6
    induction n6 using Nat.strongRecOn with
    | _ n6 ih_6 =>
      intro mid B1 hm_6 hfin_6 H locs hP hD hS ls hl
      refine lv_iload_n hx hb dX0_findBounds_6 rfl (lv_at hl 0 rfl) ?_
      refine lv_aload_n hx hb dX0_findBounds_7 rfl (lv_at hl 1 rfl) ?_
      refine x0_get (v := .int (nI tc)) hx hb hts hin hown hK hP 0 rfl 0 (by decide) fl_41 rfl dX0_findBounds_8 rfl ?_
      refine lv_icmp_ge (x := nI mid) (y := nI tc) (tgt := 53) hx hb dX0_findBounds_11 (by decide) (fun c_2 => ?_) (fun c_2 => ?_)
      · have c_2 := (nI_leI (a := tc) (b := mid) (by omega) (by omega)).mp c_2
        have hn0_6 : n6 = 0 := by omega
        subst hn0_6
        obtain rfl : B1 = fbM tc tc 0 (startF F T L Z tc rc B) := hfin_6
        subst hAe
        obtain ⟨hq9, hf9⟩ := xm_end (S := Unit) (pu := (fun u : Unit => True)) (r := (fun u : Unit => none)) (wc := [xObj a tc rc ro, xArr (t 0) (a 1) 30 (xN F), xArr (t 0) (a 2) 30 (xN T), xArr (t 0) (a 3) 30 L, xArr (t 1) (a 4) 30 (xB Z), xArr (t 0) (a 6) 144 B]) (w1 := (fun u : Unit => [xObj a tc rc ro, xArr (t 0) (a 1) 30 (xN F), xArr (t 0) (a 2) 30 (xN T), xArr (t 0) (a 3) 30 L, xArr (t 1) (a 4) 30 (xB Z), xArr (t 0) (a 6) 144 (findB F T L Z tc rc B)])) (o := none) (args := ([.ref (a 0)] : List Value).toArray) () rfl trivial rfl hP hD hS
        exact W.vret hx hb hr hq9 hf9 dX0_findBounds_53 hlocks
      · have c_2 : mid < tc := Nat.lt_of_not_le (fun z9 => c_2 ((nI_leI (a := tc) (b := mid) (by omega) (by omega)).mpr z9))
        obtain ⟨n69, rfl⟩ : ∃ z, n6 = z + 1 := ⟨n6 - 1, by omega⟩
        refine lv_iconst (v := 0) hx hb dX0_findBounds_14 (by decide) ?_
        refine lv_istore_n (lv' := [(2, .int 0), (1, .int (nI mid)), (0, .ref (a 0))]) hx hb dX0_findBounds_15 rfl hl (by decide) rfl (fun ls hl => ?_)
        have lp_16 : ∀ (n16 : Nat) (i : Nat) (B2 : Nat → Int32), i + n16 = tc → fbA mid tc n16 i B2 = fbA mid tc tc 0 B1 → ∀ (H : Heap) (locs : List Loc), va_P D vwCl ([xObj a tc rc ro, xArr (t 0) (a 1) 30 (xN F), xArr (t 0) (a 2) 30 (xN T), xArr (t 0) (a 3) 30 L, xArr (t 1) (a 4) 30 (xB Z), xArr (t 0) (a 6) 144 B2]) H → va_D A ([xObj a tc rc ro, xArr (t 0) (a 1) 30 (xN F), xArr (t 0) (a 2) 30 (xN T), xArr (t 0) (a 3) 30 L, xArr (t 1) (a 4) 30 (xB Z), xArr (t 0) (a 6) 144 B2]) → va_S A s.heap H locs → ∀ ls : Array Slot, lv_has ls 3 [(2, .int (nI i)), (1, .int (nI mid)), (0, .ref (a 0))] → W p l e (headSpec wsX0_findBounds ({ frames := 3, cells := 0, slots := 0, locals := 70 } : Jvm.Room)).room s m (([.ref (a 0)] : List Value).toArray) below meth c H locs 0 0 (MQ below (xQm D (fun u : Unit => True) (fun u : Unit => none) [xObj a tc rc ro, xArr (t 0) (a 1) 30 (xN F), xArr (t 0) (a 2) 30 (xN T), xArr (t 0) (a 3) 30 L, xArr (t 1) (a 4) 30 (xB Z), xArr (t 0) (a 6) 144 B] (fun u : Unit => [xObj a tc rc ro, xArr (t 0) (a 1) 30 (xN F), xArr (t 0) (a 2) 30 (xN T), xArr (t 0) (a 3) 30 L, xArr (t 1) (a 4) 30 (xB Z), xArr (t 0) (a 6) 144 (findB F T L Z tc rc B)]) s.heap.size) (([.ref (a 0)] : List Value).toArray) s 0 0 A) (F0 m 16 ls []) := by
          intro n16
          induction n16 using Nat.strongRecOn with
          | _ n16 ih_16 =>
            intro i B2 hm_16 hfin_16 H locs hP hD hS ls hl
            refine lv_iload_n hx hb dX0_findBounds_16 rfl (lv_at hl 0 rfl) ?_
            refine lv_aload_n hx hb dX0_findBounds_17 rfl (lv_at hl 2 rfl) ?_
            refine x0_get (v := .int (nI tc)) hx hb hts hin hown hK hP 0 rfl 0 (by decide) fl_41 rfl dX0_findBounds_18 rfl ?_
            refine lv_icmp_ge (x := nI i) (y := nI tc) (tgt := 47) hx hb dX0_findBounds_21 (by decide) (fun c_3 => ?_) (fun c_3 => ?_)
            · have c_3 := (nI_leI (a := tc) (b := i) (by omega) (by omega)).mp c_3
              have hn0_16 : n16 = 0 := by omega
              subst hn0_16
              obtain rfl : B2 = fbA mid tc tc 0 B1 := hfin_16
              refine lv_iinc (v := nI (mid + 1)) (lv' := [(1, .int (nI (mid + 1))), (2, .int (nI i)), (0, .ref (a 0))]) hx hb dX0_findBounds_47 hl (k := 1) rfl (x_inc _) (by decide) rfl (fun ls hl => ?_)
              refine lv_goto (tgt := 6) hx hb dX0_findBounds_50 (by decide) ?_
              exact ih_6 n69 (by omega) (mid + 1) (fbA mid tc tc 0 B1) (by omega) (by rw [← hfin_6]; rfl) _ _ hP hD hS _ (lv_sub hl [0, 2] rfl)
            · have c_3 : i < tc := Nat.lt_of_not_le (fun z9 => c_3 ((nI_leI (a := tc) (b := i) (by omega) (by omega)).mpr z9))
              obtain ⟨n169, rfl⟩ : ∃ z, n16 = z + 1 := ⟨n16 - 1, by omega⟩
              refine lv_aload_n hx hb dX0_findBounds_24 rfl (lv_at hl 2 rfl) ?_
              refine lv_iload_n hx hb dX0_findBounds_25 rfl (lv_at hl 0 rfl) ?_
              refine lv_iload_n hx hb dX0_findBounds_26 rfl (lv_at hl 1 rfl) ?_
              refine xr_V (b := a 0) (As := [.int (nI i), .int (nI mid)]) (rest := []) ⟨hx, hb, hml, hown, hts⟩ (c_X0_boundFrom l D t a tc rc ro B2 i mid (by omega) (by omega)) (cwV 2 hts gX0_findBounds_X0_boundFrom rfl rfl rfl hd_X0_boundFrom ⟨Nat.le_of_ble_eq_true rfl, Nat.le_of_ble_eq_true rfl⟩) hK hP (va_recv hK hP (ci := 0) (q0 := 0) rfl rfl) [0, 5] rfl rfl hl.1 rfl (Nat.le_of_ble_eq_true rfl) dX0_findBounds_27 ⟨(Nat.le_of_ble_eq_true rfl), (Nat.le_of_ble_eq_true rfl)⟩ ?_
              refine lv_ldc (v := 99999) hx hb hown kc_121 dX0_findBounds_30 ?_
              refine lv_icmp_eq (x := B2 (i * 12 + mid)) (y := 99999) (tgt := 41) hx hb dX0_findBounds_32 (by decide) (fun c_4 => ?_) (fun c_4 => ?_)
              · refine lv_iinc (v := nI (i + 1)) (lv' := [(2, .int (nI (i + 1))), (1, .int (nI mid)), (0, .ref (a 0))]) hx hb dX0_findBounds_41 hl (k := 0) rfl (x_inc _) (by decide) rfl (fun ls hl => ?_)
                refine lv_goto (tgt := 16) hx hb dX0_findBounds_44 (by decide) ?_
                exact ih_16 n169 (by omega) (i + 1) B2 (by omega) (by rw [← hfin_16]; simp [fbA, c_2, c_3, c_4]) _ _ hP hD hS _ (lv_sub hl [0, 1, 2] rfl)
              · refine lv_aload_n hx hb dX0_findBounds_35 rfl (lv_at hl 2 rfl) ?_
                refine lv_iload_n hx hb dX0_findBounds_36 rfl (lv_at hl 0 rfl) ?_
                refine lv_iload_n hx hb dX0_findBounds_37 rfl (lv_at hl 1 rfl) ?_
                refine xm_V (b := a 0) (As := [.int (nI i), .int (nI mid)]) (rest := []) (wr := [xArr (t 0) (a 1) 30 (xN F), xArr (t 0) (a 2) 30 (xN T), xArr (t 0) (a 3) 30 L, xArr (t 1) (a 4) 30 (xB Z)]) ⟨hx, hb, hml, hown, hts⟩ xTrav_T (c_X0_goOnOver l D t a tc rc ro B2 i mid _ (by omega) (by omega) (by omega)) (cwV 2 hts gX0_findBounds_X0_goOnOver rfl rfl rfl hd_X0_goOnOver ⟨Nat.le_of_ble_eq_true rfl, Nat.le_of_ble_eq_true rfl⟩) hK hP hD hS hA (fun _ _ _ => trivial) (va_recv hK hP (ci := 0) (q0 := 0) rfl rfl) [0, 5] [1, 2, 3, 4] rfl rfl (by decide) (by decide) (by decide) rfl hl.1 rfl (Nat.le_of_ble_eq_true rfl) dX0_findBounds_38 ⟨(Nat.le_of_ble_eq_true rfl), (Nat.le_of_ble_eq_true rfl)⟩ (fun u_5 H locs hu hP hD hS hz => ?_)
                have hP : va_P D vwCl ([xObj a tc rc ro, xArr (t 0) (a 1) 30 (xN F), xArr (t 0) (a 2) 30 (xN T), xArr (t 0) (a 3) 30 L, xArr (t 1) (a 4) 30 (xB Z), xArr (t 0) (a 6) 144 (goF i mid (B2 (i * 12 + mid)) tc 0 B2)]) H := hP.sub [4, 0, 1, 2, 3, 5] rfl
                have hD : va_D _ ([xObj a tc rc ro, xArr (t 0) (a 1) 30 (xN F), xArr (t 0) (a 2) 30 (xN T), xArr (t 0) (a 3) 30 L, xArr (t 1) (a 4) 30 (xB Z), xArr (t 0) (a 6) 144 (goF i mid (B2 (i * 12 + mid)) tc 0 B2)]) := hD.sub [4, 0, 1, 2, 3, 5] (by decide) rfl
                refine lv_iinc (v := nI (i + 1)) (lv' := [(2, .int (nI (i + 1))), (1, .int (nI mid)), (0, .ref (a 0))]) hx hb dX0_findBounds_41 hl (k := 0) rfl (x_inc _) (by decide) rfl (fun ls hl => ?_)
                refine lv_goto (tgt := 16) hx hb dX0_findBounds_44 (by decide) ?_
                exact ih_16 n169 (by omega) (i + 1) (goF i mid (B2 (i * 12 + mid)) tc 0 B2) (by omega) (by rw [← hfin_16]; simp [fbA, c_2, c_3, c_4]) _ _ hP hD hS _ (lv_sub hl [0, 1, 2] rfl)
        exact lp_16 tc 0 B1 (by omega) rfl _ _ hP hD hS _ (lv_sub hl [0, 1, 2] rfl)
  exact lp_6 tc 0 (startF F T L Z tc rc B) (by omega) rfl _ _ hP hD hS _ (lv_sub hl [0, 1] rfl)
set_option maxHeartbeats 4000000 in
set_option maxRecDepth 100000 in
theorem c_X0_settle (l : Launch) (D : va_G) (t : Nat → ClassId) (a : Nat → Nat) (tc rc : Nat) (ro : Int32) (F T : Nat → Nat) (L : Nat → Int32) (Z : Nat → Bool) (E B : Nat → Int32) (sz : Nat) (htc : tc ≤ 12) (hrc : rc ≤ 30) (hF : ∀ r, r < rc → F r < tc ∧ T r < tc) : Met l yX0_settle wsX0_settle ({ frames := 4, cells := 0, slots := 0, locals := 92 }) (xMu D (xTy t) (fun _ => True) [.ref (a 0)] [xObj a tc rc ro, xArr (t 0) (a 1) 30 (xN F), xArr (t 0) (a 2) 30 (xN T), xArr (t 0) (a 3) 30 L, xArr (t 1) (a 4) 30 (xB Z), xArr (t 0) (a 5) 12 E, xArr (t 0) (a 6) 144 B] sz) (xQm D (fun u : Unit => True) (fun u : Unit => none) [xObj a tc rc ro, xArr (t 0) (a 1) 30 (xN F), xArr (t 0) (a 2) 30 (xN T), xArr (t 0) (a 3) 30 L, xArr (t 1) (a 4) 30 (xB Z), xArr (t 0) (a 5) 12 E, xArr (t 0) (a 6) 144 B] (fun u : Unit => [xObj a tc rc (sRo F T L Z tc rc E), xArr (t 0) (a 1) 30 (xN F), xArr (t 0) (a 2) 30 (xN T), xArr (t 0) (a 3) 30 L, xArr (t 1) (a 4) 30 (xB Z), xArr (t 0) (a 5) 12 (sE F T L Z tc rc E), xArr (t 0) (a 6) 144 (sB F T L Z tc rc E B)]) sz) 0 0 (va_A [xObj a tc rc ro, xArr (t 0) (a 1) 30 (xN F), xArr (t 0) (a 2) 30 (xN T), xArr (t 0) (a 3) 30 L, xArr (t 1) (a 4) 30 (xB Z), xArr (t 0) (a 5) 12 E, xArr (t 0) (a 6) 144 B] sz) := by
  refine Met.ofW (cc := cX0_settle) (maxL := 1) (ret := none) (by decide) rfl ?_
  intro p e s m args below meth c s₁ hB9 hml hv
  obtain ⟨rfl, hsz, hP, hK, hD0, hXX⟩ := hv
  have hx := hB9.exec
  have hb := hB9.bytes
  have hr := hB9.returns
  have hts := atoms_spec (ws := wsX0_settle) hB9.pre
  have hown : s.vm.findClass RX0 = some m.cls := findClass_of_methodNamed hB9.named
  have hlocks := hB9.notSynchronized
  have hin : ∀ w ∈ wsX00, w ∈ wsX0_settle := fun _ h => List.mem_cons_of_mem _ (List.mem_append_right _ h)
  have fl_23 := hts (.fieldLink RX0 23 "RopeTimes" "earliest" "[I") (by decide +kernel)
  have fl_94 := hts (.fieldLink RX0 94 "RopeTimes" "rounds" "I") (by decide +kernel)
  subst hsz
  have hD := hD0.self (sz := s.heap.size)
  generalize hAe : va_A ([xObj a tc rc ro, xArr (t 0) (a 1) 30 (xN F), xArr (t 0) (a 2) 30 (xN T), xArr (t 0) (a 3) 30 L, xArr (t 1) (a 4) 30 (xB Z), xArr (t 0) (a 5) 12 E, xArr (t 0) (a 6) 144 B]) s.heap.size = A at hD ⊢
  have hA : ∀ q : Nat, s.heap.size ≤ q → A q := fun q h => by rw [← hAe]; exact Or.inr h
  have hS : va_S A s.heap s.heap [] := va_S.rf
  have hP : va_P D vwCl ([xObj a tc rc ro, xArr (t 0) (a 1) 30 (xN F), xArr (t 0) (a 2) 30 (xN T), xArr (t 0) (a 3) 30 L, xArr (t 1) (a 4) 30 (xB Z), xArr (t 0) (a 5) 12 E, xArr (t 0) (a 6) 144 B]) s.heap := hP
  have hD : va_D A ([xObj a tc rc ro, xArr (t 0) (a 1) 30 (xN F), xArr (t 0) (a 2) 30 (xN T), xArr (t 0) (a 3) 30 L, xArr (t 1) (a 4) 30 (xB Z), xArr (t 0) (a 5) 12 E, xArr (t 0) (a 6) 144 B]) := hD
  have hl := lv_entry ([.ref (a 0)]) (n := 1) (Nat.le_of_ble_eq_true rfl)
  rw [lg_entry_eq]
  generalize (lg_sl ([.ref (a 0)]) ++ List.replicate (1 - (lg_sl ([.ref (a 0)])).length) Slot.unset).toArray = ls at hl ⊢
  have hl : lv_has ls 1 [(0, .ref (a 0))] := hl
  refine lv_aload_n hx hb dX0_settle_0 rfl (lv_at hl 0 rfl) ?_
  refine lv_aload_n hx hb dX0_settle_1 rfl (lv_at hl 0 rfl) ?_
  refine lv_aload_n hx hb dX0_settle_2 rfl (lv_at hl 0 rfl) ?_
  refine x0_get (v := .ref (a 5)) hx hb hts hin hown hK hP 0 rfl 7 (by decide) fl_23 rfl dX0_settle_3 rfl ?_
  refine lv_iconst (v := (-1)) hx hb dX0_settle_6 (by decide) ?_
  refine xm_V (b := a 0) (As := [.ref (a 5), .int (-1)]) (rest := [.ref (a 0)]) (wr := [xArr (t 0) (a 6) 144 B]) ⟨hx, hb, hml, hown, hts⟩ xTrav_T (c_X0_findEarliest l D t a tc rc ro F T L Z (a 5) E (-1) _ (by omega) (by omega) hF) (cwV 2 hts gX0_settle_X0_findEarliest rfl rfl rfl hd_X0_findEarliest ⟨Nat.le_of_ble_eq_true rfl, Nat.le_of_ble_eq_true rfl⟩) hK hP hD hS hA (fun _ _ _ => trivial) (va_recv hK hP (ci := 0) (q0 := 0) rfl rfl) [0, 1, 2, 3, 4, 5] [6] rfl rfl (by decide) (by decide) (by decide) rfl hl.1 rfl (Nat.le_of_ble_eq_true rfl) dX0_settle_7 ⟨(Nat.le_of_ble_eq_true rfl), (Nat.le_of_ble_eq_true rfl)⟩ (fun u_1 H locs hu hP hD hS hz => ?_)
  have hP : va_P D vwCl ([xObj a tc rc ro, xArr (t 0) (a 1) 30 (xN F), xArr (t 0) (a 2) 30 (xN T), xArr (t 0) (a 3) 30 L, xArr (t 1) (a 4) 30 (xB Z), xArr (t 0) (a 5) 12 ((findE F T L (actC Z (-1)) tc rc E).1), xArr (t 0) (a 6) 144 B]) H := hP.sub [1, 2, 3, 4, 5, 6, 0] rfl
  have hD : va_D _ ([xObj a tc rc ro, xArr (t 0) (a 1) 30 (xN F), xArr (t 0) (a 2) 30 (xN T), xArr (t 0) (a 3) 30 L, xArr (t 1) (a 4) 30 (xB Z), xArr (t 0) (a 5) 12 ((findE F T L (actC Z (-1)) tc rc E).1), xArr (t 0) (a 6) 144 B]) := hD.sub [1, 2, 3, 4, 5, 6, 0] (by decide) rfl
  refine x0_put (x := (findE F T L (actC Z (-1)) tc rc E).2) hx hb hts hin hown hK hP hD hS 0 ([xObj a tc rc ((findE F T L (actC Z (-1)) tc rc E).2), xArr (t 0) (a 1) 30 (xN F), xArr (t 0) (a 2) 30 (xN T), xArr (t 0) (a 3) 30 L, xArr (t 1) (a 4) 30 (xB Z), xArr (t 0) (a 5) 12 ((findE F T L (actC Z (-1)) tc rc E).1), xArr (t 0) (a 6) 144 B]) rfl 6 (by decide) fl_94 rfl rfl (Nat.le_of_ble_eq_true rfl) rfl dX0_settle_10 rfl (fun H locs hP hD hS => ?_)
  refine lv_aload_n hx hb dX0_settle_13 rfl (lv_at hl 0 rfl) ?_
  refine xr_V (b := a 0) (As := []) (rest := []) ⟨hx, hb, hml, hown, hts⟩ (c_X0_isPossible l D t a tc rc ((findE F T L (actC Z (-1)) tc rc E).2)) (cwV 0 hts gX0_settle_X0_isPossible rfl rfl rfl hd_X0_isPossible ⟨Nat.le_of_ble_eq_true rfl, Nat.le_of_ble_eq_true rfl⟩) hK hP (va_recv hK hP (ci := 0) (q0 := 0) rfl rfl) [0] rfl rfl hl.1 rfl (Nat.le_of_ble_eq_true rfl) dX0_settle_14 ⟨(Nat.le_of_ble_eq_true rfl), (Nat.le_of_ble_eq_true rfl)⟩ ?_
  refine lv_if_eq (x := bI (decide (¬ (findE F T L (actC Z (-1)) tc rc E).2 = -1))) (tgt := 24) hx hb dX0_settle_17 (by decide) (fun c_2 => ?_) (fun c_2 => ?_)
  · have c_2 := Classical.not_not.mp (of_decide_eq_false (bI_0 c_2))
    have c_2 : sRo F T L Z tc rc E = -1 := c_2
    have e9 : B = sB F T L Z tc rc E B := by simp [sB, c_2]
    have hP9 : va_P D vwCl ([xObj a tc rc (sRo F T L Z tc rc E), xArr (t 0) (a 1) 30 (xN F), xArr (t 0) (a 2) 30 (xN T), xArr (t 0) (a 3) 30 L, xArr (t 1) (a 4) 30 (xB Z), xArr (t 0) (a 5) 12 (sE F T L Z tc rc E), xArr (t 0) (a 6) 144 (sB F T L Z tc rc E B)]) H := by rw [← e9]; exact hP
    have hD9 : va_D A ([xObj a tc rc (sRo F T L Z tc rc E), xArr (t 0) (a 1) 30 (xN F), xArr (t 0) (a 2) 30 (xN T), xArr (t 0) (a 3) 30 L, xArr (t 1) (a 4) 30 (xB Z), xArr (t 0) (a 5) 12 (sE F T L Z tc rc E), xArr (t 0) (a 6) 144 (sB F T L Z tc rc E B)]) := by rw [← e9]; exact hD
    subst hAe
    obtain ⟨hq9, hf9⟩ := xm_end (S := Unit) (pu := (fun u : Unit => True)) (r := (fun u : Unit => none)) (wc := [xObj a tc rc ro, xArr (t 0) (a 1) 30 (xN F), xArr (t 0) (a 2) 30 (xN T), xArr (t 0) (a 3) 30 L, xArr (t 1) (a 4) 30 (xB Z), xArr (t 0) (a 5) 12 E, xArr (t 0) (a 6) 144 B]) (w1 := (fun u : Unit => [xObj a tc rc (sRo F T L Z tc rc E), xArr (t 0) (a 1) 30 (xN F), xArr (t 0) (a 2) 30 (xN T), xArr (t 0) (a 3) 30 L, xArr (t 1) (a 4) 30 (xB Z), xArr (t 0) (a 5) 12 (sE F T L Z tc rc E), xArr (t 0) (a 6) 144 (sB F T L Z tc rc E B)])) (o := none) (args := ([.ref (a 0)] : List Value).toArray) () rfl trivial rfl hP9 hD9 hS
    exact W.vret hx hb hr hq9 hf9 dX0_settle_24 hlocks
  · have c_2 := of_decide_eq_true (bI_n0 c_2)
    have c_2 : ¬ sRo F T L Z tc rc E = -1 := c_2
    refine lv_aload_n hx hb dX0_settle_20 rfl (lv_at hl 0 rfl) ?_
    refine xm_V (b := a 0) (As := []) (rest := []) (wr := [xArr (t 0) (a 5) 12 ((findE F T L (actC Z (-1)) tc rc E).1)]) ⟨hx, hb, hml, hown, hts⟩ xTrav_T (c_X0_findBounds l D t a tc rc ((findE F T L (actC Z (-1)) tc rc E).2) F T L Z B _ (by omega) (by omega) hF) (cwV 0 hts gX0_settle_X0_findBounds rfl rfl rfl hd_X0_findBounds ⟨Nat.le_of_ble_eq_true rfl, Nat.le_of_ble_eq_true rfl⟩) hK hP hD hS hA (fun _ _ _ => trivial) (va_recv hK hP (ci := 0) (q0 := 0) rfl rfl) [0, 1, 2, 3, 4, 6] [5] rfl rfl (by decide) (by decide) (by decide) rfl hl.1 rfl (Nat.le_of_ble_eq_true rfl) dX0_settle_21 ⟨(Nat.le_of_ble_eq_true rfl), (Nat.le_of_ble_eq_true rfl)⟩ (fun u_3 H locs hu hP hD hS hz => ?_)
    have hP : va_P D vwCl ([xObj a tc rc ((findE F T L (actC Z (-1)) tc rc E).2), xArr (t 0) (a 1) 30 (xN F), xArr (t 0) (a 2) 30 (xN T), xArr (t 0) (a 3) 30 L, xArr (t 1) (a 4) 30 (xB Z), xArr (t 0) (a 5) 12 ((findE F T L (actC Z (-1)) tc rc E).1), xArr (t 0) (a 6) 144 (findB F T L Z tc rc B)]) H := hP.sub [1, 2, 3, 4, 5, 0, 6] rfl
    have hD : va_D _ ([xObj a tc rc ((findE F T L (actC Z (-1)) tc rc E).2), xArr (t 0) (a 1) 30 (xN F), xArr (t 0) (a 2) 30 (xN T), xArr (t 0) (a 3) 30 L, xArr (t 1) (a 4) 30 (xB Z), xArr (t 0) (a 5) 12 ((findE F T L (actC Z (-1)) tc rc E).1), xArr (t 0) (a 6) 144 (findB F T L Z tc rc B)]) := hD.sub [1, 2, 3, 4, 5, 0, 6] (by decide) rfl
    have e9 : findB F T L Z tc rc B = sB F T L Z tc rc E B := by simp [sB, c_2]
    have hP9 : va_P D vwCl ([xObj a tc rc (sRo F T L Z tc rc E), xArr (t 0) (a 1) 30 (xN F), xArr (t 0) (a 2) 30 (xN T), xArr (t 0) (a 3) 30 L, xArr (t 1) (a 4) 30 (xB Z), xArr (t 0) (a 5) 12 (sE F T L Z tc rc E), xArr (t 0) (a 6) 144 (sB F T L Z tc rc E B)]) H := by rw [← e9]; exact hP
    have hD9 : va_D A ([xObj a tc rc (sRo F T L Z tc rc E), xArr (t 0) (a 1) 30 (xN F), xArr (t 0) (a 2) 30 (xN T), xArr (t 0) (a 3) 30 L, xArr (t 1) (a 4) 30 (xB Z), xArr (t 0) (a 5) 12 (sE F T L Z tc rc E), xArr (t 0) (a 6) 144 (sB F T L Z tc rc E B)]) := by rw [← e9]; exact hD
    subst hAe
    obtain ⟨hq9, hf9⟩ := xm_end (S := Unit) (pu := (fun u : Unit => True)) (r := (fun u : Unit => none)) (wc := [xObj a tc rc ro, xArr (t 0) (a 1) 30 (xN F), xArr (t 0) (a 2) 30 (xN T), xArr (t 0) (a 3) 30 L, xArr (t 1) (a 4) 30 (xB Z), xArr (t 0) (a 5) 12 E, xArr (t 0) (a 6) 144 B]) (w1 := (fun u : Unit => [xObj a tc rc (sRo F T L Z tc rc E), xArr (t 0) (a 1) 30 (xN F), xArr (t 0) (a 2) 30 (xN T), xArr (t 0) (a 3) 30 L, xArr (t 1) (a 4) 30 (xB Z), xArr (t 0) (a 5) 12 (sE F T L Z tc rc E), xArr (t 0) (a 6) 144 (sB F T L Z tc rc E B)])) (o := none) (args := ([.ref (a 0)] : List Value).toArray) () rfl trivial rfl hP9 hD9 hS
    exact W.vret hx hb hr hq9 hf9 dX0_settle_24 hlocks
set_option maxHeartbeats 4000000 in
set_option maxRecDepth 100000 in
theorem c_X0_goOneRope (l : Launch) (D : va_G) (t : Nat → ClassId) (a : Nat → Nat) (tc rc : Nat) (ro : Int32) (F T : Nat → Nat) (L : Nat → Int32) (Z : Nat → Bool) (R N : Nat → Int32) (sz : Nat) (htc : tc ≤ 12) (hrc : rc ≤ 30) (hF : ∀ r, r < rc → F r < tc ∧ T r < tc) : Met l yX0_goOneRope wsX0_goOneRope ({ frames := 1, cells := 0, slots := 0, locals := 21 }) (xMu D (xTy t) (fun _ => True) [.ref (a 0)] [xObj a tc rc ro, xArr (t 0) (a 1) 30 (xN F), xArr (t 0) (a 2) 30 (xN T), xArr (t 0) (a 3) 30 L, xArr (t 1) (a 4) 30 (xB Z), xArr (t 0) (a 8) 12 R, xArr (t 0) (a 9) 12 N] sz) (xQm D (fun u : Unit => True) (fun u : Unit => none) [xObj a tc rc ro, xArr (t 0) (a 1) 30 (xN F), xArr (t 0) (a 2) 30 (xN T), xArr (t 0) (a 3) 30 L, xArr (t 1) (a 4) 30 (xB Z), xArr (t 0) (a 8) 12 R, xArr (t 0) (a 9) 12 N] (fun u : Unit => [xObj a tc rc ro, xArr (t 0) (a 1) 30 (xN F), xArr (t 0) (a 2) 30 (xN T), xArr (t 0) (a 3) 30 L, xArr (t 1) (a 4) 30 (xB Z), xArr (t 0) (a 8) 12 ((oneR F T L Z tc rc (R, N)).1), xArr (t 0) (a 9) 12 ((oneR F T L Z tc rc (R, N)).2)]) sz) 0 0 (va_A [xObj a tc rc ro, xArr (t 0) (a 1) 30 (xN F), xArr (t 0) (a 2) 30 (xN T), xArr (t 0) (a 3) 30 L, xArr (t 1) (a 4) 30 (xB Z), xArr (t 0) (a 8) 12 R, xArr (t 0) (a 9) 12 N] sz) := by
  refine Met.ofW (cc := cX0_goOneRope) (maxL := 3) (ret := none) (by decide) rfl ?_
  intro p e s m args below meth c s₁ hB9 hml hv
  obtain ⟨rfl, hsz, hP, hK, hD0, hXX⟩ := hv
  have hx := hB9.exec
  have hb := hB9.bytes
  have hr := hB9.returns
  have hts := atoms_spec (ws := wsX0_goOneRope) hB9.pre
  have hown : s.vm.findClass RX0 = some m.cls := findClass_of_methodNamed hB9.named
  have hlocks := hB9.notSynchronized
  have hin : ∀ w ∈ wsX00, w ∈ wsX0_goOneRope := fun _ h => List.mem_cons_of_mem _ (List.mem_append_right _ h)
  have fl_41 := hts (.fieldLink RX0 41 "RopeTimes" "turnCount" "I") (by decide +kernel)
  have fl_35 := hts (.fieldLink RX0 35 "RopeTimes" "nextReach" "[I") (by decide +kernel)
  have kc_121 := hts (.constant RX0 121 (99999)) (by decide +kernel)
  have fl_63 := hts (.fieldLink RX0 63 "RopeTimes" "ropeCount" "I") (by decide +kernel)
  have fl_19 := hts (.fieldLink RX0 19 "RopeTimes" "tied" "[Z") (by decide +kernel)
  have fl_32 := hts (.fieldLink RX0 32 "RopeTimes" "reach" "[I") (by decide +kernel)
  have fl_9 := hts (.fieldLink RX0 9 "RopeTimes" "from" "[I") (by decide +kernel)
  have fl_16 := hts (.fieldLink RX0 16 "RopeTimes" "length" "[I") (by decide +kernel)
  have fl_13 := hts (.fieldLink RX0 13 "RopeTimes" "to" "[I") (by decide +kernel)
  have ml_122 := hts (.methodLink RX0 122 Lib.Math.min.name) (by decide +kernel)
  have ms_min := hts (.static Lib.Math.min.name) (by decide +kernel)
  have mc_min := hts (.code Lib.Math.min.name Lib.Math.min.code 2 (some .int)) (by decide +kernel)
  have mi_Math := hts (.initialized "java/lang/Math") (by decide +kernel)
  subst hsz
  have hD := hD0.self (sz := s.heap.size)
  generalize hAe : va_A ([xObj a tc rc ro, xArr (t 0) (a 1) 30 (xN F), xArr (t 0) (a 2) 30 (xN T), xArr (t 0) (a 3) 30 L, xArr (t 1) (a 4) 30 (xB Z), xArr (t 0) (a 8) 12 R, xArr (t 0) (a 9) 12 N]) s.heap.size = A at hD ⊢
  have hA : ∀ q : Nat, s.heap.size ≤ q → A q := fun q h => by rw [← hAe]; exact Or.inr h
  have hS : va_S A s.heap s.heap [] := va_S.rf
  have hP : va_P D vwCl ([xObj a tc rc ro, xArr (t 0) (a 1) 30 (xN F), xArr (t 0) (a 2) 30 (xN T), xArr (t 0) (a 3) 30 L, xArr (t 1) (a 4) 30 (xB Z), xArr (t 0) (a 8) 12 R, xArr (t 0) (a 9) 12 N]) s.heap := hP
  have hD : va_D A ([xObj a tc rc ro, xArr (t 0) (a 1) 30 (xN F), xArr (t 0) (a 2) 30 (xN T), xArr (t 0) (a 3) 30 L, xArr (t 1) (a 4) 30 (xB Z), xArr (t 0) (a 8) 12 R, xArr (t 0) (a 9) 12 N]) := hD
  have hl := lv_entry ([.ref (a 0)]) (n := 3) (Nat.le_of_ble_eq_true rfl)
  rw [lg_entry_eq]
  generalize (lg_sl ([.ref (a 0)]) ++ List.replicate (3 - (lg_sl ([.ref (a 0)])).length) Slot.unset).toArray = ls at hl ⊢
  have hl : lv_has ls 3 [(0, .ref (a 0))] := hl
  refine lv_iconst (v := 0) hx hb dX0_goOneRope_0 (by decide) ?_
  refine lv_istore_n (lv' := [(1, .int 0), (0, .ref (a 0))]) hx hb dX0_goOneRope_1 rfl hl (by decide) rfl (fun ls hl => ?_)
  have lp_2 : ∀ (n2 : Nat) (i : Nat) (N1 : Nat → Int32), i + n2 = tc → fillF 99999 n2 i N1 = fillF 99999 tc 0 N → ∀ (H : Heap) (locs : List Loc), va_P D vwCl ([xObj a tc rc ro, xArr (t 0) (a 1) 30 (xN F), xArr (t 0) (a 2) 30 (xN T), xArr (t 0) (a 3) 30 L, xArr (t 1) (a 4) 30 (xB Z), xArr (t 0) (a 8) 12 R, xArr (t 0) (a 9) 12 N1]) H → va_D A ([xObj a tc rc ro, xArr (t 0) (a 1) 30 (xN F), xArr (t 0) (a 2) 30 (xN T), xArr (t 0) (a 3) 30 L, xArr (t 1) (a 4) 30 (xB Z), xArr (t 0) (a 8) 12 R, xArr (t 0) (a 9) 12 N1]) → va_S A s.heap H locs → ∀ ls : Array Slot, lv_has ls 3 [(1, .int (nI i)), (0, .ref (a 0))] → W p l e (headSpec wsX0_goOneRope ({ frames := 1, cells := 0, slots := 0, locals := 21 } : Jvm.Room)).room s m (([.ref (a 0)] : List Value).toArray) below meth c H locs 0 0 (MQ below (xQm D (fun u : Unit => True) (fun u : Unit => none) [xObj a tc rc ro, xArr (t 0) (a 1) 30 (xN F), xArr (t 0) (a 2) 30 (xN T), xArr (t 0) (a 3) 30 L, xArr (t 1) (a 4) 30 (xB Z), xArr (t 0) (a 8) 12 R, xArr (t 0) (a 9) 12 N] (fun u : Unit => [xObj a tc rc ro, xArr (t 0) (a 1) 30 (xN F), xArr (t 0) (a 2) 30 (xN T), xArr (t 0) (a 3) 30 L, xArr (t 1) (a 4) 30 (xB Z), xArr (t 0) (a 8) 12 ((oneR F T L Z tc rc (R, N)).1), xArr (t 0) (a 9) 12 ((oneR F T L Z tc rc (R, N)).2)]) s.heap.size) (([.ref (a 0)] : List Value).toArray) s 0 0 A) (F0 m 2 ls []) := by
    intro n2
    induction n2 using Nat.strongRecOn with
    | _ n2 ih_2 =>
      intro i N1 hm_2 hfin_2 H locs hP hD hS ls hl
      refine lv_iload_n hx hb dX0_goOneRope_2 rfl (lv_at hl 0 rfl) ?_
      refine lv_aload_n hx hb dX0_goOneRope_3 rfl (lv_at hl 1 rfl) ?_
      refine x0_get (v := .int (nI tc)) hx hb hts hin hown hK hP 0 rfl 0 (by decide) fl_41 rfl dX0_goOneRope_4 rfl ?_
      refine lv_icmp_ge (x := nI i) (y := nI tc) (tgt := 24) hx hb dX0_goOneRope_7 (by decide) (fun c_1 => ?_) (fun c_1 => ?_)
      · have c_1 := (nI_leI (a := tc) (b := i) (by omega) (by omega)).mp c_1
        have hn0_2 : n2 = 0 := by omega
        subst hn0_2
        obtain rfl : N1 = fillF 99999 tc 0 N := hfin_2
        refine lv_iconst (v := 0) hx hb dX0_goOneRope_24 (by decide) ?_
        refine lv_istore_n (lv' := [(1, .int 0), (0, .ref (a 0))]) hx hb dX0_goOneRope_25 rfl hl (by decide) rfl (fun ls hl => ?_)
        have lp_26 : ∀ (n26 : Nat) (r : Nat) (N2 : Nat → Int32), r + n26 = rc → goW F T L Z R n26 r N2 = goW F T L Z R rc 0 (fillF 99999 tc 0 N) → ∀ (H : Heap) (locs : List Loc), va_P D vwCl ([xObj a tc rc ro, xArr (t 0) (a 1) 30 (xN F), xArr (t 0) (a 2) 30 (xN T), xArr (t 0) (a 3) 30 L, xArr (t 1) (a 4) 30 (xB Z), xArr (t 0) (a 8) 12 R, xArr (t 0) (a 9) 12 N2]) H → va_D A ([xObj a tc rc ro, xArr (t 0) (a 1) 30 (xN F), xArr (t 0) (a 2) 30 (xN T), xArr (t 0) (a 3) 30 L, xArr (t 1) (a 4) 30 (xB Z), xArr (t 0) (a 8) 12 R, xArr (t 0) (a 9) 12 N2]) → va_S A s.heap H locs → ∀ ls : Array Slot, lv_has ls 3 [(1, .int (nI r)), (0, .ref (a 0))] → W p l e (headSpec wsX0_goOneRope ({ frames := 1, cells := 0, slots := 0, locals := 21 } : Jvm.Room)).room s m (([.ref (a 0)] : List Value).toArray) below meth c H locs 0 0 (MQ below (xQm D (fun u : Unit => True) (fun u : Unit => none) [xObj a tc rc ro, xArr (t 0) (a 1) 30 (xN F), xArr (t 0) (a 2) 30 (xN T), xArr (t 0) (a 3) 30 L, xArr (t 1) (a 4) 30 (xB Z), xArr (t 0) (a 8) 12 R, xArr (t 0) (a 9) 12 N] (fun u : Unit => [xObj a tc rc ro, xArr (t 0) (a 1) 30 (xN F), xArr (t 0) (a 2) 30 (xN T), xArr (t 0) (a 3) 30 L, xArr (t 1) (a 4) 30 (xB Z), xArr (t 0) (a 8) 12 ((oneR F T L Z tc rc (R, N)).1), xArr (t 0) (a 9) 12 ((oneR F T L Z tc rc (R, N)).2)]) s.heap.size) (([.ref (a 0)] : List Value).toArray) s 0 0 A) (F0 m 26 ls []) := by
          intro n26
          induction n26 using Nat.strongRecOn with
          | _ n26 ih_26 =>
            intro r N2 hm_26 hfin_26 H locs hP hD hS ls hl
            refine lv_iload_n hx hb dX0_goOneRope_26 rfl (lv_at hl 0 rfl) ?_
            refine lv_aload_n hx hb dX0_goOneRope_27 rfl (lv_at hl 1 rfl) ?_
            refine x0_get (v := .int (nI rc)) hx hb hts hin hown hK hP 0 rfl 1 (by decide) fl_63 rfl dX0_goOneRope_28 rfl ?_
            refine lv_icmp_ge (x := nI r) (y := nI rc) (tgt := 110) hx hb dX0_goOneRope_31 (by decide) (fun c_2 => ?_) (fun c_2 => ?_)
            · have c_2 := (nI_leI (a := rc) (b := r) (by omega) (by omega)).mp c_2
              have hn0_26 : n26 = 0 := by omega
              subst hn0_26
              obtain rfl : N2 = goW F T L Z R rc 0 (fillF 99999 tc 0 N) := hfin_26
              refine lv_iconst (v := 0) hx hb dX0_goOneRope_110 (by decide) ?_
              refine lv_istore_n (lv' := [(1, .int 0), (0, .ref (a 0))]) hx hb dX0_goOneRope_111 rfl hl (by decide) rfl (fun ls hl => ?_)
              have lp_112 : ∀ (n112 : Nat) (i : Nat) (R1 : Nat → Int32), i + n112 = tc → copyF (goW F T L Z R rc 0 (fillF 99999 tc 0 N)) n112 i R1 = copyF (goW F T L Z R rc 0 (fillF 99999 tc 0 N)) tc 0 R → ∀ (H : Heap) (locs : List Loc), va_P D vwCl ([xObj a tc rc ro, xArr (t 0) (a 1) 30 (xN F), xArr (t 0) (a 2) 30 (xN T), xArr (t 0) (a 3) 30 L, xArr (t 1) (a 4) 30 (xB Z), xArr (t 0) (a 8) 12 R1, xArr (t 0) (a 9) 12 (goW F T L Z R rc 0 (fillF 99999 tc 0 N))]) H → va_D A ([xObj a tc rc ro, xArr (t 0) (a 1) 30 (xN F), xArr (t 0) (a 2) 30 (xN T), xArr (t 0) (a 3) 30 L, xArr (t 1) (a 4) 30 (xB Z), xArr (t 0) (a 8) 12 R1, xArr (t 0) (a 9) 12 (goW F T L Z R rc 0 (fillF 99999 tc 0 N))]) → va_S A s.heap H locs → ∀ ls : Array Slot, lv_has ls 3 [(1, .int (nI i)), (0, .ref (a 0))] → W p l e (headSpec wsX0_goOneRope ({ frames := 1, cells := 0, slots := 0, locals := 21 } : Jvm.Room)).room s m (([.ref (a 0)] : List Value).toArray) below meth c H locs 0 0 (MQ below (xQm D (fun u : Unit => True) (fun u : Unit => none) [xObj a tc rc ro, xArr (t 0) (a 1) 30 (xN F), xArr (t 0) (a 2) 30 (xN T), xArr (t 0) (a 3) 30 L, xArr (t 1) (a 4) 30 (xB Z), xArr (t 0) (a 8) 12 R, xArr (t 0) (a 9) 12 N] (fun u : Unit => [xObj a tc rc ro, xArr (t 0) (a 1) 30 (xN F), xArr (t 0) (a 2) 30 (xN T), xArr (t 0) (a 3) 30 L, xArr (t 1) (a 4) 30 (xB Z), xArr (t 0) (a 8) 12 ((oneR F T L Z tc rc (R, N)).1), xArr (t 0) (a 9) 12 ((oneR F T L Z tc rc (R, N)).2)]) s.heap.size) (([.ref (a 0)] : List Value).toArray) s 0 0 A) (F0 m 112 ls []) := by
                intro n112
                induction n112 using Nat.strongRecOn with
                | _ n112 ih_112 =>
                  intro i R1 hm_112 hfin_112 H locs hP hD hS ls hl
                  refine lv_iload_n hx hb dX0_goOneRope_112 rfl (lv_at hl 0 rfl) ?_
                  refine lv_aload_n hx hb dX0_goOneRope_113 rfl (lv_at hl 1 rfl) ?_
                  refine x0_get (v := .int (nI tc)) hx hb hts hin hown hK hP 0 rfl 0 (by decide) fl_41 rfl dX0_goOneRope_114 rfl ?_
                  refine lv_icmp_ge (x := nI i) (y := nI tc) (tgt := 138) hx hb dX0_goOneRope_117 (by decide) (fun c_3 => ?_) (fun c_3 => ?_)
                  · have c_3 := (nI_leI (a := tc) (b := i) (by omega) (by omega)).mp c_3
                    have hn0_112 : n112 = 0 := by omega
                    subst hn0_112
                    obtain rfl : R1 = copyF (goW F T L Z R rc 0 (fillF 99999 tc 0 N)) tc 0 R := hfin_112
                    subst hAe
                    obtain ⟨hq9, hf9⟩ := xm_end (S := Unit) (pu := (fun u : Unit => True)) (r := (fun u : Unit => none)) (wc := [xObj a tc rc ro, xArr (t 0) (a 1) 30 (xN F), xArr (t 0) (a 2) 30 (xN T), xArr (t 0) (a 3) 30 L, xArr (t 1) (a 4) 30 (xB Z), xArr (t 0) (a 8) 12 R, xArr (t 0) (a 9) 12 N]) (w1 := (fun u : Unit => [xObj a tc rc ro, xArr (t 0) (a 1) 30 (xN F), xArr (t 0) (a 2) 30 (xN T), xArr (t 0) (a 3) 30 L, xArr (t 1) (a 4) 30 (xB Z), xArr (t 0) (a 8) 12 ((oneR F T L Z tc rc (R, N)).1), xArr (t 0) (a 9) 12 ((oneR F T L Z tc rc (R, N)).2)])) (o := none) (args := ([.ref (a 0)] : List Value).toArray) () rfl trivial rfl hP hD hS
                    exact W.vret hx hb hr hq9 hf9 dX0_goOneRope_138 hlocks
                  · have c_3 : i < tc := Nat.lt_of_not_le (fun z9 => c_3 ((nI_leI (a := tc) (b := i) (by omega) (by omega)).mpr z9))
                    obtain ⟨n1129, rfl⟩ : ∃ z, n112 = z + 1 := ⟨n112 - 1, by omega⟩
                    refine lv_aload_n hx hb dX0_goOneRope_120 rfl (lv_at hl 1 rfl) ?_
                    refine x0_get (v := .ref (a 8)) hx hb hts hin hown hK hP 0 rfl 10 (by decide) fl_32 rfl dX0_goOneRope_121 rfl ?_
                    refine lv_iload_n hx hb dX0_goOneRope_124 rfl (lv_at hl 0 rfl) ?_
                    refine lv_aload_n hx hb dX0_goOneRope_125 rfl (lv_at hl 1 rfl) ?_
                    refine x0_get (v := .ref (a 9)) hx hb hts hin hown hK hP 0 rfl 11 (by decide) fl_35 rfl dX0_goOneRope_126 rfl ?_
                    refine lv_iload_n hx hb dX0_goOneRope_129 rfl (lv_at hl 0 rfl) ?_
                    refine x_iald (f := goW F T L Z R rc 0 (fillF 99999 tc 0 N)) hx hb hK hP 6 0 rfl rfl (k := i) (by omega) (Nat.le_of_ble_eq_true rfl) dX0_goOneRope_130 ?_
                    refine x_iast (x := (goW F T L Z R rc 0 (fillF 99999 tc 0 N)) i) (f := R1) hx hb hK hP hD hS 5 0 ([xObj a tc rc ro, xArr (t 0) (a 1) 30 (xN F), xArr (t 0) (a 2) 30 (xN T), xArr (t 0) (a 3) 30 L, xArr (t 1) (a 4) 30 (xB Z), xArr (t 0) (a 8) 12 (upd R1 i ((goW F T L Z R rc 0 (fillF 99999 tc 0 N)) i)), xArr (t 0) (a 9) 12 (goW F T L Z R rc 0 (fillF 99999 tc 0 N))]) rfl rfl (k := i) rfl (by omega) (Nat.le_of_ble_eq_true rfl) dX0_goOneRope_131 (fun H locs hP hD hS => ?_)
                    refine lv_iinc (v := nI (i + 1)) (lv' := [(1, .int (nI (i + 1))), (0, .ref (a 0))]) hx hb dX0_goOneRope_132 hl (k := 0) rfl (x_inc _) (by decide) rfl (fun ls hl => ?_)
                    refine lv_goto (tgt := 112) hx hb dX0_goOneRope_135 (by decide) ?_
                    exact ih_112 n1129 (by omega) (i + 1) (upd R1 i ((goW F T L Z R rc 0 (fillF 99999 tc 0 N)) i)) (by omega) (by rw [← hfin_112]; rfl) _ _ hP hD hS _ (lv_sub hl [0, 1] rfl)
              exact lp_112 tc 0 R (by omega) rfl _ _ hP hD hS _ (lv_sub hl [0, 1] rfl)
            · have c_2 : r < rc := Nat.lt_of_not_le (fun z9 => c_2 ((nI_leI (a := rc) (b := r) (by omega) (by omega)).mpr z9))
              obtain ⟨n269, rfl⟩ : ∃ z, n26 = z + 1 := ⟨n26 - 1, by omega⟩
              refine lv_aload_n hx hb dX0_goOneRope_34 rfl (lv_at hl 1 rfl) ?_
              refine x0_get (v := .ref (a 4)) hx hb hts hin hown hK hP 0 rfl 5 (by decide) fl_19 rfl dX0_goOneRope_35 rfl ?_
              refine lv_iload_n hx hb dX0_goOneRope_38 rfl (lv_at hl 0 rfl) ?_
              refine x_zald (f := xB Z) hx hb hK hP 4 1 rfl rfl (k := r) (by omega) (Nat.le_of_ble_eq_true rfl) dX0_goOneRope_39 ?_
              refine x_top (w := bI (Z r)) rfl ?_
              refine lv_if_eq (x := bI (Z r)) (tgt := 104) hx hb dX0_goOneRope_40 (by decide) (fun c_4 => ?_) (fun c_4 => ?_)
              · have c_4 := bI_0 c_4
                refine lv_iinc (v := nI (r + 1)) (lv' := [(1, .int (nI (r + 1))), (0, .ref (a 0))]) hx hb dX0_goOneRope_104 hl (k := 0) rfl (x_inc _) (by decide) rfl (fun ls hl => ?_)
                refine lv_goto (tgt := 26) hx hb dX0_goOneRope_107 (by decide) ?_
                exact ih_26 n269 (by omega) (r + 1) N2 (by omega) (by rw [← hfin_26]; simp [goW, c_1, Nat.not_lt.mpr c_1, c_2, c_4]) _ _ hP hD hS _ (lv_sub hl [0, 1] rfl)
              · have c_4 := bI_n0 c_4
                refine lv_aload_n hx hb dX0_goOneRope_43 rfl (lv_at hl 1 rfl) ?_
                refine x0_get (v := .ref (a 8)) hx hb hts hin hown hK hP 0 rfl 10 (by decide) fl_32 rfl dX0_goOneRope_44 rfl ?_
                refine lv_aload_n hx hb dX0_goOneRope_47 rfl (lv_at hl 1 rfl) ?_
                refine x0_get (v := .ref (a 1)) hx hb hts hin hown hK hP 0 rfl 2 (by decide) fl_9 rfl dX0_goOneRope_48 rfl ?_
                refine lv_iload_n hx hb dX0_goOneRope_51 rfl (lv_at hl 0 rfl) ?_
                refine x_iald (f := xN F) hx hb hK hP 1 0 rfl rfl (k := r) (by omega) (Nat.le_of_ble_eq_true rfl) dX0_goOneRope_52 ?_
                refine x_top (w := nI (F r)) rfl ?_
                have hf_5 := hF r (by omega)
                refine x_iald (f := R) hx hb hK hP 5 0 rfl rfl (k := F r) (by omega) (Nat.le_of_ble_eq_true rfl) dX0_goOneRope_53 ?_
                refine lv_ldc (v := 99999) hx hb hown kc_121 dX0_goOneRope_54 ?_
                refine lv_icmp_eq (x := R (F r)) (y := 99999) (tgt := 104) hx hb dX0_goOneRope_56 (by decide) (fun c_6 => ?_) (fun c_6 => ?_)
                · refine lv_iinc (v := nI (r + 1)) (lv' := [(1, .int (nI (r + 1))), (0, .ref (a 0))]) hx hb dX0_goOneRope_104 hl (k := 0) rfl (x_inc _) (by decide) rfl (fun ls hl => ?_)
                  refine lv_goto (tgt := 26) hx hb dX0_goOneRope_107 (by decide) ?_
                  exact ih_26 n269 (by omega) (r + 1) N2 (by omega) (by rw [← hfin_26]; simp [goW, c_1, Nat.not_lt.mpr c_1, c_2, c_4, c_6]) _ _ hP hD hS _ (lv_sub hl [0, 1] rfl)
                · refine lv_aload_n hx hb dX0_goOneRope_59 rfl (lv_at hl 1 rfl) ?_
                  refine x0_get (v := .ref (a 8)) hx hb hts hin hown hK hP 0 rfl 10 (by decide) fl_32 rfl dX0_goOneRope_60 rfl ?_
                  refine lv_aload_n hx hb dX0_goOneRope_63 rfl (lv_at hl 1 rfl) ?_
                  refine x0_get (v := .ref (a 1)) hx hb hts hin hown hK hP 0 rfl 2 (by decide) fl_9 rfl dX0_goOneRope_64 rfl ?_
                  refine lv_iload_n hx hb dX0_goOneRope_67 rfl (lv_at hl 0 rfl) ?_
                  refine x_iald (f := xN F) hx hb hK hP 1 0 rfl rfl (k := r) (by omega) (Nat.le_of_ble_eq_true rfl) dX0_goOneRope_68 ?_
                  refine x_top (w := nI (F r)) rfl ?_
                  have hf_7 := hF r (by omega)
                  refine x_iald (f := R) hx hb hK hP 5 0 rfl rfl (k := F r) (by omega) (Nat.le_of_ble_eq_true rfl) dX0_goOneRope_69 ?_
                  refine lv_aload_n hx hb dX0_goOneRope_70 rfl (lv_at hl 1 rfl) ?_
                  refine x0_get (v := .ref (a 3)) hx hb hts hin hown hK hP 0 rfl 4 (by decide) fl_16 rfl dX0_goOneRope_71 rfl ?_
                  refine lv_iload_n hx hb dX0_goOneRope_74 rfl (lv_at hl 0 rfl) ?_
                  refine x_iald (f := L) hx hb hK hP 3 0 rfl rfl (k := r) (by omega) (Nat.le_of_ble_eq_true rfl) dX0_goOneRope_75 ?_
                  refine lv_iadd (x := R (F r)) (y := L r) hx hb dX0_goOneRope_76 ?_
                  refine lv_istore_n (lv' := [(2, .int ((R (F r)) + (L r))), (1, .int (nI r)), (0, .ref (a 0))]) hx hb dX0_goOneRope_77 rfl hl (by decide) rfl (fun ls hl => ?_)
                  refine lv_aload_n hx hb dX0_goOneRope_78 rfl (lv_at hl 2 rfl) ?_
                  refine x0_get (v := .ref (a 9)) hx hb hts hin hown hK hP 0 rfl 11 (by decide) fl_35 rfl dX0_goOneRope_79 rfl ?_
                  refine lv_aload_n hx hb dX0_goOneRope_82 rfl (lv_at hl 2 rfl) ?_
                  refine x0_get (v := .ref (a 2)) hx hb hts hin hown hK hP 0 rfl 3 (by decide) fl_13 rfl dX0_goOneRope_83 rfl ?_
                  refine lv_iload_n hx hb dX0_goOneRope_86 rfl (lv_at hl 1 rfl) ?_
                  refine x_iald (f := xN T) hx hb hK hP 2 0 rfl rfl (k := r) (by omega) (Nat.le_of_ble_eq_true rfl) dX0_goOneRope_87 ?_
                  refine x_top (w := nI (T r)) rfl ?_
                  have hf_8 := hF r (by omega)
                  refine lv_aload_n hx hb dX0_goOneRope_88 rfl (lv_at hl 2 rfl) ?_
                  refine x0_get (v := .ref (a 9)) hx hb hts hin hown hK hP 0 rfl 11 (by decide) fl_35 rfl dX0_goOneRope_89 rfl ?_
                  refine lv_aload_n hx hb dX0_goOneRope_92 rfl (lv_at hl 2 rfl) ?_
                  refine x0_get (v := .ref (a 2)) hx hb hts hin hown hK hP 0 rfl 3 (by decide) fl_13 rfl dX0_goOneRope_93 rfl ?_
                  refine lv_iload_n hx hb dX0_goOneRope_96 rfl (lv_at hl 1 rfl) ?_
                  refine x_iald (f := xN T) hx hb hK hP 2 0 rfl rfl (k := r) (by omega) (Nat.le_of_ble_eq_true rfl) dX0_goOneRope_97 ?_
                  refine x_top (w := nI (T r)) rfl ?_
                  have hf_9 := hF r (by omega)
                  refine x_iald (f := N2) hx hb hK hP 6 0 rfl rfl (k := T r) (by omega) (Nat.le_of_ble_eq_true rfl) dX0_goOneRope_98 ?_
                  refine lv_iload_n hx hb dX0_goOneRope_99 rfl (lv_at hl 0 rfl) ?_
                  refine va_mmin (x := N2 (T r)) (y := (R (F r)) + (L r)) hx hb (hml.trans hl.1.symm) hown ml_122 ms_min mi_Math mc_min (Nat.le_of_ble_eq_true rfl) (Nat.le_of_ble_eq_true rfl) (Nat.le_of_ble_eq_true rfl) (Nat.le_of_ble_eq_true rfl) dX0_goOneRope_100 ?_
                  refine x_top (w := mnI (N2 (T r)) ((R (F r)) + (L r))) rfl ?_
                  refine x_iast (x := mnI (N2 (T r)) ((R (F r)) + (L r))) (f := N2) hx hb hK hP hD hS 6 0 ([xObj a tc rc ro, xArr (t 0) (a 1) 30 (xN F), xArr (t 0) (a 2) 30 (xN T), xArr (t 0) (a 3) 30 L, xArr (t 1) (a 4) 30 (xB Z), xArr (t 0) (a 8) 12 R, xArr (t 0) (a 9) 12 (upd N2 (T r) (mnI (N2 (T r)) ((R (F r)) + (L r))))]) rfl rfl (k := T r) rfl (by omega) (Nat.le_of_ble_eq_true rfl) dX0_goOneRope_103 (fun H locs hP hD hS => ?_)
                  refine lv_iinc (v := nI (r + 1)) (lv' := [(1, .int (nI (r + 1))), (2, .int ((R (F r)) + (L r))), (0, .ref (a 0))]) hx hb dX0_goOneRope_104 hl (k := 1) rfl (x_inc _) (by decide) rfl (fun ls hl => ?_)
                  refine lv_goto (tgt := 26) hx hb dX0_goOneRope_107 (by decide) ?_
                  exact ih_26 n269 (by omega) (r + 1) (upd N2 (T r) (mnI (N2 (T r)) ((R (F r)) + (L r)))) (by omega) (by rw [← hfin_26]; simp [goW, c_1, Nat.not_lt.mpr c_1, c_2, c_4, c_6]) _ _ hP hD hS _ (lv_sub hl [0, 2] rfl)
        exact lp_26 rc 0 (fillF 99999 tc 0 N) (by omega) rfl _ _ hP hD hS _ (lv_sub hl [0, 1] rfl)
      · have c_1 : i < tc := Nat.lt_of_not_le (fun z9 => c_1 ((nI_leI (a := tc) (b := i) (by omega) (by omega)).mpr z9))
        obtain ⟨n29, rfl⟩ : ∃ z, n2 = z + 1 := ⟨n2 - 1, by omega⟩
        refine lv_aload_n hx hb dX0_goOneRope_10 rfl (lv_at hl 1 rfl) ?_
        refine x0_get (v := .ref (a 9)) hx hb hts hin hown hK hP 0 rfl 11 (by decide) fl_35 rfl dX0_goOneRope_11 rfl ?_
        refine lv_iload_n hx hb dX0_goOneRope_14 rfl (lv_at hl 0 rfl) ?_
        refine lv_ldc (v := 99999) hx hb hown kc_121 dX0_goOneRope_15 ?_
        refine x_iast (x := 99999) (f := N1) hx hb hK hP hD hS 6 0 ([xObj a tc rc ro, xArr (t 0) (a 1) 30 (xN F), xArr (t 0) (a 2) 30 (xN T), xArr (t 0) (a 3) 30 L, xArr (t 1) (a 4) 30 (xB Z), xArr (t 0) (a 8) 12 R, xArr (t 0) (a 9) 12 (upd N1 i 99999)]) rfl rfl (k := i) rfl (by omega) (Nat.le_of_ble_eq_true rfl) dX0_goOneRope_17 (fun H locs hP hD hS => ?_)
        refine lv_iinc (v := nI (i + 1)) (lv' := [(1, .int (nI (i + 1))), (0, .ref (a 0))]) hx hb dX0_goOneRope_18 hl (k := 0) rfl (x_inc _) (by decide) rfl (fun ls hl => ?_)
        refine lv_goto (tgt := 2) hx hb dX0_goOneRope_21 (by decide) ?_
        exact ih_2 n29 (by omega) (i + 1) (upd N1 i 99999) (by omega) (by rw [← hfin_2]; rfl) _ _ hP hD hS _ (lv_sub hl [0, 1] rfl)
  exact lp_2 tc 0 N (by omega) rfl _ _ hP hD hS _ (lv_sub hl [0, 1] rfl)
set_option maxHeartbeats 4000000 in
set_option maxRecDepth 100000 in
theorem c_X0_shortRingFrom (l : Launch) (D : va_G) (t : Nat → ClassId) (a : Nat → Nat) (tc rc : Nat) (ro : Int32) (F T : Nat → Nat) (L : Nat → Int32) (Z : Nat → Bool) (R N : Nat → Int32) (w : Nat) (sz : Nat) (htc : tc ≤ 12) (hrc : rc ≤ 30) (hF : ∀ r, r < rc → F r < tc ∧ T r < tc) (hw : w < tc) : Met l yX0_shortRingFrom wsX0_shortRingFrom ({ frames := 2, cells := 0, slots := 0, locals := 43 }) (xMu D (xTy t) (fun _ => True) [.ref (a 0), .int (nI w)] [xObj a tc rc ro, xArr (t 0) (a 1) 30 (xN F), xArr (t 0) (a 2) 30 (xN T), xArr (t 0) (a 3) 30 L, xArr (t 1) (a 4) 30 (xB Z), xArr (t 0) (a 8) 12 R, xArr (t 0) (a 9) 12 N] sz) (xQm D (fun u : Unit => True) (fun u : Unit => some (.int (nI ((ringS F T L Z tc rc w (R, N)).1)))) [xObj a tc rc ro, xArr (t 0) (a 1) 30 (xN F), xArr (t 0) (a 2) 30 (xN T), xArr (t 0) (a 3) 30 L, xArr (t 1) (a 4) 30 (xB Z), xArr (t 0) (a 8) 12 R, xArr (t 0) (a 9) 12 N] (fun u : Unit => [xObj a tc rc ro, xArr (t 0) (a 1) 30 (xN F), xArr (t 0) (a 2) 30 (xN T), xArr (t 0) (a 3) 30 L, xArr (t 1) (a 4) 30 (xB Z), xArr (t 0) (a 8) 12 ((ringS F T L Z tc rc w (R, N)).2.1), xArr (t 0) (a 9) 12 ((ringS F T L Z tc rc w (R, N)).2.2)]) sz) 0 0 (va_A [xObj a tc rc ro, xArr (t 0) (a 1) 30 (xN F), xArr (t 0) (a 2) 30 (xN T), xArr (t 0) (a 3) 30 L, xArr (t 1) (a 4) 30 (xB Z), xArr (t 0) (a 8) 12 R, xArr (t 0) (a 9) 12 N] sz) := by
  refine Met.ofW (cc := cX0_shortRingFrom) (maxL := 3) (ret := (some .int)) (by decide) rfl ?_
  intro p e s m args below meth c s₁ hB9 hml hv
  obtain ⟨rfl, hsz, hP, hK, hD0, hXX⟩ := hv
  have hx := hB9.exec
  have hb := hB9.bytes
  have hr := hB9.returns
  have hts := atoms_spec (ws := wsX0_shortRingFrom) hB9.pre
  have hown : s.vm.findClass RX0 = some m.cls := findClass_of_methodNamed hB9.named
  have hlocks := hB9.notSynchronized
  have hin : ∀ w ∈ wsX00, w ∈ wsX0_shortRingFrom := fun _ h => List.mem_cons_of_mem _ (List.mem_append_right _ h)
  have fl_41 := hts (.fieldLink RX0 41 "RopeTimes" "turnCount" "I") (by decide +kernel)
  have fl_32 := hts (.fieldLink RX0 32 "RopeTimes" "reach" "[I") (by decide +kernel)
  have kc_121 := hts (.constant RX0 121 (99999)) (by decide +kernel)
  subst hsz
  have hD := hD0.self (sz := s.heap.size)
  generalize hAe : va_A ([xObj a tc rc ro, xArr (t 0) (a 1) 30 (xN F), xArr (t 0) (a 2) 30 (xN T), xArr (t 0) (a 3) 30 L, xArr (t 1) (a 4) 30 (xB Z), xArr (t 0) (a 8) 12 R, xArr (t 0) (a 9) 12 N]) s.heap.size = A at hD ⊢
  have hA : ∀ q : Nat, s.heap.size ≤ q → A q := fun q h => by rw [← hAe]; exact Or.inr h
  have hS : va_S A s.heap s.heap [] := va_S.rf
  have hP : va_P D vwCl ([xObj a tc rc ro, xArr (t 0) (a 1) 30 (xN F), xArr (t 0) (a 2) 30 (xN T), xArr (t 0) (a 3) 30 L, xArr (t 1) (a 4) 30 (xB Z), xArr (t 0) (a 8) 12 R, xArr (t 0) (a 9) 12 N]) s.heap := hP
  have hD : va_D A ([xObj a tc rc ro, xArr (t 0) (a 1) 30 (xN F), xArr (t 0) (a 2) 30 (xN T), xArr (t 0) (a 3) 30 L, xArr (t 1) (a 4) 30 (xB Z), xArr (t 0) (a 8) 12 R, xArr (t 0) (a 9) 12 N]) := hD
  have hl := lv_entry ([.ref (a 0), .int (nI w)]) (n := 3) (Nat.le_of_ble_eq_true rfl)
  rw [lg_entry_eq]
  generalize (lg_sl ([.ref (a 0), .int (nI w)]) ++ List.replicate (3 - (lg_sl ([.ref (a 0), .int (nI w)])).length) Slot.unset).toArray = ls at hl ⊢
  have hl : lv_has ls 3 [(0, .ref (a 0)), (1, .int (nI w))] := hl
  refine lv_iconst (v := 0) hx hb dX0_shortRingFrom_0 (by decide) ?_
  refine lv_istore_n (lv' := [(2, .int 0), (0, .ref (a 0)), (1, .int (nI w))]) hx hb dX0_shortRingFrom_1 rfl hl (by decide) rfl (fun ls hl => ?_)
  have lp_2 : ∀ (n2 : Nat) (i : Nat) (R1 : Nat → Int32), i + n2 = tc → fillF 99999 n2 i R1 = fillF 99999 tc 0 R → ∀ (H : Heap) (locs : List Loc), va_P D vwCl ([xObj a tc rc ro, xArr (t 0) (a 1) 30 (xN F), xArr (t 0) (a 2) 30 (xN T), xArr (t 0) (a 3) 30 L, xArr (t 1) (a 4) 30 (xB Z), xArr (t 0) (a 8) 12 R1, xArr (t 0) (a 9) 12 N]) H → va_D A ([xObj a tc rc ro, xArr (t 0) (a 1) 30 (xN F), xArr (t 0) (a 2) 30 (xN T), xArr (t 0) (a 3) 30 L, xArr (t 1) (a 4) 30 (xB Z), xArr (t 0) (a 8) 12 R1, xArr (t 0) (a 9) 12 N]) → va_S A s.heap H locs → ∀ ls : Array Slot, lv_has ls 3 [(2, .int (nI i)), (0, .ref (a 0)), (1, .int (nI w))] → W p l e (headSpec wsX0_shortRingFrom ({ frames := 2, cells := 0, slots := 0, locals := 43 } : Jvm.Room)).room s m (([.ref (a 0), .int (nI w)] : List Value).toArray) below meth c H locs 0 0 (MQ below (xQm D (fun u : Unit => True) (fun u : Unit => some (.int (nI ((ringS F T L Z tc rc w (R, N)).1)))) [xObj a tc rc ro, xArr (t 0) (a 1) 30 (xN F), xArr (t 0) (a 2) 30 (xN T), xArr (t 0) (a 3) 30 L, xArr (t 1) (a 4) 30 (xB Z), xArr (t 0) (a 8) 12 R, xArr (t 0) (a 9) 12 N] (fun u : Unit => [xObj a tc rc ro, xArr (t 0) (a 1) 30 (xN F), xArr (t 0) (a 2) 30 (xN T), xArr (t 0) (a 3) 30 L, xArr (t 1) (a 4) 30 (xB Z), xArr (t 0) (a 8) 12 ((ringS F T L Z tc rc w (R, N)).2.1), xArr (t 0) (a 9) 12 ((ringS F T L Z tc rc w (R, N)).2.2)]) s.heap.size) (([.ref (a 0), .int (nI w)] : List Value).toArray) s 0 0 A) (F0 m 2 ls []) := by
    intro n2
    induction n2 using Nat.strongRecOn with
    | _ n2 ih_2 =>
      intro i R1 hm_2 hfin_2 H locs hP hD hS ls hl
      refine lv_iload_n hx hb dX0_shortRingFrom_2 rfl (lv_at hl 0 rfl) ?_
      refine lv_aload_n hx hb dX0_shortRingFrom_3 rfl (lv_at hl 1 rfl) ?_
      refine x0_get (v := .int (nI tc)) hx hb hts hin hown hK hP 0 rfl 0 (by decide) fl_41 rfl dX0_shortRingFrom_4 rfl ?_
      refine lv_icmp_ge (x := nI i) (y := nI tc) (tgt := 24) hx hb dX0_shortRingFrom_7 (by decide) (fun c_1 => ?_) (fun c_1 => ?_)
      · have c_1 := (nI_leI (a := tc) (b := i) (by omega) (by omega)).mp c_1
        have hn0_2 : n2 = 0 := by omega
        subst hn0_2
        obtain rfl : R1 = fillF 99999 tc 0 R := hfin_2
        refine lv_aload_n hx hb dX0_shortRingFrom_24 rfl (lv_at hl 1 rfl) ?_
        refine x0_get (v := .ref (a 8)) hx hb hts hin hown hK hP 0 rfl 10 (by decide) fl_32 rfl dX0_shortRingFrom_25 rfl ?_
        refine lv_iload_n hx hb dX0_shortRingFrom_28 rfl (lv_at hl 2 rfl) ?_
        refine lv_iconst (v := 0) hx hb dX0_shortRingFrom_29 (by decide) ?_
        refine x_iast (x := 0) (f := fillF 99999 tc 0 R) hx hb hK hP hD hS 5 0 ([xObj a tc rc ro, xArr (t 0) (a 1) 30 (xN F), xArr (t 0) (a 2) 30 (xN T), xArr (t 0) (a 3) 30 L, xArr (t 1) (a 4) 30 (xB Z), xArr (t 0) (a 8) 12 (upd (fillF 99999 tc 0 R) w 0), xArr (t 0) (a 9) 12 N]) rfl rfl (k := w) rfl (by omega) (Nat.le_of_ble_eq_true rfl) dX0_shortRingFrom_30 (fun H locs hP hD hS => ?_)
        refine lv_iconst (v := 1) hx hb dX0_shortRingFrom_31 (by decide) ?_
        refine lv_istore_n (lv' := [(2, .int 1), (0, .ref (a 0)), (1, .int (nI w))]) hx hb dX0_shortRingFrom_32 rfl hl (by decide) rfl (fun ls hl => ?_)
        have lp_33 : ∀ (n33 : Nat) (k : Nat) (R2 : Nat → Int32) (N2 : Nat → Int32), k + n33 = tc + 1 → ringL F T L Z tc rc w n33 k (R2, N2) = ringL F T L Z tc rc w tc 1 ((upd (fillF 99999 tc 0 R) w 0), N) → ∀ (H : Heap) (locs : List Loc), va_P D vwCl ([xObj a tc rc ro, xArr (t 0) (a 1) 30 (xN F), xArr (t 0) (a 2) 30 (xN T), xArr (t 0) (a 3) 30 L, xArr (t 1) (a 4) 30 (xB Z), xArr (t 0) (a 8) 12 R2, xArr (t 0) (a 9) 12 N2]) H → va_D A ([xObj a tc rc ro, xArr (t 0) (a 1) 30 (xN F), xArr (t 0) (a 2) 30 (xN T), xArr (t 0) (a 3) 30 L, xArr (t 1) (a 4) 30 (xB Z), xArr (t 0) (a 8) 12 R2, xArr (t 0) (a 9) 12 N2]) → va_S A s.heap H locs → ∀ ls : Array Slot, lv_has ls 3 [(2, .int (nI k)), (0, .ref (a 0)), (1, .int (nI w))] → W p l e (headSpec wsX0_shortRingFrom ({ frames := 2, cells := 0, slots := 0, locals := 43 } : Jvm.Room)).room s m (([.ref (a 0), .int (nI w)] : List Value).toArray) below meth c H locs 0 0 (MQ below (xQm D (fun u : Unit => True) (fun u : Unit => some (.int (nI ((ringS F T L Z tc rc w (R, N)).1)))) [xObj a tc rc ro, xArr (t 0) (a 1) 30 (xN F), xArr (t 0) (a 2) 30 (xN T), xArr (t 0) (a 3) 30 L, xArr (t 1) (a 4) 30 (xB Z), xArr (t 0) (a 8) 12 R, xArr (t 0) (a 9) 12 N] (fun u : Unit => [xObj a tc rc ro, xArr (t 0) (a 1) 30 (xN F), xArr (t 0) (a 2) 30 (xN T), xArr (t 0) (a 3) 30 L, xArr (t 1) (a 4) 30 (xB Z), xArr (t 0) (a 8) 12 ((ringS F T L Z tc rc w (R, N)).2.1), xArr (t 0) (a 9) 12 ((ringS F T L Z tc rc w (R, N)).2.2)]) s.heap.size) (([.ref (a 0), .int (nI w)] : List Value).toArray) s 0 0 A) (F0 m 33 ls []) := by
          intro n33
          induction n33 using Nat.strongRecOn with
          | _ n33 ih_33 =>
            intro k R2 N2 hm_33 hfin_33 H locs hP hD hS ls hl
            refine lv_iload_n hx hb dX0_shortRingFrom_33 rfl (lv_at hl 0 rfl) ?_
            refine lv_aload_n hx hb dX0_shortRingFrom_34 rfl (lv_at hl 1 rfl) ?_
            refine x0_get (v := .int (nI tc)) hx hb hts hin hown hK hP 0 rfl 0 (by decide) fl_41 rfl dX0_shortRingFrom_35 rfl ?_
            refine lv_icmp_gt (x := nI k) (y := nI tc) (tgt := 62) hx hb dX0_shortRingFrom_38 (by decide) (fun c_2 => ?_) (fun c_2 => ?_)
            · have c_2 := (nI_ltI (a := tc) (b := k) (by omega) (by omega)).mp c_2
              have hn0_33 : n33 = 0 := by omega
              subst hn0_33
              refine lv_iconst (v := 0) hx hb dX0_shortRingFrom_62 (by decide) ?_
              have e9 : (0, R2, N2) = ringS F T L Z tc rc w (R, N) := by unfold ringS; rw [← hfin_33]; simp [ringL, c_1, Nat.not_lt.mpr c_1, c_2]
              have hP9 : va_P D vwCl ([xObj a tc rc ro, xArr (t 0) (a 1) 30 (xN F), xArr (t 0) (a 2) 30 (xN T), xArr (t 0) (a 3) 30 L, xArr (t 1) (a 4) 30 (xB Z), xArr (t 0) (a 8) 12 ((ringS F T L Z tc rc w (R, N)).2.1), xArr (t 0) (a 9) 12 ((ringS F T L Z tc rc w (R, N)).2.2)]) H := by rw [← e9]; exact hP
              have hD9 : va_D A ([xObj a tc rc ro, xArr (t 0) (a 1) 30 (xN F), xArr (t 0) (a 2) 30 (xN T), xArr (t 0) (a 3) 30 L, xArr (t 1) (a 4) 30 (xB Z), xArr (t 0) (a 8) 12 ((ringS F T L Z tc rc w (R, N)).2.1), xArr (t 0) (a 9) 12 ((ringS F T L Z tc rc w (R, N)).2.2)]) := by rw [← e9]; exact hD
              subst hAe
              obtain ⟨hq9, hf9⟩ := xm_end (S := Unit) (pu := (fun u : Unit => True)) (r := (fun u : Unit => some (.int (nI ((ringS F T L Z tc rc w (R, N)).1))))) (wc := [xObj a tc rc ro, xArr (t 0) (a 1) 30 (xN F), xArr (t 0) (a 2) 30 (xN T), xArr (t 0) (a 3) 30 L, xArr (t 1) (a 4) 30 (xB Z), xArr (t 0) (a 8) 12 R, xArr (t 0) (a 9) 12 N]) (w1 := (fun u : Unit => [xObj a tc rc ro, xArr (t 0) (a 1) 30 (xN F), xArr (t 0) (a 2) 30 (xN T), xArr (t 0) (a 3) 30 L, xArr (t 1) (a 4) 30 (xB Z), xArr (t 0) (a 8) 12 ((ringS F T L Z tc rc w (R, N)).2.1), xArr (t 0) (a 9) 12 ((ringS F T L Z tc rc w (R, N)).2.2)])) (o := some (.int 0)) (args := ([.ref (a 0), .int (nI w)] : List Value).toArray) () rfl trivial (by first | (rw [← e9]; done) | (rw [← e9]; rfl)) hP9 hD9 hS
              exact W.iret hx hb hr hq9 hf9 dX0_shortRingFrom_63 hlocks
            · have c_2 : k ≤ tc := Nat.le_of_not_lt (fun z9 => c_2 ((nI_ltI (a := tc) (b := k) (by omega) (by omega)).mpr z9))
              obtain ⟨n339, rfl⟩ : ∃ z, n33 = z + 1 := ⟨n33 - 1, by omega⟩
              refine lv_aload_n hx hb dX0_shortRingFrom_41 rfl (lv_at hl 1 rfl) ?_
              refine xm_V (b := a 0) (As := []) (rest := []) (wr := []) ⟨hx, hb, hml, hown, hts⟩ xTrav_T (c_X0_goOneRope l D t a tc rc ro F T L Z R2 N2 _ (by omega) (by omega) hF) (cwV 0 hts gX0_shortRingFrom_X0_goOneRope rfl rfl rfl hd_X0_goOneRope ⟨Nat.le_of_ble_eq_true rfl, Nat.le_of_ble_eq_true rfl⟩) hK hP hD hS hA (fun _ _ _ => trivial) (va_recv hK hP (ci := 0) (q0 := 0) rfl rfl) [0, 1, 2, 3, 4, 5, 6] [] rfl rfl (by decide) (by decide) (by decide) rfl hl.1 rfl (Nat.le_of_ble_eq_true rfl) dX0_shortRingFrom_42 ⟨(Nat.le_of_ble_eq_true rfl), (Nat.le_of_ble_eq_true rfl)⟩ (fun u_3 H locs hu hP hD hS hz => ?_)
              have hP : va_P D vwCl ([xObj a tc rc ro, xArr (t 0) (a 1) 30 (xN F), xArr (t 0) (a 2) 30 (xN T), xArr (t 0) (a 3) 30 L, xArr (t 1) (a 4) 30 (xB Z), xArr (t 0) (a 8) 12 ((oneR F T L Z tc rc (R2, N2)).1), xArr (t 0) (a 9) 12 ((oneR F T L Z tc rc (R2, N2)).2)]) H := hP
              have hD : va_D _ ([xObj a tc rc ro, xArr (t 0) (a 1) 30 (xN F), xArr (t 0) (a 2) 30 (xN T), xArr (t 0) (a 3) 30 L, xArr (t 1) (a 4) 30 (xB Z), xArr (t 0) (a 8) 12 ((oneR F T L Z tc rc (R2, N2)).1), xArr (t 0) (a 9) 12 ((oneR F T L Z tc rc (R2, N2)).2)]) := hD
              refine lv_aload_n hx hb dX0_shortRingFrom_45 rfl (lv_at hl 1 rfl) ?_
              refine x0_get (v := .ref (a 8)) hx hb hts hin hown hK hP 0 rfl 10 (by decide) fl_32 rfl dX0_shortRingFrom_46 rfl ?_
              refine lv_iload_n hx hb dX0_shortRingFrom_49 rfl (lv_at hl 2 rfl) ?_
              refine x_iald (f := (oneR F T L Z tc rc (R2, N2)).1) hx hb hK hP 5 0 rfl rfl (k := w) (by omega) (Nat.le_of_ble_eq_true rfl) dX0_shortRingFrom_50 ?_
              refine lv_if_ge (x := ((oneR F T L Z tc rc (R2, N2)).1) w) (tgt := 56) hx hb dX0_shortRingFrom_51 (by decide) (fun c_4 => ?_) (fun c_4 => ?_)
              · have c_4 := Int32.not_lt.mpr c_4
                refine lv_iinc (v := nI (k + 1)) (lv' := [(2, .int (nI (k + 1))), (0, .ref (a 0)), (1, .int (nI w))]) hx hb dX0_shortRingFrom_56 hl (k := 0) rfl (x_inc _) (by decide) rfl (fun ls hl => ?_)
                refine lv_goto (tgt := 33) hx hb dX0_shortRingFrom_59 (by decide) ?_
                exact ih_33 n339 (by omega) (k + 1) ((oneR F T L Z tc rc (R2, N2)).1) ((oneR F T L Z tc rc (R2, N2)).2) (by omega) (by rw [← hfin_33]; simp [ringL, c_1, Nat.not_lt.mpr c_1, c_2, Nat.not_lt.mpr c_2, c_4]) _ _ hP hD hS _ (lv_sub hl [0, 1, 2] rfl)
              · have c_4 := Int32.not_le.mp c_4
                refine lv_iload_n hx hb dX0_shortRingFrom_54 rfl (lv_at hl 0 rfl) ?_
                have e9 : (k, (oneR F T L Z tc rc (R2, N2)).1, (oneR F T L Z tc rc (R2, N2)).2) = ringS F T L Z tc rc w (R, N) := by unfold ringS; rw [← hfin_33]; simp [ringL, c_1, Nat.not_lt.mpr c_1, c_2, Nat.not_lt.mpr c_2, c_4]
                have hP9 : va_P D vwCl ([xObj a tc rc ro, xArr (t 0) (a 1) 30 (xN F), xArr (t 0) (a 2) 30 (xN T), xArr (t 0) (a 3) 30 L, xArr (t 1) (a 4) 30 (xB Z), xArr (t 0) (a 8) 12 ((ringS F T L Z tc rc w (R, N)).2.1), xArr (t 0) (a 9) 12 ((ringS F T L Z tc rc w (R, N)).2.2)]) H := by rw [← e9]; exact hP
                have hD9 : va_D A ([xObj a tc rc ro, xArr (t 0) (a 1) 30 (xN F), xArr (t 0) (a 2) 30 (xN T), xArr (t 0) (a 3) 30 L, xArr (t 1) (a 4) 30 (xB Z), xArr (t 0) (a 8) 12 ((ringS F T L Z tc rc w (R, N)).2.1), xArr (t 0) (a 9) 12 ((ringS F T L Z tc rc w (R, N)).2.2)]) := by rw [← e9]; exact hD
                subst hAe
                obtain ⟨hq9, hf9⟩ := xm_end (S := Unit) (pu := (fun u : Unit => True)) (r := (fun u : Unit => some (.int (nI ((ringS F T L Z tc rc w (R, N)).1))))) (wc := [xObj a tc rc ro, xArr (t 0) (a 1) 30 (xN F), xArr (t 0) (a 2) 30 (xN T), xArr (t 0) (a 3) 30 L, xArr (t 1) (a 4) 30 (xB Z), xArr (t 0) (a 8) 12 R, xArr (t 0) (a 9) 12 N]) (w1 := (fun u : Unit => [xObj a tc rc ro, xArr (t 0) (a 1) 30 (xN F), xArr (t 0) (a 2) 30 (xN T), xArr (t 0) (a 3) 30 L, xArr (t 1) (a 4) 30 (xB Z), xArr (t 0) (a 8) 12 ((ringS F T L Z tc rc w (R, N)).2.1), xArr (t 0) (a 9) 12 ((ringS F T L Z tc rc w (R, N)).2.2)])) (o := some (.int (nI k))) (args := ([.ref (a 0), .int (nI w)] : List Value).toArray) () rfl trivial (by first | (rw [← e9]; done) | (rw [← e9]; rfl)) hP9 hD9 hS
                exact W.iret hx hb hr hq9 hf9 dX0_shortRingFrom_55 hlocks
        exact lp_33 tc 1 (upd (fillF 99999 tc 0 R) w 0) N (by omega) rfl _ _ hP hD hS _ (lv_sub hl [0, 1, 2] rfl)
      · have c_1 : i < tc := Nat.lt_of_not_le (fun z9 => c_1 ((nI_leI (a := tc) (b := i) (by omega) (by omega)).mpr z9))
        obtain ⟨n29, rfl⟩ : ∃ z, n2 = z + 1 := ⟨n2 - 1, by omega⟩
        refine lv_aload_n hx hb dX0_shortRingFrom_10 rfl (lv_at hl 1 rfl) ?_
        refine x0_get (v := .ref (a 8)) hx hb hts hin hown hK hP 0 rfl 10 (by decide) fl_32 rfl dX0_shortRingFrom_11 rfl ?_
        refine lv_iload_n hx hb dX0_shortRingFrom_14 rfl (lv_at hl 0 rfl) ?_
        refine lv_ldc (v := 99999) hx hb hown kc_121 dX0_shortRingFrom_15 ?_
        refine x_iast (x := 99999) (f := R1) hx hb hK hP hD hS 5 0 ([xObj a tc rc ro, xArr (t 0) (a 1) 30 (xN F), xArr (t 0) (a 2) 30 (xN T), xArr (t 0) (a 3) 30 L, xArr (t 1) (a 4) 30 (xB Z), xArr (t 0) (a 8) 12 (upd R1 i 99999), xArr (t 0) (a 9) 12 N]) rfl rfl (k := i) rfl (by omega) (Nat.le_of_ble_eq_true rfl) dX0_shortRingFrom_17 (fun H locs hP hD hS => ?_)
        refine lv_iinc (v := nI (i + 1)) (lv' := [(2, .int (nI (i + 1))), (0, .ref (a 0)), (1, .int (nI w))]) hx hb dX0_shortRingFrom_18 hl (k := 0) rfl (x_inc _) (by decide) rfl (fun ls hl => ?_)
        refine lv_goto (tgt := 2) hx hb dX0_shortRingFrom_21 (by decide) ?_
        exact ih_2 n29 (by omega) (i + 1) (upd R1 i 99999) (by omega) (by rw [← hfin_2]; rfl) _ _ hP hD hS _ (lv_sub hl [0, 1, 2] rfl)
  exact lp_2 tc 0 R (by omega) rfl _ _ hP hD hS _ (lv_sub hl [0, 1, 2] rfl)
set_option maxHeartbeats 4000000 in
set_option maxRecDepth 100000 in
theorem c_X0_shortRingLength (l : Launch) (D : va_G) (t : Nat → ClassId) (a : Nat → Nat) (tc rc : Nat) (ro : Int32) (F T : Nat → Nat) (L : Nat → Int32) (Z : Nat → Bool) (R N : Nat → Int32) (sz : Nat) (htc : tc ≤ 12) (hrc : rc ≤ 30) (hF : ∀ r, r < rc → F r < tc ∧ T r < tc) : Met l yX0_shortRingLength wsX0_shortRingLength ({ frames := 3, cells := 0, slots := 0, locals := 65 }) (xMu D (xTy t) (fun _ => True) [.ref (a 0)] [xObj a tc rc ro, xArr (t 0) (a 1) 30 (xN F), xArr (t 0) (a 2) 30 (xN T), xArr (t 0) (a 3) 30 L, xArr (t 1) (a 4) 30 (xB Z), xArr (t 0) (a 8) 12 R, xArr (t 0) (a 9) 12 N] sz) (xQm D (fun u : Unit => True) (fun u : Unit => some (.int (nI ((ringA F T L Z tc rc tc 0 0 (R, N)).1)))) [xObj a tc rc ro, xArr (t 0) (a 1) 30 (xN F), xArr (t 0) (a 2) 30 (xN T), xArr (t 0) (a 3) 30 L, xArr (t 1) (a 4) 30 (xB Z), xArr (t 0) (a 8) 12 R, xArr (t 0) (a 9) 12 N] (fun u : Unit => [xObj a tc rc ro, xArr (t 0) (a 1) 30 (xN F), xArr (t 0) (a 2) 30 (xN T), xArr (t 0) (a 3) 30 L, xArr (t 1) (a 4) 30 (xB Z), xArr (t 0) (a 8) 12 ((ringA F T L Z tc rc tc 0 0 (R, N)).2.1), xArr (t 0) (a 9) 12 ((ringA F T L Z tc rc tc 0 0 (R, N)).2.2)]) sz) 0 0 (va_A [xObj a tc rc ro, xArr (t 0) (a 1) 30 (xN F), xArr (t 0) (a 2) 30 (xN T), xArr (t 0) (a 3) 30 L, xArr (t 1) (a 4) 30 (xB Z), xArr (t 0) (a 8) 12 R, xArr (t 0) (a 9) 12 N] sz) := by
  refine Met.ofW (cc := cX0_shortRingLength) (maxL := 4) (ret := (some .int)) (by decide) rfl ?_
  intro p e s m args below meth c s₁ hB9 hml hv
  obtain ⟨rfl, hsz, hP, hK, hD0, hXX⟩ := hv
  have hx := hB9.exec
  have hb := hB9.bytes
  have hr := hB9.returns
  have hts := atoms_spec (ws := wsX0_shortRingLength) hB9.pre
  have hown : s.vm.findClass RX0 = some m.cls := findClass_of_methodNamed hB9.named
  have hlocks := hB9.notSynchronized
  have hin : ∀ w ∈ wsX00, w ∈ wsX0_shortRingLength := fun _ h => List.mem_cons_of_mem _ (List.mem_append_right _ h)
  have fl_41 := hts (.fieldLink RX0 41 "RopeTimes" "turnCount" "I") (by decide +kernel)
  subst hsz
  have hD := hD0.self (sz := s.heap.size)
  generalize hAe : va_A ([xObj a tc rc ro, xArr (t 0) (a 1) 30 (xN F), xArr (t 0) (a 2) 30 (xN T), xArr (t 0) (a 3) 30 L, xArr (t 1) (a 4) 30 (xB Z), xArr (t 0) (a 8) 12 R, xArr (t 0) (a 9) 12 N]) s.heap.size = A at hD ⊢
  have hA : ∀ q : Nat, s.heap.size ≤ q → A q := fun q h => by rw [← hAe]; exact Or.inr h
  have hS : va_S A s.heap s.heap [] := va_S.rf
  have hP : va_P D vwCl ([xObj a tc rc ro, xArr (t 0) (a 1) 30 (xN F), xArr (t 0) (a 2) 30 (xN T), xArr (t 0) (a 3) 30 L, xArr (t 1) (a 4) 30 (xB Z), xArr (t 0) (a 8) 12 R, xArr (t 0) (a 9) 12 N]) s.heap := hP
  have hD : va_D A ([xObj a tc rc ro, xArr (t 0) (a 1) 30 (xN F), xArr (t 0) (a 2) 30 (xN T), xArr (t 0) (a 3) 30 L, xArr (t 1) (a 4) 30 (xB Z), xArr (t 0) (a 8) 12 R, xArr (t 0) (a 9) 12 N]) := hD
  have hl := lv_entry ([.ref (a 0)]) (n := 4) (Nat.le_of_ble_eq_true rfl)
  rw [lg_entry_eq]
  generalize (lg_sl ([.ref (a 0)]) ++ List.replicate (4 - (lg_sl ([.ref (a 0)])).length) Slot.unset).toArray = ls at hl ⊢
  have hl : lv_has ls 4 [(0, .ref (a 0))] := hl
  refine lv_iconst (v := 0) hx hb dX0_shortRingLength_0 (by decide) ?_
  refine lv_istore_n (lv' := [(1, .int 0), (0, .ref (a 0))]) hx hb dX0_shortRingLength_1 rfl hl (by decide) rfl (fun ls hl => ?_)
  refine lv_iconst (v := 0) hx hb dX0_shortRingLength_2 (by decide) ?_
  refine lv_istore_n (lv' := [(2, .int 0), (1, .int 0), (0, .ref (a 0))]) hx hb dX0_shortRingLength_3 rfl hl (by decide) rfl (fun ls hl => ?_)
  have lp_4 : ∀ (n4 : Nat) (i : Nat) (few : Nat) (R2 : Nat → Int32) (N2 : Nat → Int32), i + n4 = tc → few ≤ 13 → ringA F T L Z tc rc n4 i few (R2, N2) = ringA F T L Z tc rc tc 0 0 (R, N) → ∀ (H : Heap) (locs : List Loc), va_P D vwCl ([xObj a tc rc ro, xArr (t 0) (a 1) 30 (xN F), xArr (t 0) (a 2) 30 (xN T), xArr (t 0) (a 3) 30 L, xArr (t 1) (a 4) 30 (xB Z), xArr (t 0) (a 8) 12 R2, xArr (t 0) (a 9) 12 N2]) H → va_D A ([xObj a tc rc ro, xArr (t 0) (a 1) 30 (xN F), xArr (t 0) (a 2) 30 (xN T), xArr (t 0) (a 3) 30 L, xArr (t 1) (a 4) 30 (xB Z), xArr (t 0) (a 8) 12 R2, xArr (t 0) (a 9) 12 N2]) → va_S A s.heap H locs → ∀ ls : Array Slot, lv_has ls 4 [(2, .int (nI i)), (1, .int (nI few)), (0, .ref (a 0))] → W p l e (headSpec wsX0_shortRingLength ({ frames := 3, cells := 0, slots := 0, locals := 65 } : Jvm.Room)).room s m (([.ref (a 0)] : List Value).toArray) below meth c H locs 0 0 (MQ below (xQm D (fun u : Unit => True) (fun u : Unit => some (.int (nI ((ringA F T L Z tc rc tc 0 0 (R, N)).1)))) [xObj a tc rc ro, xArr (t 0) (a 1) 30 (xN F), xArr (t 0) (a 2) 30 (xN T), xArr (t 0) (a 3) 30 L, xArr (t 1) (a 4) 30 (xB Z), xArr (t 0) (a 8) 12 R, xArr (t 0) (a 9) 12 N] (fun u : Unit => [xObj a tc rc ro, xArr (t 0) (a 1) 30 (xN F), xArr (t 0) (a 2) 30 (xN T), xArr (t 0) (a 3) 30 L, xArr (t 1) (a 4) 30 (xB Z), xArr (t 0) (a 8) 12 ((ringA F T L Z tc rc tc 0 0 (R, N)).2.1), xArr (t 0) (a 9) 12 ((ringA F T L Z tc rc tc 0 0 (R, N)).2.2)]) s.heap.size) (([.ref (a 0)] : List Value).toArray) s 0 0 A) (F0 m 4 ls []) := by
    intro n4
    induction n4 using Nat.strongRecOn with
    | _ n4 ih_4 =>
      intro i few R2 N2 hm_4 hp0_4 hfin_4 H locs hP hD hS ls hl
      refine lv_iload_n hx hb dX0_shortRingLength_4 rfl (lv_at hl 0 rfl) ?_
      refine lv_aload_n hx hb dX0_shortRingLength_5 rfl (lv_at hl 2 rfl) ?_
      refine x0_get (v := .int (nI tc)) hx hb hts hin hown hK hP 0 rfl 0 (by decide) fl_41 rfl dX0_shortRingLength_6 rfl ?_
      refine lv_icmp_ge (x := nI i) (y := nI tc) (tgt := 39) hx hb dX0_shortRingLength_9 (by decide) (fun c_1 => ?_) (fun c_1 => ?_)
      · have c_1 := (nI_leI (a := tc) (b := i) (by omega) (by omega)).mp c_1
        have hn0_4 : n4 = 0 := by omega
        subst hn0_4
        obtain rfl : few = (ringA F T L Z tc rc tc 0 0 (R, N)).1 := congrArg (fun z => z.1) hfin_4
        obtain rfl : R2 = (ringA F T L Z tc rc tc 0 0 (R, N)).2.1 := congrArg (fun z => z.2.1) hfin_4
        obtain rfl : N2 = (ringA F T L Z tc rc tc 0 0 (R, N)).2.2 := congrArg (fun z => z.2.2) hfin_4
        refine lv_iload_n hx hb dX0_shortRingLength_39 rfl (lv_at hl 1 rfl) ?_
        subst hAe
        obtain ⟨hq9, hf9⟩ := xm_end (S := Unit) (pu := (fun u : Unit => True)) (r := (fun u : Unit => some (.int (nI ((ringA F T L Z tc rc tc 0 0 (R, N)).1))))) (wc := [xObj a tc rc ro, xArr (t 0) (a 1) 30 (xN F), xArr (t 0) (a 2) 30 (xN T), xArr (t 0) (a 3) 30 L, xArr (t 1) (a 4) 30 (xB Z), xArr (t 0) (a 8) 12 R, xArr (t 0) (a 9) 12 N]) (w1 := (fun u : Unit => [xObj a tc rc ro, xArr (t 0) (a 1) 30 (xN F), xArr (t 0) (a 2) 30 (xN T), xArr (t 0) (a 3) 30 L, xArr (t 1) (a 4) 30 (xB Z), xArr (t 0) (a 8) 12 ((ringA F T L Z tc rc tc 0 0 (R, N)).2.1), xArr (t 0) (a 9) 12 ((ringA F T L Z tc rc tc 0 0 (R, N)).2.2)])) (o := some (.int (nI ((ringA F T L Z tc rc tc 0 0 (R, N)).1)))) (args := ([.ref (a 0)] : List Value).toArray) () rfl trivial rfl hP hD hS
        exact W.iret hx hb hr hq9 hf9 dX0_shortRingLength_40 hlocks
      · have c_1 : i < tc := Nat.lt_of_not_le (fun z9 => c_1 ((nI_leI (a := tc) (b := i) (by omega) (by omega)).mpr z9))
        obtain ⟨n49, rfl⟩ : ∃ z, n4 = z + 1 := ⟨n4 - 1, by omega⟩
        refine lv_aload_n hx hb dX0_shortRingLength_12 rfl (lv_at hl 2 rfl) ?_
        refine lv_iload_n hx hb dX0_shortRingLength_13 rfl (lv_at hl 0 rfl) ?_
        refine xm_V (b := a 0) (As := [.int (nI i)]) (rest := []) (wr := []) ⟨hx, hb, hml, hown, hts⟩ xTrav_T (c_X0_shortRingFrom l D t a tc rc ro F T L Z R2 N2 i _ (by omega) (by omega) hF (by omega)) (cwV 1 hts gX0_shortRingLength_X0_shortRingFrom rfl rfl rfl hd_X0_shortRingFrom ⟨Nat.le_of_ble_eq_true rfl, Nat.le_of_ble_eq_true rfl⟩) hK hP hD hS hA (fun _ _ _ => trivial) (va_recv hK hP (ci := 0) (q0 := 0) rfl rfl) [0, 1, 2, 3, 4, 5, 6] [] rfl rfl (by decide) (by decide) (by decide) rfl hl.1 rfl (Nat.le_of_ble_eq_true rfl) dX0_shortRingLength_14 ⟨(Nat.le_of_ble_eq_true rfl), (Nat.le_of_ble_eq_true rfl)⟩ (fun u_2 H locs hu hP hD hS hz => ?_)
        have hP : va_P D vwCl ([xObj a tc rc ro, xArr (t 0) (a 1) 30 (xN F), xArr (t 0) (a 2) 30 (xN T), xArr (t 0) (a 3) 30 L, xArr (t 1) (a 4) 30 (xB Z), xArr (t 0) (a 8) 12 ((ringS F T L Z tc rc i (R2, N2)).2.1), xArr (t 0) (a 9) 12 ((ringS F T L Z tc rc i (R2, N2)).2.2)]) H := hP
        have hD : va_D _ ([xObj a tc rc ro, xArr (t 0) (a 1) 30 (xN F), xArr (t 0) (a 2) 30 (xN T), xArr (t 0) (a 3) 30 L, xArr (t 1) (a 4) 30 (xB Z), xArr (t 0) (a 8) 12 ((ringS F T L Z tc rc i (R2, N2)).2.1), xArr (t 0) (a 9) 12 ((ringS F T L Z tc rc i (R2, N2)).2.2)]) := hD
        have hrs_u_2 := ringS_le F T L Z tc rc i (R2, N2)
        refine lv_istore_n (lv' := [(3, .int (nI ((ringS F T L Z tc rc i (R2, N2)).1))), (2, .int (nI i)), (1, .int (nI few)), (0, .ref (a 0))]) hx hb dX0_shortRingLength_17 rfl hl (by decide) rfl (fun ls hl => ?_)
        refine lv_iload_n hx hb dX0_shortRingLength_18 rfl (lv_at hl 0 rfl) ?_
        refine lv_if_eq (x := nI ((ringS F T L Z tc rc i (R2, N2)).1)) (tgt := 33) hx hb dX0_shortRingLength_19 (by decide) (fun c_3 => ?_) (fun c_3 => ?_)
        · have c_3 := (nI_eq (a := (ringS F T L Z tc rc i (R2, N2)).1) (b := 0) (by omega) (by omega)).mp c_3
          refine lv_iinc (v := nI (i + 1)) (lv' := [(2, .int (nI (i + 1))), (3, .int (nI ((ringS F T L Z tc rc i (R2, N2)).1))), (1, .int (nI few)), (0, .ref (a 0))]) hx hb dX0_shortRingLength_33 hl (k := 1) rfl (x_inc _) (by decide) rfl (fun ls hl => ?_)
          refine lv_goto (tgt := 4) hx hb dX0_shortRingLength_36 (by decide) ?_
          exact ih_4 n49 (by omega) (i + 1) few ((ringS F T L Z tc rc i (R2, N2)).2.1) ((ringS F T L Z tc rc i (R2, N2)).2.2) (by omega) (by omega) (by rw [← hfin_4]; simp [ringA, c_1, c_3]) _ _ hP hD hS _ (lv_sub hl [0, 2, 3] rfl)
        · have c_3 : ¬ ((ringS F T L Z tc rc i (R2, N2)).1) = 0 := fun z9 => c_3 ((nI_eq (a := (ringS F T L Z tc rc i (R2, N2)).1) (b := 0) (by omega) (by omega)).mpr z9)
          refine lv_iload_n hx hb dX0_shortRingLength_22 rfl (lv_at hl 2 rfl) ?_
          refine lv_if_eq (x := nI few) (tgt := 31) hx hb dX0_shortRingLength_23 (by decide) (fun c_4 => ?_) (fun c_4 => ?_)
          · have c_4 := (nI_eq (a := few) (b := 0) (by omega) (by omega)).mp c_4
            refine lv_iload_n hx hb dX0_shortRingLength_31 rfl (lv_at hl 0 rfl) ?_
            refine lv_istore_n (lv' := [(1, .int (nI ((ringS F T L Z tc rc i (R2, N2)).1))), (3, .int (nI ((ringS F T L Z tc rc i (R2, N2)).1))), (2, .int (nI i)), (0, .ref (a 0))]) hx hb dX0_shortRingLength_32 rfl hl (by decide) rfl (fun ls hl => ?_)
            refine lv_iinc (v := nI (i + 1)) (lv' := [(2, .int (nI (i + 1))), (1, .int (nI ((ringS F T L Z tc rc i (R2, N2)).1))), (3, .int (nI ((ringS F T L Z tc rc i (R2, N2)).1))), (0, .ref (a 0))]) hx hb dX0_shortRingLength_33 hl (k := 2) rfl (x_inc _) (by decide) rfl (fun ls hl => ?_)
            refine lv_goto (tgt := 4) hx hb dX0_shortRingLength_36 (by decide) ?_
            exact ih_4 n49 (by omega) (i + 1) ((ringS F T L Z tc rc i (R2, N2)).1) ((ringS F T L Z tc rc i (R2, N2)).2.1) ((ringS F T L Z tc rc i (R2, N2)).2.2) (by omega) (by omega) (by rw [← hfin_4]; simp [ringA, c_1, c_3, c_4]) _ _ hP hD hS _ (lv_sub hl [0, 1, 3] rfl)
          · have c_4 : ¬ few = 0 := fun z9 => c_4 ((nI_eq (a := few) (b := 0) (by omega) (by omega)).mpr z9)
            refine lv_iload_n hx hb dX0_shortRingLength_26 rfl (lv_at hl 0 rfl) ?_
            refine lv_iload_n hx hb dX0_shortRingLength_27 rfl (lv_at hl 2 rfl) ?_
            refine lv_icmp_ge (x := nI ((ringS F T L Z tc rc i (R2, N2)).1)) (y := nI few) (tgt := 33) hx hb dX0_shortRingLength_28 (by decide) (fun c_5 => ?_) (fun c_5 => ?_)
            · have c_5 := (nI_leI (a := few) (b := (ringS F T L Z tc rc i (R2, N2)).1) (by omega) (by omega)).mp c_5
              refine lv_iinc (v := nI (i + 1)) (lv' := [(2, .int (nI (i + 1))), (3, .int (nI ((ringS F T L Z tc rc i (R2, N2)).1))), (1, .int (nI few)), (0, .ref (a 0))]) hx hb dX0_shortRingLength_33 hl (k := 1) rfl (x_inc _) (by decide) rfl (fun ls hl => ?_)
              refine lv_goto (tgt := 4) hx hb dX0_shortRingLength_36 (by decide) ?_
              exact ih_4 n49 (by omega) (i + 1) few ((ringS F T L Z tc rc i (R2, N2)).2.1) ((ringS F T L Z tc rc i (R2, N2)).2.2) (by omega) (by omega) (by rw [← hfin_4]; simp [ringA, c_1, c_3, c_4, c_5, Nat.not_lt.mpr c_5]) _ _ hP hD hS _ (lv_sub hl [0, 2, 3] rfl)
            · have c_5 : ((ringS F T L Z tc rc i (R2, N2)).1) < few := Nat.lt_of_not_le (fun z9 => c_5 ((nI_leI (a := few) (b := (ringS F T L Z tc rc i (R2, N2)).1) (by omega) (by omega)).mpr z9))
              refine lv_iload_n hx hb dX0_shortRingLength_31 rfl (lv_at hl 0 rfl) ?_
              refine lv_istore_n (lv' := [(1, .int (nI ((ringS F T L Z tc rc i (R2, N2)).1))), (3, .int (nI ((ringS F T L Z tc rc i (R2, N2)).1))), (2, .int (nI i)), (0, .ref (a 0))]) hx hb dX0_shortRingLength_32 rfl hl (by decide) rfl (fun ls hl => ?_)
              refine lv_iinc (v := nI (i + 1)) (lv' := [(2, .int (nI (i + 1))), (1, .int (nI ((ringS F T L Z tc rc i (R2, N2)).1))), (3, .int (nI ((ringS F T L Z tc rc i (R2, N2)).1))), (0, .ref (a 0))]) hx hb dX0_shortRingLength_33 hl (k := 2) rfl (x_inc _) (by decide) rfl (fun ls hl => ?_)
              refine lv_goto (tgt := 4) hx hb dX0_shortRingLength_36 (by decide) ?_
              exact ih_4 n49 (by omega) (i + 1) ((ringS F T L Z tc rc i (R2, N2)).1) ((ringS F T L Z tc rc i (R2, N2)).2.1) ((ringS F T L Z tc rc i (R2, N2)).2.2) (by omega) (by omega) (by rw [← hfin_4]; simp [ringA, c_1, c_3, c_4, c_5]) _ _ hP hD hS _ (lv_sub hl [0, 1, 3] rfl)
  exact lp_4 tc 0 0 R N (by omega) (by omega) rfl _ _ hP hD hS _ (lv_sub hl [0, 1, 2] rfl)
set_option maxHeartbeats 4000000 in
set_option maxRecDepth 100000 in
theorem c_X0_tightenOne (l : Launch) (D : va_G) (t : Nat → ClassId) (a : Nat → Nat) (tc rc : Nat) (ro : Int32) (F T : Nat → Nat) (L : Nat → Int32) (Z : Nat → Bool) (E B : Nat → Int32) (r : Nat) (sz : Nat) (htc : tc ≤ 12) (hrc : rc ≤ 30) (hF : ∀ r, r < rc → F r < tc ∧ T r < tc) (hr9 : r < rc) : Met l yX0_tightenOne wsX0_tightenOne ({ frames := 5, cells := 0, slots := 0, locals := 112 }) (xMu D (xTy t) (fun _ => True) [.ref (a 0), .int (nI r)] [xObj a tc rc ro, xArr (t 0) (a 1) 30 (xN F), xArr (t 0) (a 2) 30 (xN T), xArr (t 0) (a 3) 30 L, xArr (t 1) (a 4) 30 (xB Z), xArr (t 0) (a 5) 12 E, xArr (t 0) (a 6) 144 B] sz) (xQm D (fun u : Unit => True) (fun u : Unit => some (.int (tOneD F T r (L, ro, E, B)))) [xObj a tc rc ro, xArr (t 0) (a 1) 30 (xN F), xArr (t 0) (a 2) 30 (xN T), xArr (t 0) (a 3) 30 L, xArr (t 1) (a 4) 30 (xB Z), xArr (t 0) (a 5) 12 E, xArr (t 0) (a 6) 144 B] (fun u : Unit => [xObj a tc rc ((tOneS F T Z tc rc r (L, ro, E, B)).2.1), xArr (t 0) (a 1) 30 (xN F), xArr (t 0) (a 2) 30 (xN T), xArr (t 0) (a 3) 30 ((tOneS F T Z tc rc r (L, ro, E, B)).1), xArr (t 1) (a 4) 30 (xB Z), xArr (t 0) (a 5) 12 ((tOneS F T Z tc rc r (L, ro, E, B)).2.2.1), xArr (t 0) (a 6) 144 ((tOneS F T Z tc rc r (L, ro, E, B)).2.2.2)]) sz) 0 0 (va_A [xObj a tc rc ro, xArr (t 0) (a 1) 30 (xN F), xArr (t 0) (a 2) 30 (xN T), xArr (t 0) (a 3) 30 L, xArr (t 1) (a 4) 30 (xB Z), xArr (t 0) (a 5) 12 E, xArr (t 0) (a 6) 144 B] sz) := by
  refine Met.ofW (cc := cX0_tightenOne) (maxL := 3) (ret := (some .int)) (by decide) rfl ?_
  intro p e s m args below meth c s₁ hB9 hml hv
  obtain ⟨rfl, hsz, hP, hK, hD0, hXX⟩ := hv
  have hx := hB9.exec
  have hb := hB9.bytes
  have hr := hB9.returns
  have hts := atoms_spec (ws := wsX0_tightenOne) hB9.pre
  have hown : s.vm.findClass RX0 = some m.cls := findClass_of_methodNamed hB9.named
  have hlocks := hB9.notSynchronized
  have hin : ∀ w ∈ wsX00, w ∈ wsX0_tightenOne := fun _ h => List.mem_cons_of_mem _ (List.mem_append_right _ h)
  have fl_16 := hts (.fieldLink RX0 16 "RopeTimes" "length" "[I") (by decide +kernel)
  have fl_9 := hts (.fieldLink RX0 9 "RopeTimes" "from" "[I") (by decide +kernel)
  have fl_13 := hts (.fieldLink RX0 13 "RopeTimes" "to" "[I") (by decide +kernel)
  subst hsz
  have hD := hD0.self (sz := s.heap.size)
  generalize hAe : va_A ([xObj a tc rc ro, xArr (t 0) (a 1) 30 (xN F), xArr (t 0) (a 2) 30 (xN T), xArr (t 0) (a 3) 30 L, xArr (t 1) (a 4) 30 (xB Z), xArr (t 0) (a 5) 12 E, xArr (t 0) (a 6) 144 B]) s.heap.size = A at hD ⊢
  have hA : ∀ q : Nat, s.heap.size ≤ q → A q := fun q h => by rw [← hAe]; exact Or.inr h
  have hS : va_S A s.heap s.heap [] := va_S.rf
  have hP : va_P D vwCl ([xObj a tc rc ro, xArr (t 0) (a 1) 30 (xN F), xArr (t 0) (a 2) 30 (xN T), xArr (t 0) (a 3) 30 L, xArr (t 1) (a 4) 30 (xB Z), xArr (t 0) (a 5) 12 E, xArr (t 0) (a 6) 144 B]) s.heap := hP
  have hD : va_D A ([xObj a tc rc ro, xArr (t 0) (a 1) 30 (xN F), xArr (t 0) (a 2) 30 (xN T), xArr (t 0) (a 3) 30 L, xArr (t 1) (a 4) 30 (xB Z), xArr (t 0) (a 5) 12 E, xArr (t 0) (a 6) 144 B]) := hD
  have hl := lv_entry ([.ref (a 0), .int (nI r)]) (n := 3) (Nat.le_of_ble_eq_true rfl)
  rw [lg_entry_eq]
  generalize (lg_sl ([.ref (a 0), .int (nI r)]) ++ List.replicate (3 - (lg_sl ([.ref (a 0), .int (nI r)])).length) Slot.unset).toArray = ls at hl ⊢
  have hl : lv_has ls 3 [(0, .ref (a 0)), (1, .int (nI r))] := hl
  refine lv_aload_n hx hb dX0_tightenOne_0 rfl (lv_at hl 0 rfl) ?_
  refine x0_get (v := .ref (a 3)) hx hb hts hin hown hK hP 0 rfl 4 (by decide) fl_16 rfl dX0_tightenOne_1 rfl ?_
  refine lv_iload_n hx hb dX0_tightenOne_4 rfl (lv_at hl 1 rfl) ?_
  refine x_iald (f := L) hx hb hK hP 3 0 rfl rfl (k := r) (by omega) (Nat.le_of_ble_eq_true rfl) dX0_tightenOne_5 ?_
  refine lv_aload_n hx hb dX0_tightenOne_6 rfl (lv_at hl 0 rfl) ?_
  refine lv_aload_n hx hb dX0_tightenOne_7 rfl (lv_at hl 0 rfl) ?_
  refine x0_get (v := .ref (a 1)) hx hb hts hin hown hK hP 0 rfl 2 (by decide) fl_9 rfl dX0_tightenOne_8 rfl ?_
  refine lv_iload_n hx hb dX0_tightenOne_11 rfl (lv_at hl 1 rfl) ?_
  refine x_iald (f := xN F) hx hb hK hP 1 0 rfl rfl (k := r) (by omega) (Nat.le_of_ble_eq_true rfl) dX0_tightenOne_12 ?_
  refine x_top (w := nI (F r)) rfl ?_
  have hf_1 := hF r (by omega)
  refine lv_aload_n hx hb dX0_tightenOne_13 rfl (lv_at hl 0 rfl) ?_
  refine x0_get (v := .ref (a 2)) hx hb hts hin hown hK hP 0 rfl 3 (by decide) fl_13 rfl dX0_tightenOne_14 rfl ?_
  refine lv_iload_n hx hb dX0_tightenOne_17 rfl (lv_at hl 1 rfl) ?_
  refine x_iald (f := xN T) hx hb hK hP 2 0 rfl rfl (k := r) (by omega) (Nat.le_of_ble_eq_true rfl) dX0_tightenOne_18 ?_
  refine x_top (w := nI (T r)) rfl ?_
  have hf_2 := hF r (by omega)
  refine xr_V (b := a 0) (As := [.int (nI (F r)), .int (nI (T r))]) (rest := [.int (L r)]) ⟨hx, hb, hml, hown, hts⟩ (c_X0_leastLength l D t a tc rc ro B (F r) (T r) (by omega) (by omega)) (cwV 2 hts gX0_tightenOne_X0_leastLength rfl rfl rfl hd_X0_leastLength ⟨Nat.le_of_ble_eq_true rfl, Nat.le_of_ble_eq_true rfl⟩) hK hP (va_recv hK hP (ci := 0) (q0 := 0) rfl rfl) [0, 6] rfl rfl hl.1 rfl (Nat.le_of_ble_eq_true rfl) dX0_tightenOne_19 ⟨(Nat.le_of_ble_eq_true rfl), (Nat.le_of_ble_eq_true rfl)⟩ ?_
  refine lv_isub (x := L r) (y := leastF B (F r) (T r)) hx hb dX0_tightenOne_22 ?_
  refine lv_istore_n (lv' := [(2, .int ((L r) - (leastF B (F r) (T r)))), (0, .ref (a 0)), (1, .int (nI r))]) hx hb dX0_tightenOne_23 rfl hl (by decide) rfl (fun ls hl => ?_)
  refine lv_iload_n hx hb dX0_tightenOne_24 rfl (lv_at hl 0 rfl) ?_
  refine lv_if_le (x := (L r) - (leastF B (F r) (T r))) (tgt := 42) hx hb dX0_tightenOne_25 (by decide) (fun c_3 => ?_) (fun c_3 => ?_)
  · have c_3 := Int32.not_lt.mpr c_3
    refine lv_iload_n hx hb dX0_tightenOne_42 rfl (lv_at hl 0 rfl) ?_
    have e9 : (L, ro, E, B) = tOneS F T Z tc rc r (L, ro, E, B) := by simp [tOneS, tOneD, settF, c_3]
    have hP9 : va_P D vwCl ([xObj a tc rc ((tOneS F T Z tc rc r (L, ro, E, B)).2.1), xArr (t 0) (a 1) 30 (xN F), xArr (t 0) (a 2) 30 (xN T), xArr (t 0) (a 3) 30 ((tOneS F T Z tc rc r (L, ro, E, B)).1), xArr (t 1) (a 4) 30 (xB Z), xArr (t 0) (a 5) 12 ((tOneS F T Z tc rc r (L, ro, E, B)).2.2.1), xArr (t 0) (a 6) 144 ((tOneS F T Z tc rc r (L, ro, E, B)).2.2.2)]) s.heap := by rw [← e9]; exact hP
    have hD9 : va_D A ([xObj a tc rc ((tOneS F T Z tc rc r (L, ro, E, B)).2.1), xArr (t 0) (a 1) 30 (xN F), xArr (t 0) (a 2) 30 (xN T), xArr (t 0) (a 3) 30 ((tOneS F T Z tc rc r (L, ro, E, B)).1), xArr (t 1) (a 4) 30 (xB Z), xArr (t 0) (a 5) 12 ((tOneS F T Z tc rc r (L, ro, E, B)).2.2.1), xArr (t 0) (a 6) 144 ((tOneS F T Z tc rc r (L, ro, E, B)).2.2.2)]) := by rw [← e9]; exact hD
    subst hAe
    obtain ⟨hq9, hf9⟩ := xm_end (S := Unit) (pu := (fun u : Unit => True)) (r := (fun u : Unit => some (.int (tOneD F T r (L, ro, E, B))))) (wc := [xObj a tc rc ro, xArr (t 0) (a 1) 30 (xN F), xArr (t 0) (a 2) 30 (xN T), xArr (t 0) (a 3) 30 L, xArr (t 1) (a 4) 30 (xB Z), xArr (t 0) (a 5) 12 E, xArr (t 0) (a 6) 144 B]) (w1 := (fun u : Unit => [xObj a tc rc ((tOneS F T Z tc rc r (L, ro, E, B)).2.1), xArr (t 0) (a 1) 30 (xN F), xArr (t 0) (a 2) 30 (xN T), xArr (t 0) (a 3) 30 ((tOneS F T Z tc rc r (L, ro, E, B)).1), xArr (t 1) (a 4) 30 (xB Z), xArr (t 0) (a 5) 12 ((tOneS F T Z tc rc r (L, ro, E, B)).2.2.1), xArr (t 0) (a 6) 144 ((tOneS F T Z tc rc r (L, ro, E, B)).2.2.2)])) (o := some (.int ((L r) - (leastF B (F r) (T r))))) (args := ([.ref (a 0), .int (nI r)] : List Value).toArray) () rfl trivial rfl hP9 hD9 hS
    exact W.iret hx hb hr hq9 hf9 dX0_tightenOne_43 hlocks
  · have c_3 := Int32.not_le.mp c_3
    refine lv_aload_n hx hb dX0_tightenOne_28 rfl (lv_at hl 1 rfl) ?_
    refine x0_get (v := .ref (a 3)) hx hb hts hin hown hK hP 0 rfl 4 (by decide) fl_16 rfl dX0_tightenOne_29 rfl ?_
    refine lv_iload_n hx hb dX0_tightenOne_32 rfl (lv_at hl 2 rfl) ?_
    refine lv_dup2_11 hx hb dX0_tightenOne_33 rfl rfl ?_
    refine x_iald (f := L) hx hb hK hP 3 0 rfl rfl (k := r) (by omega) (Nat.le_of_ble_eq_true rfl) dX0_tightenOne_34 ?_
    refine lv_iload_n hx hb dX0_tightenOne_35 rfl (lv_at hl 0 rfl) ?_
    refine lv_isub (x := L r) (y := (L r) - (leastF B (F r) (T r))) hx hb dX0_tightenOne_36 ?_
    refine x_iast (x := (L r) - ((L r) - (leastF B (F r) (T r)))) (f := L) hx hb hK hP hD hS 3 0 ([xObj a tc rc ro, xArr (t 0) (a 1) 30 (xN F), xArr (t 0) (a 2) 30 (xN T), xArr (t 0) (a 3) 30 (upd L r ((L r) - ((L r) - (leastF B (F r) (T r))))), xArr (t 1) (a 4) 30 (xB Z), xArr (t 0) (a 5) 12 E, xArr (t 0) (a 6) 144 B]) rfl rfl (k := r) rfl (by omega) (Nat.le_of_ble_eq_true rfl) dX0_tightenOne_37 (fun H locs hP hD hS => ?_)
    refine lv_aload_n hx hb dX0_tightenOne_38 rfl (lv_at hl 1 rfl) ?_
    refine xm_V (b := a 0) (As := []) (rest := []) (wr := []) ⟨hx, hb, hml, hown, hts⟩ xTrav_T (c_X0_settle l D t a tc rc ro F T (upd L r ((L r) - ((L r) - (leastF B (F r) (T r))))) Z E B _ (by omega) (by omega) hF) (cwV 0 hts gX0_tightenOne_X0_settle rfl rfl rfl hd_X0_settle ⟨Nat.le_of_ble_eq_true rfl, Nat.le_of_ble_eq_true rfl⟩) hK hP hD hS hA (fun _ _ _ => trivial) (va_recv hK hP (ci := 0) (q0 := 0) rfl rfl) [0, 1, 2, 3, 4, 5, 6] [] rfl rfl (by decide) (by decide) (by decide) rfl hl.1 rfl (Nat.le_of_ble_eq_true rfl) dX0_tightenOne_39 ⟨(Nat.le_of_ble_eq_true rfl), (Nat.le_of_ble_eq_true rfl)⟩ (fun u_4 H locs hu hP hD hS hz => ?_)
    have hP : va_P D vwCl ([xObj a tc rc (sRo F T (upd L r ((L r) - ((L r) - (leastF B (F r) (T r))))) Z tc rc E), xArr (t 0) (a 1) 30 (xN F), xArr (t 0) (a 2) 30 (xN T), xArr (t 0) (a 3) 30 (upd L r ((L r) - ((L r) - (leastF B (F r) (T r))))), xArr (t 1) (a 4) 30 (xB Z), xArr (t 0) (a 5) 12 (sE F T (upd L r ((L r) - ((L r) - (leastF B (F r) (T r))))) Z tc rc E), xArr (t 0) (a 6) 144 (sB F T (upd L r ((L r) - ((L r) - (leastF B (F r) (T r))))) Z tc rc E B)]) H := hP
    have hD : va_D _ ([xObj a tc rc (sRo F T (upd L r ((L r) - ((L r) - (leastF B (F r) (T r))))) Z tc rc E), xArr (t 0) (a 1) 30 (xN F), xArr (t 0) (a 2) 30 (xN T), xArr (t 0) (a 3) 30 (upd L r ((L r) - ((L r) - (leastF B (F r) (T r))))), xArr (t 1) (a 4) 30 (xB Z), xArr (t 0) (a 5) 12 (sE F T (upd L r ((L r) - ((L r) - (leastF B (F r) (T r))))) Z tc rc E), xArr (t 0) (a 6) 144 (sB F T (upd L r ((L r) - ((L r) - (leastF B (F r) (T r))))) Z tc rc E B)]) := hD
    refine lv_iload_n hx hb dX0_tightenOne_42 rfl (lv_at hl 0 rfl) ?_
    have e9 : (upd L r ((L r) - ((L r) - (leastF B (F r) (T r)))), sRo F T (upd L r ((L r) - ((L r) - (leastF B (F r) (T r))))) Z tc rc E, sE F T (upd L r ((L r) - ((L r) - (leastF B (F r) (T r))))) Z tc rc E, sB F T (upd L r ((L r) - ((L r) - (leastF B (F r) (T r))))) Z tc rc E B) = tOneS F T Z tc rc r (L, ro, E, B) := by simp [tOneS, tOneD, settF, c_3]
    have hP9 : va_P D vwCl ([xObj a tc rc ((tOneS F T Z tc rc r (L, ro, E, B)).2.1), xArr (t 0) (a 1) 30 (xN F), xArr (t 0) (a 2) 30 (xN T), xArr (t 0) (a 3) 30 ((tOneS F T Z tc rc r (L, ro, E, B)).1), xArr (t 1) (a 4) 30 (xB Z), xArr (t 0) (a 5) 12 ((tOneS F T Z tc rc r (L, ro, E, B)).2.2.1), xArr (t 0) (a 6) 144 ((tOneS F T Z tc rc r (L, ro, E, B)).2.2.2)]) H := by rw [← e9]; exact hP
    have hD9 : va_D A ([xObj a tc rc ((tOneS F T Z tc rc r (L, ro, E, B)).2.1), xArr (t 0) (a 1) 30 (xN F), xArr (t 0) (a 2) 30 (xN T), xArr (t 0) (a 3) 30 ((tOneS F T Z tc rc r (L, ro, E, B)).1), xArr (t 1) (a 4) 30 (xB Z), xArr (t 0) (a 5) 12 ((tOneS F T Z tc rc r (L, ro, E, B)).2.2.1), xArr (t 0) (a 6) 144 ((tOneS F T Z tc rc r (L, ro, E, B)).2.2.2)]) := by rw [← e9]; exact hD
    subst hAe
    obtain ⟨hq9, hf9⟩ := xm_end (S := Unit) (pu := (fun u : Unit => True)) (r := (fun u : Unit => some (.int (tOneD F T r (L, ro, E, B))))) (wc := [xObj a tc rc ro, xArr (t 0) (a 1) 30 (xN F), xArr (t 0) (a 2) 30 (xN T), xArr (t 0) (a 3) 30 L, xArr (t 1) (a 4) 30 (xB Z), xArr (t 0) (a 5) 12 E, xArr (t 0) (a 6) 144 B]) (w1 := (fun u : Unit => [xObj a tc rc ((tOneS F T Z tc rc r (L, ro, E, B)).2.1), xArr (t 0) (a 1) 30 (xN F), xArr (t 0) (a 2) 30 (xN T), xArr (t 0) (a 3) 30 ((tOneS F T Z tc rc r (L, ro, E, B)).1), xArr (t 1) (a 4) 30 (xB Z), xArr (t 0) (a 5) 12 ((tOneS F T Z tc rc r (L, ro, E, B)).2.2.1), xArr (t 0) (a 6) 144 ((tOneS F T Z tc rc r (L, ro, E, B)).2.2.2)])) (o := some (.int ((L r) - (leastF B (F r) (T r))))) (args := ([.ref (a 0), .int (nI r)] : List Value).toArray) () rfl trivial rfl hP9 hD9 hS
    exact W.iret hx hb hr hq9 hf9 dX0_tightenOne_43 hlocks
set_option maxHeartbeats 4000000 in
set_option maxRecDepth 100000 in
theorem c_X0_tighten (l : Launch) (D : va_G) (t : Nat → ClassId) (a : Nat → Nat) (tc rc : Nat) (ro : Int32) (F T : Nat → Nat) (L : Nat → Int32) (Z : Nat → Bool) (E B : Nat → Int32) (sz : Nat) (htc : tc ≤ 12) (hrc : rc ≤ 30) (hF : ∀ r, r < rc → F r < tc ∧ T r < tc) : Met l yX0_tighten wsX0_tighten ({ frames := 6, cells := 0, slots := 0, locals := 134 }) (xMu D (xTy t) (fun _ => True) [.ref (a 0)] [xObj a tc rc ro, xArr (t 0) (a 1) 30 (xN F), xArr (t 0) (a 2) 30 (xN T), xArr (t 0) (a 3) 30 L, xArr (t 1) (a 4) 30 (xB Z), xArr (t 0) (a 5) 12 E, xArr (t 0) (a 6) 144 B] sz) (xQm D (fun u : Unit => True) (fun u : Unit => some (.int ((tightA F T Z tc rc (L, ro, E, B)).1))) [xObj a tc rc ro, xArr (t 0) (a 1) 30 (xN F), xArr (t 0) (a 2) 30 (xN T), xArr (t 0) (a 3) 30 L, xArr (t 1) (a 4) 30 (xB Z), xArr (t 0) (a 5) 12 E, xArr (t 0) (a 6) 144 B] (fun u : Unit => [xObj a tc rc ((tightA F T Z tc rc (L, ro, E, B)).2.2.1), xArr (t 0) (a 1) 30 (xN F), xArr (t 0) (a 2) 30 (xN T), xArr (t 0) (a 3) 30 ((tightA F T Z tc rc (L, ro, E, B)).2.1), xArr (t 1) (a 4) 30 (xB Z), xArr (t 0) (a 5) 12 ((tightA F T Z tc rc (L, ro, E, B)).2.2.2.1), xArr (t 0) (a 6) 144 ((tightA F T Z tc rc (L, ro, E, B)).2.2.2.2)]) sz) 0 0 (va_A [xObj a tc rc ro, xArr (t 0) (a 1) 30 (xN F), xArr (t 0) (a 2) 30 (xN T), xArr (t 0) (a 3) 30 L, xArr (t 1) (a 4) 30 (xB Z), xArr (t 0) (a 5) 12 E, xArr (t 0) (a 6) 144 B] sz) := by
  refine Met.ofW (cc := cX0_tighten) (maxL := 3) (ret := (some .int)) (by decide) rfl ?_
  intro p e s m args below meth c s₁ hB9 hml hv
  obtain ⟨rfl, hsz, hP, hK, hD0, hXX⟩ := hv
  have hx := hB9.exec
  have hb := hB9.bytes
  have hr := hB9.returns
  have hts := atoms_spec (ws := wsX0_tighten) hB9.pre
  have hown : s.vm.findClass RX0 = some m.cls := findClass_of_methodNamed hB9.named
  have hlocks := hB9.notSynchronized
  have hin : ∀ w ∈ wsX00, w ∈ wsX0_tighten := fun _ h => List.mem_cons_of_mem _ (List.mem_append_right _ h)
  have fl_63 := hts (.fieldLink RX0 63 "RopeTimes" "ropeCount" "I") (by decide +kernel)
  have fl_19 := hts (.fieldLink RX0 19 "RopeTimes" "tied" "[Z") (by decide +kernel)
  subst hsz
  have hD := hD0.self (sz := s.heap.size)
  generalize hAe : va_A ([xObj a tc rc ro, xArr (t 0) (a 1) 30 (xN F), xArr (t 0) (a 2) 30 (xN T), xArr (t 0) (a 3) 30 L, xArr (t 1) (a 4) 30 (xB Z), xArr (t 0) (a 5) 12 E, xArr (t 0) (a 6) 144 B]) s.heap.size = A at hD ⊢
  have hA : ∀ q : Nat, s.heap.size ≤ q → A q := fun q h => by rw [← hAe]; exact Or.inr h
  have hS : va_S A s.heap s.heap [] := va_S.rf
  have hP : va_P D vwCl ([xObj a tc rc ro, xArr (t 0) (a 1) 30 (xN F), xArr (t 0) (a 2) 30 (xN T), xArr (t 0) (a 3) 30 L, xArr (t 1) (a 4) 30 (xB Z), xArr (t 0) (a 5) 12 E, xArr (t 0) (a 6) 144 B]) s.heap := hP
  have hD : va_D A ([xObj a tc rc ro, xArr (t 0) (a 1) 30 (xN F), xArr (t 0) (a 2) 30 (xN T), xArr (t 0) (a 3) 30 L, xArr (t 1) (a 4) 30 (xB Z), xArr (t 0) (a 5) 12 E, xArr (t 0) (a 6) 144 B]) := hD
  have hl := lv_entry ([.ref (a 0)]) (n := 3) (Nat.le_of_ble_eq_true rfl)
  rw [lg_entry_eq]
  generalize (lg_sl ([.ref (a 0)]) ++ List.replicate (3 - (lg_sl ([.ref (a 0)])).length) Slot.unset).toArray = ls at hl ⊢
  have hl : lv_has ls 3 [(0, .ref (a 0))] := hl
  refine lv_aload_n hx hb dX0_tighten_0 rfl (lv_at hl 0 rfl) ?_
  refine xr_V (b := a 0) (As := []) (rest := []) ⟨hx, hb, hml, hown, hts⟩ (c_X0_isPossible l D t a tc rc ro) (cwV 0 hts gX0_tighten_X0_isPossible rfl rfl rfl hd_X0_isPossible ⟨Nat.le_of_ble_eq_true rfl, Nat.le_of_ble_eq_true rfl⟩) hK hP (va_recv hK hP (ci := 0) (q0 := 0) rfl rfl) [0] rfl rfl hl.1 rfl (Nat.le_of_ble_eq_true rfl) dX0_tighten_1 ⟨(Nat.le_of_ble_eq_true rfl), (Nat.le_of_ble_eq_true rfl)⟩ ?_
  refine lv_if_ne (x := bI (decide (¬ ro = -1))) (tgt := 9) hx hb dX0_tighten_4 (by decide) (fun c_1 => ?_) (fun c_1 => ?_)
  · have c_1 := of_decide_eq_true (bI_n0 c_1)
    refine lv_iconst (v := 0) hx hb dX0_tighten_9 (by decide) ?_
    refine lv_istore_n (lv' := [(1, .int 0), (0, .ref (a 0))]) hx hb dX0_tighten_10 rfl hl (by decide) rfl (fun ls hl => ?_)
    refine lv_iconst (v := 0) hx hb dX0_tighten_11 (by decide) ?_
    refine lv_istore_n (lv' := [(2, .int 0), (1, .int 0), (0, .ref (a 0))]) hx hb dX0_tighten_12 rfl hl (by decide) rfl (fun ls hl => ?_)
    have lp_13 : ∀ (n13 : Nat) (r : Nat) (sm : Int32) (L1 : Nat → Int32) (ro1 : Int32) (E1 : Nat → Int32) (B1 : Nat → Int32), r + n13 = rc → tAll F T Z tc rc n13 r sm (L1, ro1, E1, B1) = tAll F T Z tc rc rc 0 0 (L, ro, E, B) → ∀ (H : Heap) (locs : List Loc), va_P D vwCl ([xObj a tc rc ro1, xArr (t 0) (a 1) 30 (xN F), xArr (t 0) (a 2) 30 (xN T), xArr (t 0) (a 3) 30 L1, xArr (t 1) (a 4) 30 (xB Z), xArr (t 0) (a 5) 12 E1, xArr (t 0) (a 6) 144 B1]) H → va_D A ([xObj a tc rc ro1, xArr (t 0) (a 1) 30 (xN F), xArr (t 0) (a 2) 30 (xN T), xArr (t 0) (a 3) 30 L1, xArr (t 1) (a 4) 30 (xB Z), xArr (t 0) (a 5) 12 E1, xArr (t 0) (a 6) 144 B1]) → va_S A s.heap H locs → ∀ ls : Array Slot, lv_has ls 3 [(2, .int (nI r)), (1, .int sm), (0, .ref (a 0))] → W p l e (headSpec wsX0_tighten ({ frames := 6, cells := 0, slots := 0, locals := 134 } : Jvm.Room)).room s m (([.ref (a 0)] : List Value).toArray) below meth c H locs 0 0 (MQ below (xQm D (fun u : Unit => True) (fun u : Unit => some (.int ((tightA F T Z tc rc (L, ro, E, B)).1))) [xObj a tc rc ro, xArr (t 0) (a 1) 30 (xN F), xArr (t 0) (a 2) 30 (xN T), xArr (t 0) (a 3) 30 L, xArr (t 1) (a 4) 30 (xB Z), xArr (t 0) (a 5) 12 E, xArr (t 0) (a 6) 144 B] (fun u : Unit => [xObj a tc rc ((tightA F T Z tc rc (L, ro, E, B)).2.2.1), xArr (t 0) (a 1) 30 (xN F), xArr (t 0) (a 2) 30 (xN T), xArr (t 0) (a 3) 30 ((tightA F T Z tc rc (L, ro, E, B)).2.1), xArr (t 1) (a 4) 30 (xB Z), xArr (t 0) (a 5) 12 ((tightA F T Z tc rc (L, ro, E, B)).2.2.2.1), xArr (t 0) (a 6) 144 ((tightA F T Z tc rc (L, ro, E, B)).2.2.2.2)]) s.heap.size) (([.ref (a 0)] : List Value).toArray) s 0 0 A) (F0 m 13 ls []) := by
      intro n13
      induction n13 using Nat.strongRecOn with
      | _ n13 ih_13 =>
        intro r sm L1 ro1 E1 B1 hm_13 hfin_13 H locs hP hD hS ls hl
        refine lv_iload_n hx hb dX0_tighten_13 rfl (lv_at hl 0 rfl) ?_
        refine lv_aload_n hx hb dX0_tighten_14 rfl (lv_at hl 2 rfl) ?_
        refine x0_get (v := .int (nI rc)) hx hb hts hin hown hK hP 0 rfl 1 (by decide) fl_63 rfl dX0_tighten_15 rfl ?_
        refine lv_icmp_ge (x := nI r) (y := nI rc) (tgt := 44) hx hb dX0_tighten_18 (by decide) (fun c_2 => ?_) (fun c_2 => ?_)
        · have c_2 := (nI_leI (a := rc) (b := r) (by omega) (by omega)).mp c_2
          have hn0_13 : n13 = 0 := by omega
          subst hn0_13
          obtain rfl : sm = (tAll F T Z tc rc rc 0 0 (L, ro, E, B)).1 := congrArg (fun z => z.1) hfin_13
          obtain rfl : L1 = (tAll F T Z tc rc rc 0 0 (L, ro, E, B)).2.1 := congrArg (fun z => z.2.1) hfin_13
          obtain rfl : ro1 = (tAll F T Z tc rc rc 0 0 (L, ro, E, B)).2.2.1 := congrArg (fun z => z.2.2.1) hfin_13
          obtain rfl : E1 = (tAll F T Z tc rc rc 0 0 (L, ro, E, B)).2.2.2.1 := congrArg (fun z => z.2.2.2.1) hfin_13
          obtain rfl : B1 = (tAll F T Z tc rc rc 0 0 (L, ro, E, B)).2.2.2.2 := congrArg (fun z => z.2.2.2.2) hfin_13
          refine lv_iload_n hx hb dX0_tighten_44 rfl (lv_at hl 1 rfl) ?_
          have e9 : ((tAll F T Z tc rc rc 0 0 (L, ro, E, B)).1, (tAll F T Z tc rc rc 0 0 (L, ro, E, B)).2.1, (tAll F T Z tc rc rc 0 0 (L, ro, E, B)).2.2.1, (tAll F T Z tc rc rc 0 0 (L, ro, E, B)).2.2.2.1, (tAll F T Z tc rc rc 0 0 (L, ro, E, B)).2.2.2.2) = tightA F T Z tc rc (L, ro, E, B) := by simp [tightA, c_1, c_2, Nat.not_lt.mpr c_2]
          have hP9 : va_P D vwCl ([xObj a tc rc ((tightA F T Z tc rc (L, ro, E, B)).2.2.1), xArr (t 0) (a 1) 30 (xN F), xArr (t 0) (a 2) 30 (xN T), xArr (t 0) (a 3) 30 ((tightA F T Z tc rc (L, ro, E, B)).2.1), xArr (t 1) (a 4) 30 (xB Z), xArr (t 0) (a 5) 12 ((tightA F T Z tc rc (L, ro, E, B)).2.2.2.1), xArr (t 0) (a 6) 144 ((tightA F T Z tc rc (L, ro, E, B)).2.2.2.2)]) H := by rw [← e9]; exact hP
          have hD9 : va_D A ([xObj a tc rc ((tightA F T Z tc rc (L, ro, E, B)).2.2.1), xArr (t 0) (a 1) 30 (xN F), xArr (t 0) (a 2) 30 (xN T), xArr (t 0) (a 3) 30 ((tightA F T Z tc rc (L, ro, E, B)).2.1), xArr (t 1) (a 4) 30 (xB Z), xArr (t 0) (a 5) 12 ((tightA F T Z tc rc (L, ro, E, B)).2.2.2.1), xArr (t 0) (a 6) 144 ((tightA F T Z tc rc (L, ro, E, B)).2.2.2.2)]) := by rw [← e9]; exact hD
          subst hAe
          obtain ⟨hq9, hf9⟩ := xm_end (S := Unit) (pu := (fun u : Unit => True)) (r := (fun u : Unit => some (.int ((tightA F T Z tc rc (L, ro, E, B)).1)))) (wc := [xObj a tc rc ro, xArr (t 0) (a 1) 30 (xN F), xArr (t 0) (a 2) 30 (xN T), xArr (t 0) (a 3) 30 L, xArr (t 1) (a 4) 30 (xB Z), xArr (t 0) (a 5) 12 E, xArr (t 0) (a 6) 144 B]) (w1 := (fun u : Unit => [xObj a tc rc ((tightA F T Z tc rc (L, ro, E, B)).2.2.1), xArr (t 0) (a 1) 30 (xN F), xArr (t 0) (a 2) 30 (xN T), xArr (t 0) (a 3) 30 ((tightA F T Z tc rc (L, ro, E, B)).2.1), xArr (t 1) (a 4) 30 (xB Z), xArr (t 0) (a 5) 12 ((tightA F T Z tc rc (L, ro, E, B)).2.2.2.1), xArr (t 0) (a 6) 144 ((tightA F T Z tc rc (L, ro, E, B)).2.2.2.2)])) (o := some (.int ((tAll F T Z tc rc rc 0 0 (L, ro, E, B)).1))) (args := ([.ref (a 0)] : List Value).toArray) () rfl trivial (by rw [← e9]) hP9 hD9 hS
          exact W.iret hx hb hr hq9 hf9 dX0_tighten_45 hlocks
        · have c_2 : r < rc := Nat.lt_of_not_le (fun z9 => c_2 ((nI_leI (a := rc) (b := r) (by omega) (by omega)).mpr z9))
          obtain ⟨n139, rfl⟩ : ∃ z, n13 = z + 1 := ⟨n13 - 1, by omega⟩
          refine lv_aload_n hx hb dX0_tighten_21 rfl (lv_at hl 2 rfl) ?_
          refine x0_get (v := .ref (a 4)) hx hb hts hin hown hK hP 0 rfl 5 (by decide) fl_19 rfl dX0_tighten_22 rfl ?_
          refine lv_iload_n hx hb dX0_tighten_25 rfl (lv_at hl 0 rfl) ?_
          refine x_zald (f := xB Z) hx hb hK hP 4 1 rfl rfl (k := r) (by omega) (Nat.le_of_ble_eq_true rfl) dX0_tighten_26 ?_
          refine x_top (w := bI (Z r)) rfl ?_
          refine lv_if_eq (x := bI (Z r)) (tgt := 38) hx hb dX0_tighten_27 (by decide) (fun c_3 => ?_) (fun c_3 => ?_)
          · have c_3 := bI_0 c_3
            refine lv_iinc (v := nI (r + 1)) (lv' := [(2, .int (nI (r + 1))), (1, .int sm), (0, .ref (a 0))]) hx hb dX0_tighten_38 hl (k := 0) rfl (x_inc _) (by decide) rfl (fun ls hl => ?_)
            refine lv_goto (tgt := 13) hx hb dX0_tighten_41 (by decide) ?_
            exact ih_13 n139 (by omega) (r + 1) sm L1 ro1 E1 B1 (by omega) (by rw [← hfin_13]; simp [tAll, c_1, c_2, c_3]) _ _ hP hD hS _ (lv_sub hl [0, 1, 2] rfl)
          · have c_3 := bI_n0 c_3
            refine lv_iload_n hx hb dX0_tighten_30 rfl (lv_at hl 1 rfl) ?_
            refine lv_aload_n hx hb dX0_tighten_31 rfl (lv_at hl 2 rfl) ?_
            refine lv_iload_n hx hb dX0_tighten_32 rfl (lv_at hl 0 rfl) ?_
            refine xm_V (b := a 0) (As := [.int (nI r)]) (rest := [.int sm]) (wr := []) ⟨hx, hb, hml, hown, hts⟩ xTrav_T (c_X0_tightenOne l D t a tc rc ro1 F T L1 Z E1 B1 r _ (by omega) (by omega) hF (by omega)) (cwV 1 hts gX0_tighten_X0_tightenOne rfl rfl rfl hd_X0_tightenOne ⟨Nat.le_of_ble_eq_true rfl, Nat.le_of_ble_eq_true rfl⟩) hK hP hD hS hA (fun _ _ _ => trivial) (va_recv hK hP (ci := 0) (q0 := 0) rfl rfl) [0, 1, 2, 3, 4, 5, 6] [] rfl rfl (by decide) (by decide) (by decide) rfl hl.1 rfl (Nat.le_of_ble_eq_true rfl) dX0_tighten_33 ⟨(Nat.le_of_ble_eq_true rfl), (Nat.le_of_ble_eq_true rfl)⟩ (fun u_4 H locs hu hP hD hS hz => ?_)
            have hP : va_P D vwCl ([xObj a tc rc ((tOneS F T Z tc rc r (L1, ro1, E1, B1)).2.1), xArr (t 0) (a 1) 30 (xN F), xArr (t 0) (a 2) 30 (xN T), xArr (t 0) (a 3) 30 ((tOneS F T Z tc rc r (L1, ro1, E1, B1)).1), xArr (t 1) (a 4) 30 (xB Z), xArr (t 0) (a 5) 12 ((tOneS F T Z tc rc r (L1, ro1, E1, B1)).2.2.1), xArr (t 0) (a 6) 144 ((tOneS F T Z tc rc r (L1, ro1, E1, B1)).2.2.2)]) H := hP
            have hD : va_D _ ([xObj a tc rc ((tOneS F T Z tc rc r (L1, ro1, E1, B1)).2.1), xArr (t 0) (a 1) 30 (xN F), xArr (t 0) (a 2) 30 (xN T), xArr (t 0) (a 3) 30 ((tOneS F T Z tc rc r (L1, ro1, E1, B1)).1), xArr (t 1) (a 4) 30 (xB Z), xArr (t 0) (a 5) 12 ((tOneS F T Z tc rc r (L1, ro1, E1, B1)).2.2.1), xArr (t 0) (a 6) 144 ((tOneS F T Z tc rc r (L1, ro1, E1, B1)).2.2.2)]) := hD
            refine lv_iadd (x := sm) (y := tOneD F T r (L1, ro1, E1, B1)) hx hb dX0_tighten_36 ?_
            refine lv_istore_n (lv' := [(1, .int (sm + (tOneD F T r (L1, ro1, E1, B1)))), (2, .int (nI r)), (0, .ref (a 0))]) hx hb dX0_tighten_37 rfl hl (by decide) rfl (fun ls hl => ?_)
            refine lv_iinc (v := nI (r + 1)) (lv' := [(2, .int (nI (r + 1))), (1, .int (sm + (tOneD F T r (L1, ro1, E1, B1)))), (0, .ref (a 0))]) hx hb dX0_tighten_38 hl (k := 1) rfl (x_inc _) (by decide) rfl (fun ls hl => ?_)
            refine lv_goto (tgt := 13) hx hb dX0_tighten_41 (by decide) ?_
            exact ih_13 n139 (by omega) (r + 1) (sm + (tOneD F T r (L1, ro1, E1, B1))) ((tOneS F T Z tc rc r (L1, ro1, E1, B1)).1) ((tOneS F T Z tc rc r (L1, ro1, E1, B1)).2.1) ((tOneS F T Z tc rc r (L1, ro1, E1, B1)).2.2.1) ((tOneS F T Z tc rc r (L1, ro1, E1, B1)).2.2.2) (by omega) (by rw [← hfin_13]; simp [tAll, c_1, c_2, c_3]) _ _ hP hD hS _ (lv_sub hl [0, 1, 2] rfl)
    exact lp_13 rc 0 0 L ro E B (by omega) rfl _ _ hP hD hS _ (lv_sub hl [0, 1, 2] rfl)
  · have c_1 := Classical.not_not.mp (of_decide_eq_false (bI_0 c_1))
    refine lv_iconst (v := 0) hx hb dX0_tighten_7 (by decide) ?_
    have e9 : (0, L, ro, E, B) = tightA F T Z tc rc (L, ro, E, B) := by simp [tightA, c_1]
    have hP9 : va_P D vwCl ([xObj a tc rc ((tightA F T Z tc rc (L, ro, E, B)).2.2.1), xArr (t 0) (a 1) 30 (xN F), xArr (t 0) (a 2) 30 (xN T), xArr (t 0) (a 3) 30 ((tightA F T Z tc rc (L, ro, E, B)).2.1), xArr (t 1) (a 4) 30 (xB Z), xArr (t 0) (a 5) 12 ((tightA F T Z tc rc (L, ro, E, B)).2.2.2.1), xArr (t 0) (a 6) 144 ((tightA F T Z tc rc (L, ro, E, B)).2.2.2.2)]) s.heap := by rw [← e9]; exact hP
    have hD9 : va_D A ([xObj a tc rc ((tightA F T Z tc rc (L, ro, E, B)).2.2.1), xArr (t 0) (a 1) 30 (xN F), xArr (t 0) (a 2) 30 (xN T), xArr (t 0) (a 3) 30 ((tightA F T Z tc rc (L, ro, E, B)).2.1), xArr (t 1) (a 4) 30 (xB Z), xArr (t 0) (a 5) 12 ((tightA F T Z tc rc (L, ro, E, B)).2.2.2.1), xArr (t 0) (a 6) 144 ((tightA F T Z tc rc (L, ro, E, B)).2.2.2.2)]) := by rw [← e9]; exact hD
    subst hAe
    obtain ⟨hq9, hf9⟩ := xm_end (S := Unit) (pu := (fun u : Unit => True)) (r := (fun u : Unit => some (.int ((tightA F T Z tc rc (L, ro, E, B)).1)))) (wc := [xObj a tc rc ro, xArr (t 0) (a 1) 30 (xN F), xArr (t 0) (a 2) 30 (xN T), xArr (t 0) (a 3) 30 L, xArr (t 1) (a 4) 30 (xB Z), xArr (t 0) (a 5) 12 E, xArr (t 0) (a 6) 144 B]) (w1 := (fun u : Unit => [xObj a tc rc ((tightA F T Z tc rc (L, ro, E, B)).2.2.1), xArr (t 0) (a 1) 30 (xN F), xArr (t 0) (a 2) 30 (xN T), xArr (t 0) (a 3) 30 ((tightA F T Z tc rc (L, ro, E, B)).2.1), xArr (t 1) (a 4) 30 (xB Z), xArr (t 0) (a 5) 12 ((tightA F T Z tc rc (L, ro, E, B)).2.2.2.1), xArr (t 0) (a 6) 144 ((tightA F T Z tc rc (L, ro, E, B)).2.2.2.2)])) (o := some (.int 0)) (args := ([.ref (a 0)] : List Value).toArray) () rfl trivial (by rw [← e9]) hP9 hD9 hS
    exact W.iret hx hb hr hq9 hf9 dX0_tighten_8 hlocks
