theorem hd_X1_late : yX1_late.cls = RX1 ∧ yX1_late.cls ≠ "java/lang/invoke/MethodHandle" ∧ yX1_late.cls ≠ "java/lang/invoke/VarHandle" ∧ (parseMethodDescriptor yX1_late.desc).map (fun d => d.parameters.length) = some 2 := by decide +kernel
theorem hd_X1_at : yX1_at.cls = RX1 ∧ yX1_at.cls ≠ "java/lang/invoke/MethodHandle" ∧ yX1_at.cls ≠ "java/lang/invoke/VarHandle" ∧ (parseMethodDescriptor yX1_at.desc).map (fun d => d.parameters.length) = some 1 := by decide +kernel
theorem hd_X1_turn : yX1_turn.cls = RX1 ∧ yX1_turn.cls ≠ "java/lang/invoke/MethodHandle" ∧ yX1_turn.cls ≠ "java/lang/invoke/VarHandle" ∧ (parseMethodDescriptor yX1_turn.desc).map (fun d => d.parameters.length) = some 0 := by decide +kernel
theorem hd_X1_tie : yX1_tie.cls = RX1 ∧ yX1_tie.cls ≠ "java/lang/invoke/MethodHandle" ∧ yX1_tie.cls ≠ "java/lang/invoke/VarHandle" ∧ (parseMethodDescriptor yX1_tie.desc).map (fun d => d.parameters.length) = some 3 := by decide +kernel
theorem hd_X1_cut : yX1_cut.cls = RX1 ∧ yX1_cut.cls ≠ "java/lang/invoke/MethodHandle" ∧ yX1_cut.cls ≠ "java/lang/invoke/VarHandle" ∧ (parseMethodDescriptor yX1_cut.desc).map (fun d => d.parameters.length) = some 2 := by decide +kernel
theorem hd_X1_knot : yX1_knot.cls = RX1 ∧ yX1_knot.cls ≠ "java/lang/invoke/MethodHandle" ∧ yX1_knot.cls ≠ "java/lang/invoke/VarHandle" ∧ (parseMethodDescriptor yX1_knot.desc).map (fun d => d.parameters.length) = some 1 := by decide +kernel
theorem hd_X1_tighten : yX1_tighten.cls = RX1 ∧ yX1_tighten.cls ≠ "java/lang/invoke/MethodHandle" ∧ yX1_tighten.cls ≠ "java/lang/invoke/VarHandle" ∧ (parseMethodDescriptor yX1_tighten.desc).map (fun d => d.parameters.length) = some 0 := by decide +kernel
theorem hd_X1_would : yX1_would.cls = RX1 ∧ yX1_would.cls ≠ "java/lang/invoke/MethodHandle" ∧ yX1_would.cls ≠ "java/lang/invoke/VarHandle" ∧ (parseMethodDescriptor yX1_would.desc).map (fun d => d.parameters.length) = some 3 := by decide +kernel
theorem hd_X1_holds : yX1_holds.cls = RX1 ∧ yX1_holds.cls ≠ "java/lang/invoke/MethodHandle" ∧ yX1_holds.cls ≠ "java/lang/invoke/VarHandle" ∧ (parseMethodDescriptor yX1_holds.desc).map (fun d => d.parameters.length) = some 0 := by decide +kernel
theorem hd_X1_advise : yX1_advise.cls = RX1 ∧ yX1_advise.cls ≠ "java/lang/invoke/MethodHandle" ∧ yX1_advise.cls ≠ "java/lang/invoke/VarHandle" ∧ (parseMethodDescriptor yX1_advise.desc).map (fun d => d.parameters.length) = some 0 := by decide +kernel
theorem hd_X1_mean : yX1_mean.cls = RX1 ∧ yX1_mean.cls ≠ "java/lang/invoke/MethodHandle" ∧ yX1_mean.cls ≠ "java/lang/invoke/VarHandle" ∧ (parseMethodDescriptor yX1_mean.desc).map (fun d => d.parameters.length) = some 0 := by decide +kernel
theorem hd_X1_digest : yX1_digest.cls = RX1 ∧ yX1_digest.cls ≠ "java/lang/invoke/MethodHandle" ∧ yX1_digest.cls ≠ "java/lang/invoke/VarHandle" ∧ (parseMethodDescriptor yX1_digest.desc).map (fun d => d.parameters.length) = some 0 := by decide +kernel
set_option maxHeartbeats 4000000 in
set_option maxRecDepth 100000 in
theorem c_X1_late (l : Launch) (D : va_G) (t : Nat → ClassId) (b : Nat → Nat) (th : Int32) (tc rc : Nat) (F T : Nat → Nat) (L : Nat → Int32) (Z : Nat → Bool) (p0 p1 : Int32) (sz : Nat) (htc : tc ≤ 12) (hrc : rc ≤ 30) (hF : ∀ r, r < rc → F r < tc ∧ T r < tc) : Met l yX1_late wsX1_late ({ frames := 3, cells := 14, slots := 169, locals := 68 }) (xMu D (xTy t) (va_AOA .int) [.ref (b 0), .int p0, .int p1] [xMod b th tc rc, xArr (t 0) (b 1) 120 (mkM F T L Z)] sz) (xQm D (fun u : Unit => True) (fun u : Unit => some (.int (if kLate tc (earM F T L Z tc rc 12) (earM F T L Z tc rc) p0 p1 = 0 then p1 + lateG (wayM F T L Z tc rc) (ix p0) tc 0 0 else 0))) [xMod b th tc rc, xArr (t 0) (b 1) 120 (mkM F T L Z)] (fun u : Unit => [xMod b (nI (kLate tc (earM F T L Z tc rc 12) (earM F T L Z tc rc) p0 p1)) tc rc, xArr (t 0) (b 1) 120 (mkM F T L Z)]) sz) 14 169 (va_A [xMod b th tc rc, xArr (t 0) (b 1) 120 (mkM F T L Z)] sz) := by
  refine Met.ofW (cc := cX1_late) (maxL := 7) (ret := (some .int)) (by decide) rfl ?_
  intro p e s m args below meth c s₁ hB9 hml hv
  obtain ⟨rfl, hsz, hP, hK, hD0, hXX⟩ := hv
  have hx := hB9.exec
  have hb := hB9.bytes
  have hr := hB9.returns
  have hts := atoms_spec (ws := wsX1_late) hB9.pre
  have hown : s.vm.findClass RX1 = some m.cls := findClass_of_methodNamed hB9.named
  have hlocks := hB9.notSynchronized
  have hin : ∀ w ∈ wsX10, w ∈ wsX1_late := fun _ h => List.mem_cons_of_mem _ (List.mem_append_right _ h)
  have fl_13 := hts (.fieldLink RX1 13 "RopeTimesModel" "thrown" "I") (by decide +kernel)
  have fl_17 := hts (.fieldLink RX1 17 "RopeTimesModel" "turns" "I") (by decide +kernel)
  have ml_51 := hts (.methodLink RX1 51 Lib.Math.min.name) (by decide +kernel)
  have ms_min := hts (.static Lib.Math.min.name) (by decide +kernel)
  have mc_min := hts (.code Lib.Math.min.name Lib.Math.min.code 2 (some .int)) (by decide +kernel)
  have mi_Math := hts (.initialized "java/lang/Math") (by decide +kernel)
  subst hsz
  have hD := hD0.self (sz := s.heap.size)
  generalize hAe : va_A ([xMod b th tc rc, xArr (t 0) (b 1) 120 (mkM F T L Z)]) s.heap.size = A at hD ⊢
  have hA : ∀ q : Nat, s.heap.size ≤ q → A q := fun q h => by rw [← hAe]; exact Or.inr h
  have hS : va_S A s.heap s.heap [] := va_S.rf
  have hP : va_P D vwCl ([xMod b th tc rc, xArr (t 0) (b 1) 120 (mkM F T L Z)]) s.heap := hP
  have hD : va_D A ([xMod b th tc rc, xArr (t 0) (b 1) 120 (mkM F T L Z)]) := hD
  have hl := lv_entry ([.ref (b 0), .int p0, .int p1]) (n := 7) (Nat.le_of_ble_eq_true rfl)
  rw [lg_entry_eq]
  generalize (lg_sl ([.ref (b 0), .int p0, .int p1]) ++ List.replicate (7 - (lg_sl ([.ref (b 0), .int p0, .int p1])).length) Slot.unset).toArray = ls at hl ⊢
  have hl : lv_has ls 7 [(0, .ref (b 0)), (1, .int p0), (2, .int p1)] := hl
  refine lv_aload_n hx hb dX1_late_0 rfl (lv_at hl 0 rfl) ?_
  refine lv_iconst (v := 0) hx hb dX1_late_1 (by decide) ?_
  refine x1_put (x := 0) hx hb hts hin hown hK hP hD hS 0 ([xMod b 0 tc rc, xArr (t 0) (b 1) 120 (mkM F T L Z)]) rfl 0 (by decide) fl_13 rfl rfl (Nat.le_of_ble_eq_true rfl) rfl dX1_late_2 rfl (fun H locs hP hD hS => ?_)
  refine lv_aload_n hx hb dX1_late_5 rfl (lv_at hl 0 rfl) ?_
  refine lv_iload_n hx hb dX1_late_6 rfl (lv_at hl 1 rfl) ?_
  refine xr_V (b := b 0) (As := [.int p0]) (rest := []) ⟨hx, hb, hml, hown, hts⟩ (c_X1_isTurn l D t b 0 tc rc p0 (by omega)) (cwV 1 hts gX1_late_X1_isTurn rfl rfl rfl hd_X1_isTurn ⟨Nat.le_of_ble_eq_true rfl, Nat.le_of_ble_eq_true rfl⟩) hK hP (va_recv hK hP (ci := 1) (q0 := 0) rfl rfl) [0] rfl rfl hl.1 rfl (Nat.le_of_ble_eq_true rfl) dX1_late_7 ⟨(Nat.le_of_ble_eq_true rfl), (Nat.le_of_ble_eq_true rfl)⟩ ?_
  refine lv_if_ne (x := bI (inB p0 tc)) (tgt := 19) hx hb dX1_late_10 (by decide) (fun c_1 => ?_) (fun c_1 => ?_)
  · have c_1 := bI_n0 c_1
    obtain ⟨k_2, hk_2, ek_2⟩ := inB_of c_1 (by omega)
    have eik_2 : ix p0 = k_2 := by rw [ek_2]; exact ix_nI (by omega)
    have hl : lv_has ls 7 [(0, .ref (b 0)), (1, .int (nI k_2)), (2, .int p1)] := by rw [← ek_2]; exact hl
    refine lv_iload_n hx hb dX1_late_19 rfl (lv_at hl 2 rfl) ?_
    refine lv_iconst (v := 0) hx hb dX1_late_20 (by decide) ?_
    refine lv_sipush (v := 9999) hx hb dX1_late_21 (by decide) ?_
    refine xr_S (As := [.int p1, .int 0, .int 9999]) (rest := []) ⟨hx, hb, hml, hown, hts⟩ (c_X1_isIn l D t p1 0 9999) (va_cwS 3 hts gX1_late_X1_isIn rfl rfl rfl hd_X1_isIn ⟨Nat.le_of_ble_eq_true rfl, Nat.le_of_ble_eq_true rfl⟩) hK hP [] rfl rfl hl.1 rfl (Nat.le_of_ble_eq_true rfl) dX1_late_24 ⟨(Nat.le_of_ble_eq_true rfl), (Nat.le_of_ble_eq_true rfl)⟩ ?_
    refine x_top (w := bI (endB p1)) rfl ?_
    refine lv_if_ne (x := bI (endB p1)) (tgt := 36) hx hb dX1_late_27 (by decide) (fun c_3 => ?_) (fun c_3 => ?_)
    · have c_3 := bI_n0 c_3
      refine lv_aload_n hx hb dX1_late_36 rfl (lv_at hl 0 rfl) ?_
      refine xm_V (b := b 0) (As := []) (rest := []) (wr := []) ⟨hx, hb, hml, hown, hts⟩ aoT (c_X1_earliest l D t b 0 tc rc F T L Z _ (by omega) (by omega) hF) (cwV 0 hts gX1_late_X1_earliest rfl rfl rfl hd_X1_earliest ⟨Nat.le_of_ble_eq_true rfl, Nat.le_of_ble_eq_true rfl⟩) hK hP hD hS hA (fun U hW _ => va_AOA.moved hW.alike hXX) (va_recv hK hP (ci := 1) (q0 := 0) rfl rfl) [0, 1] [] rfl rfl (by decide) (by decide) (by decide) rfl hl.1 rfl (Nat.le_of_ble_eq_true rfl) dX1_late_37 ⟨(Nat.le_of_ble_eq_true rfl), (Nat.le_of_ble_eq_true rfl)⟩ (fun u_4 H locs hu hP hD hS hz => ?_)
      have hP : va_P D vwCl ([xMod b 0 tc rc, xArr (t 0) (b 1) 120 (mkM F T L Z), xArr (t 0) u_4 13 (earM F T L Z tc rc)]) H := hP
      have hD : va_D _ ([xMod b 0 tc rc, xArr (t 0) (b 1) 120 (mkM F T L Z), xArr (t 0) u_4 13 (earM F T L Z tc rc)]) := hD
      refine lv_astore_n (lv' := [(3, .ref u_4), (0, .ref (b 0)), (1, .int (nI k_2)), (2, .int p1)]) hx hb dX1_late_40 rfl hl (by decide) rfl (fun ls hl => ?_)
      refine lv_aload_n hx hb dX1_late_41 rfl (lv_at hl 1 rfl) ?_
      refine lv_aload_n hx hb dX1_late_42 rfl (lv_at hl 0 rfl) ?_
      refine xr_V (b := b 0) (As := [.ref u_4]) (rest := []) ⟨hx, hb, hml, hown, hts⟩ (c_X1_isFound l D t b 0 tc rc u_4 (earM F T L Z tc rc)) (cwV 1 hts gX1_late_X1_isFound rfl rfl rfl hd_X1_isFound ⟨Nat.le_of_ble_eq_true rfl, Nat.le_of_ble_eq_true rfl⟩) hK hP (va_recv hK hP (ci := 1) (q0 := 0) rfl rfl) [0, 2] rfl rfl hl.1 rfl (Nat.le_of_ble_eq_true rfl) dX1_late_43 ⟨(Nat.le_of_ble_eq_true rfl), (Nat.le_of_ble_eq_true rfl)⟩ ?_
      refine lv_if_eq (x := bI (decide (¬ (earM F T L Z tc rc) 12 = -1))) (tgt := 58) hx hb dX1_late_46 (by decide) (fun c_5 => ?_) (fun c_5 => ?_)
      · have c_5 := Classical.not_not.mp (of_decide_eq_false (bI_0 c_5))
        refine lv_aload_n hx hb dX1_late_58 rfl (lv_at hl 1 rfl) ?_
        refine lv_iconst (v := 3) hx hb dX1_late_59 (by decide) ?_
        refine xm_V (b := b 0) (As := [.int 3]) (rest := []) (wr := [xArr (t 0) (b 1) 120 (mkM F T L Z), xArr (t 0) u_4 13 (earM F T L Z tc rc)]) ⟨hx, hb, hml, hown, hts⟩ xTrav_T (c_X1_fail l D t b 0 tc rc 3 _) (cwV 1 hts gX1_late_X1_fail rfl rfl rfl hd_X1_fail ⟨Nat.le_of_ble_eq_true rfl, Nat.le_of_ble_eq_true rfl⟩) hK hP hD hS hA (fun _ _ _ => trivial) (va_recv hK hP (ci := 1) (q0 := 0) rfl rfl) [0] [1, 2] rfl rfl (by decide) (by decide) (by decide) rfl hl.1 rfl (Nat.le_of_ble_eq_true rfl) dX1_late_60 ⟨(Nat.le_of_ble_eq_true rfl), (Nat.le_of_ble_eq_true rfl)⟩ (fun u_6 H locs hu hP hD hS hz => ?_)
        have hP : va_P D vwCl ([xMod b 3 tc rc, xArr (t 0) (b 1) 120 (mkM F T L Z), xArr (t 0) u_4 13 (earM F T L Z tc rc)]) H := hP.sub [2, 0, 1] rfl
        have hD : va_D _ ([xMod b 3 tc rc, xArr (t 0) (b 1) 120 (mkM F T L Z), xArr (t 0) u_4 13 (earM F T L Z tc rc)]) := hD.sub [2, 0, 1] (by decide) rfl
        have hP : va_P D vwCl ([xMod b 3 tc rc, xArr (t 0) (b 1) 120 (mkM F T L Z)]) H := hP.sub [0, 1] rfl
        have hD : va_D _ ([xMod b 3 tc rc, xArr (t 0) (b 1) 120 (mkM F T L Z)]) := hD.sub [0, 1] (by decide) rfl
        have hk9 : kLate tc (earM F T L Z tc rc 12) (earM F T L Z tc rc) p0 p1 = 3 := by simp [kLate, c_1, eik_2, c_3, c_5]
        have hP9 : va_P D vwCl ([xMod b (nI (kLate tc (earM F T L Z tc rc 12) (earM F T L Z tc rc) p0 p1)) tc rc, xArr (t 0) (b 1) 120 (mkM F T L Z)]) H := by rw [hk9]; exact hP
        have hD9 : va_D A ([xMod b (nI (kLate tc (earM F T L Z tc rc 12) (earM F T L Z tc rc) p0 p1)) tc rc, xArr (t 0) (b 1) 120 (mkM F T L Z)]) := by rw [hk9]; exact hD
        subst hAe
        refine W.widen (k := 14) (n := 169) (Nat.le_of_ble_eq_true rfl) (Nat.le_of_ble_eq_true rfl) ?_
        obtain ⟨hq9, hf9⟩ := xm_end (S := Unit) (pu := (fun u : Unit => True)) (r := (fun u : Unit => some (.int (if kLate tc (earM F T L Z tc rc 12) (earM F T L Z tc rc) p0 p1 = 0 then p1 + lateG (wayM F T L Z tc rc) (ix p0) tc 0 0 else 0)))) (wc := [xMod b th tc rc, xArr (t 0) (b 1) 120 (mkM F T L Z)]) (w1 := (fun u : Unit => [xMod b (nI (kLate tc (earM F T L Z tc rc 12) (earM F T L Z tc rc) p0 p1)) tc rc, xArr (t 0) (b 1) 120 (mkM F T L Z)])) (o := some (.int 0)) (args := ([.ref (b 0), .int p0, .int p1] : List Value).toArray) () rfl trivial (by first | (rw [hk9]; rfl) | (simp only [hk9]; done) | (simp [hk9, c_1, eik_2, c_3, c_5]; done)) hP9 hD9 hS
        exact W.iret hx hb hr hq9 hf9 dX1_late_63 hlocks
      · have c_5 := of_decide_eq_true (bI_n0 c_5)
        refine lv_aload_n hx hb dX1_late_49 rfl (lv_at hl 1 rfl) ?_
        refine lv_aload_n hx hb dX1_late_50 rfl (lv_at hl 0 rfl) ?_
        refine xr_V (b := b 0) (As := [.ref u_4]) (rest := []) ⟨hx, hb, hml, hown, hts⟩ (c_X1_last l D t b 0 tc rc u_4 (earM F T L Z tc rc) (by omega)) (cwV 1 hts gX1_late_X1_last rfl rfl rfl hd_X1_last ⟨Nat.le_of_ble_eq_true rfl, Nat.le_of_ble_eq_true rfl⟩) hK hP (va_recv hK hP (ci := 1) (q0 := 0) rfl rfl) [0, 2] rfl rfl hl.1 rfl (Nat.le_of_ble_eq_true rfl) dX1_late_51 ⟨(Nat.le_of_ble_eq_true rfl), (Nat.le_of_ble_eq_true rfl)⟩ ?_
        refine lv_iload_n hx hb dX1_late_54 rfl (lv_at hl 3 rfl) ?_
        refine lv_icmp_le (x := lastF (earM F T L Z tc rc) tc 0 0) (y := p1) (tgt := 64) hx hb dX1_late_55 (by decide) (fun c_7 => ?_) (fun c_7 => ?_)
        · have c_7 := Int32.not_lt.mpr c_7
          have hP : va_P D vwCl ([xMod b 0 tc rc, xArr (t 0) (b 1) 120 (mkM F T L Z)]) H := hP.sub [0, 1] rfl
          have hD : va_D _ ([xMod b 0 tc rc, xArr (t 0) (b 1) 120 (mkM F T L Z)]) := hD.sub [0, 1] (by decide) rfl
          refine lv_aload_n hx hb dX1_late_64 rfl (lv_at hl 1 rfl) ?_
          refine xm_V (b := b 0) (As := []) (rest := []) (wr := []) ⟨hx, hb, hml, hown, hts⟩ aoT (c_X1_ways l D t b 0 tc rc F T L Z _ (by omega) (by omega) hF) (cwV 0 hts gX1_late_X1_ways rfl rfl rfl hd_X1_ways ⟨Nat.le_of_ble_eq_true rfl, Nat.le_of_ble_eq_true rfl⟩) hK hP hD hS hA (fun U hW _ => va_AOA.moved hW.alike hXX) (va_recv hK hP (ci := 1) (q0 := 0) rfl rfl) [0, 1] [] rfl rfl (by decide) (by decide) (by decide) rfl hl.1 rfl (Nat.le_of_ble_eq_true rfl) dX1_late_65 ⟨(Nat.le_of_ble_eq_true rfl), (Nat.le_of_ble_eq_true rfl)⟩ (fun u_8 H locs hu hP hD hS hz => ?_)
          have hP : va_P D vwCl ([xMod b 0 tc rc, xArr (t 0) (b 1) 120 (mkM F T L Z), xGo (t 3) u_8.1 u_8.2] ++ xGr (t 0) u_8.2 (wayM F T L Z tc rc)) H := hP
          have hD : va_D _ ([xMod b 0 tc rc, xArr (t 0) (b 1) 120 (mkM F T L Z), xGo (t 3) u_8.1 u_8.2] ++ xGr (t 0) u_8.2 (wayM F T L Z tc rc)) := hD
          refine lv_astore (lv' := [(4, .ref u_8.1), (3, .ref u_4), (0, .ref (b 0)), (1, .int (nI k_2)), (2, .int p1)]) hx hb dX1_late_68 hl (by decide) rfl (fun ls hl => ?_)
          refine lv_iconst (v := 0) hx hb dX1_late_70 (by decide) ?_
          refine lv_istore (lv' := [(5, .int 0), (4, .ref u_8.1), (3, .ref u_4), (0, .ref (b 0)), (1, .int (nI k_2)), (2, .int p1)]) hx hb dX1_late_71 hl (by decide) rfl (fun ls hl => ?_)
          refine lv_iconst (v := 0) hx hb dX1_late_73 (by decide) ?_
          refine lv_istore (lv' := [(6, .int 0), (5, .int 0), (4, .ref u_8.1), (3, .ref u_4), (0, .ref (b 0)), (1, .int (nI k_2)), (2, .int p1)]) hx hb dX1_late_74 hl (by decide) rfl (fun ls hl => ?_)
          have lp_76 : ∀ (n76 : Nat) (i : Nat) (la : Int32), i + n76 = tc → lateG (wayM F T L Z tc rc) (ix p0) n76 i la = lateG (wayM F T L Z tc rc) (ix p0) tc 0 0 → ∀ (H : Heap) (locs : List Loc), va_P D vwCl ([xMod b 0 tc rc, xArr (t 0) (b 1) 120 (mkM F T L Z), xGo (t 3) u_8.1 u_8.2] ++ xGr (t 0) u_8.2 (wayM F T L Z tc rc)) H → va_D A ([xMod b 0 tc rc, xArr (t 0) (b 1) 120 (mkM F T L Z), xGo (t 3) u_8.1 u_8.2] ++ xGr (t 0) u_8.2 (wayM F T L Z tc rc)) → va_S A s.heap H locs → ∀ ls : Array Slot, lv_has ls 7 [(6, .int (nI i)), (5, .int la), (4, .ref u_8.1), (0, .ref (b 0)), (1, .int (nI k_2)), (2, .int p1)] → W p l e (headSpec wsX1_late ({ frames := 3, cells := 14, slots := 169, locals := 68 } : Jvm.Room)).room s m (([.ref (b 0), .int p0, .int p1] : List Value).toArray) below meth c H locs 14 169 (MQ below (xQm D (fun u : Unit => True) (fun u : Unit => some (.int (if kLate tc (earM F T L Z tc rc 12) (earM F T L Z tc rc) p0 p1 = 0 then p1 + lateG (wayM F T L Z tc rc) (ix p0) tc 0 0 else 0))) [xMod b th tc rc, xArr (t 0) (b 1) 120 (mkM F T L Z)] (fun u : Unit => [xMod b (nI (kLate tc (earM F T L Z tc rc 12) (earM F T L Z tc rc) p0 p1)) tc rc, xArr (t 0) (b 1) 120 (mkM F T L Z)]) s.heap.size) (([.ref (b 0), .int p0, .int p1] : List Value).toArray) s 14 169 A) (F0 m 76 ls []) := by
            intro n76
            induction n76 using Nat.strongRecOn with
            | _ n76 ih_76 =>
              intro i la hm_76 hfin_76 H locs hP hD hS ls hl
              refine lv_iload hx hb dX1_late_76 (lv_at hl 0 rfl) ?_
              refine lv_aload_n hx hb dX1_late_78 rfl (lv_at hl 3 rfl) ?_
              refine x1_get (v := .int (nI tc)) hx hb hts hin hown hK hP 0 rfl 1 (by decide) fl_17 rfl dX1_late_79 rfl ?_
              refine lv_icmp_ge (x := nI i) (y := nI tc) (tgt := 105) hx hb dX1_late_82 (by decide) (fun c_9 => ?_) (fun c_9 => ?_)
              · have c_9 := (nI_leI (a := tc) (b := i) (by omega) (by omega)).mp c_9
                have hn0_76 : n76 = 0 := by omega
                subst hn0_76
                obtain rfl : la = lateG (wayM F T L Z tc rc) (ix p0) tc 0 0 := hfin_76
                refine lv_iload_n hx hb dX1_late_105 rfl (lv_at hl 5 rfl) ?_
                refine lv_iload hx hb dX1_late_106 (lv_at hl 1 rfl) ?_
                refine lv_iadd (x := p1) (y := lateG (wayM F T L Z tc rc) (ix p0) tc 0 0) hx hb dX1_late_108 ?_
                have hP : va_P D vwCl ([xMod b 0 tc rc, xArr (t 0) (b 1) 120 (mkM F T L Z)]) H := hP.sub [0, 1] rfl
                have hD : va_D _ ([xMod b 0 tc rc, xArr (t 0) (b 1) 120 (mkM F T L Z)]) := hD.sub [0, 1] (by decide) rfl
                have hk9 : kLate tc (earM F T L Z tc rc 12) (earM F T L Z tc rc) p0 p1 = 0 := by simp [kLate, c_1, eik_2, c_3, c_5, c_7, c_9, Nat.not_lt.mpr c_9]
                have hP9 : va_P D vwCl ([xMod b (nI (kLate tc (earM F T L Z tc rc 12) (earM F T L Z tc rc) p0 p1)) tc rc, xArr (t 0) (b 1) 120 (mkM F T L Z)]) H := by rw [hk9]; exact hP
                have hD9 : va_D A ([xMod b (nI (kLate tc (earM F T L Z tc rc 12) (earM F T L Z tc rc) p0 p1)) tc rc, xArr (t 0) (b 1) 120 (mkM F T L Z)]) := by rw [hk9]; exact hD
                subst hAe
                obtain ⟨hq9, hf9⟩ := xm_end (S := Unit) (pu := (fun u : Unit => True)) (r := (fun u : Unit => some (.int (if kLate tc (earM F T L Z tc rc 12) (earM F T L Z tc rc) p0 p1 = 0 then p1 + lateG (wayM F T L Z tc rc) (ix p0) tc 0 0 else 0)))) (wc := [xMod b th tc rc, xArr (t 0) (b 1) 120 (mkM F T L Z)]) (w1 := (fun u : Unit => [xMod b (nI (kLate tc (earM F T L Z tc rc 12) (earM F T L Z tc rc) p0 p1)) tc rc, xArr (t 0) (b 1) 120 (mkM F T L Z)])) (o := some (.int (p1 + (lateG (wayM F T L Z tc rc) (ix p0) tc 0 0)))) (args := ([.ref (b 0), .int p0, .int p1] : List Value).toArray) () rfl trivial (by first | (rw [hk9]; rfl) | (simp only [hk9]; done) | (simp [hk9, c_1, eik_2, c_3, c_5, c_7, c_9, Nat.not_lt.mpr c_9]; done)) hP9 hD9 hS
                exact W.iret hx hb hr hq9 hf9 dX1_late_109 hlocks
              · have c_9 : i < tc := Nat.lt_of_not_le (fun z9 => c_9 ((nI_leI (a := tc) (b := i) (by omega) (by omega)).mpr z9))
                obtain ⟨n769, rfl⟩ : ∃ z, n76 = z + 1 := ⟨n76 - 1, by omega⟩
                refine lv_iload hx hb dX1_late_85 (lv_at hl 1 rfl) ?_
                refine lv_aload hx hb dX1_late_87 (lv_at hl 2 rfl) ?_
                refine lv_iload hx hb dX1_late_89 (lv_at hl 0 rfl) ?_
                refine x_aald (v := u_8.2 i) hx hb hK hP 2 3 rfl rfl (k := i) (by omega) (Nat.le_of_ble_eq_true rfl) (if_pos (by omega)) dX1_late_91 ?_
                refine lv_iload_n hx hb dX1_late_92 rfl (lv_at hl 4 rfl) ?_
                refine x_gld (M := wayM F T L Z tc rc) (i := i) (j := k_2) hx hb hK hP 0 rfl (by omega) (by omega) dX1_late_93 ?_
                refine va_mmin (x := la) (y := (wayM F T L Z tc rc) i k_2) hx hb (hml.trans hl.1.symm) hown ml_51 ms_min mi_Math mc_min (Nat.le_of_ble_eq_true rfl) (Nat.le_of_ble_eq_true rfl) (Nat.le_of_ble_eq_true rfl) (Nat.le_of_ble_eq_true rfl) dX1_late_94 ?_
                refine x_top (w := mnI la ((wayM F T L Z tc rc) i k_2)) rfl ?_
                refine lv_istore (lv' := [(5, .int (mnI la ((wayM F T L Z tc rc) i k_2))), (6, .int (nI i)), (4, .ref u_8.1), (0, .ref (b 0)), (1, .int (nI k_2)), (2, .int p1)]) hx hb dX1_late_97 hl (by decide) rfl (fun ls hl => ?_)
                refine lv_iinc (v := nI (i + 1)) (lv' := [(6, .int (nI (i + 1))), (5, .int (mnI la ((wayM F T L Z tc rc) i k_2))), (4, .ref u_8.1), (0, .ref (b 0)), (1, .int (nI k_2)), (2, .int p1)]) hx hb dX1_late_99 hl (k := 1) rfl (x_inc _) (by decide) rfl (fun ls hl => ?_)
                refine lv_goto (tgt := 76) hx hb dX1_late_102 (by decide) ?_
                exact ih_76 n769 (by omega) (i + 1) (mnI la ((wayM F T L Z tc rc) i k_2)) (by omega) (by rw [← hfin_76]; simp [lateG, c_1, eik_2, c_3, c_5, c_7, c_9]) _ _ hP hD hS _ (lv_sub hl [0, 1, 2, 3, 4, 5] rfl)
          exact lp_76 tc 0 0 (by omega) rfl _ _ hP hD hS _ (lv_sub hl [0, 1, 2, 4, 5, 6] rfl)
        · have c_7 := Int32.not_le.mp c_7
          refine lv_aload_n hx hb dX1_late_58 rfl (lv_at hl 1 rfl) ?_
          refine lv_iconst (v := 3) hx hb dX1_late_59 (by decide) ?_
          refine xm_V (b := b 0) (As := [.int 3]) (rest := []) (wr := [xArr (t 0) (b 1) 120 (mkM F T L Z), xArr (t 0) u_4 13 (earM F T L Z tc rc)]) ⟨hx, hb, hml, hown, hts⟩ xTrav_T (c_X1_fail l D t b 0 tc rc 3 _) (cwV 1 hts gX1_late_X1_fail rfl rfl rfl hd_X1_fail ⟨Nat.le_of_ble_eq_true rfl, Nat.le_of_ble_eq_true rfl⟩) hK hP hD hS hA (fun _ _ _ => trivial) (va_recv hK hP (ci := 1) (q0 := 0) rfl rfl) [0] [1, 2] rfl rfl (by decide) (by decide) (by decide) rfl hl.1 rfl (Nat.le_of_ble_eq_true rfl) dX1_late_60 ⟨(Nat.le_of_ble_eq_true rfl), (Nat.le_of_ble_eq_true rfl)⟩ (fun u_10 H locs hu hP hD hS hz => ?_)
          have hP : va_P D vwCl ([xMod b 3 tc rc, xArr (t 0) (b 1) 120 (mkM F T L Z), xArr (t 0) u_4 13 (earM F T L Z tc rc)]) H := hP.sub [2, 0, 1] rfl
          have hD : va_D _ ([xMod b 3 tc rc, xArr (t 0) (b 1) 120 (mkM F T L Z), xArr (t 0) u_4 13 (earM F T L Z tc rc)]) := hD.sub [2, 0, 1] (by decide) rfl
          have hP : va_P D vwCl ([xMod b 3 tc rc, xArr (t 0) (b 1) 120 (mkM F T L Z)]) H := hP.sub [0, 1] rfl
          have hD : va_D _ ([xMod b 3 tc rc, xArr (t 0) (b 1) 120 (mkM F T L Z)]) := hD.sub [0, 1] (by decide) rfl
          have hk9 : kLate tc (earM F T L Z tc rc 12) (earM F T L Z tc rc) p0 p1 = 3 := by simp [kLate, c_1, eik_2, c_3, c_5, c_7]
          have hP9 : va_P D vwCl ([xMod b (nI (kLate tc (earM F T L Z tc rc 12) (earM F T L Z tc rc) p0 p1)) tc rc, xArr (t 0) (b 1) 120 (mkM F T L Z)]) H := by rw [hk9]; exact hP
          have hD9 : va_D A ([xMod b (nI (kLate tc (earM F T L Z tc rc 12) (earM F T L Z tc rc) p0 p1)) tc rc, xArr (t 0) (b 1) 120 (mkM F T L Z)]) := by rw [hk9]; exact hD
          subst hAe
          refine W.widen (k := 14) (n := 169) (Nat.le_of_ble_eq_true rfl) (Nat.le_of_ble_eq_true rfl) ?_
          obtain ⟨hq9, hf9⟩ := xm_end (S := Unit) (pu := (fun u : Unit => True)) (r := (fun u : Unit => some (.int (if kLate tc (earM F T L Z tc rc 12) (earM F T L Z tc rc) p0 p1 = 0 then p1 + lateG (wayM F T L Z tc rc) (ix p0) tc 0 0 else 0)))) (wc := [xMod b th tc rc, xArr (t 0) (b 1) 120 (mkM F T L Z)]) (w1 := (fun u : Unit => [xMod b (nI (kLate tc (earM F T L Z tc rc 12) (earM F T L Z tc rc) p0 p1)) tc rc, xArr (t 0) (b 1) 120 (mkM F T L Z)])) (o := some (.int 0)) (args := ([.ref (b 0), .int p0, .int p1] : List Value).toArray) () rfl trivial (by first | (rw [hk9]; rfl) | (simp only [hk9]; done) | (simp [hk9, c_1, eik_2, c_3, c_5, c_7]; done)) hP9 hD9 hS
          exact W.iret hx hb hr hq9 hf9 dX1_late_63 hlocks
    · have c_3 := bI_0 c_3
      refine lv_aload_n hx hb dX1_late_30 rfl (lv_at hl 0 rfl) ?_
      refine lv_iconst (v := 2) hx hb dX1_late_31 (by decide) ?_
      refine xm_V (b := b 0) (As := [.int 2]) (rest := []) (wr := [xArr (t 0) (b 1) 120 (mkM F T L Z)]) ⟨hx, hb, hml, hown, hts⟩ xTrav_T (c_X1_fail l D t b 0 tc rc 2 _) (cwV 1 hts gX1_late_X1_fail rfl rfl rfl hd_X1_fail ⟨Nat.le_of_ble_eq_true rfl, Nat.le_of_ble_eq_true rfl⟩) hK hP hD hS hA (fun _ _ _ => trivial) (va_recv hK hP (ci := 1) (q0 := 0) rfl rfl) [0] [1] rfl rfl (by decide) (by decide) (by decide) rfl hl.1 rfl (Nat.le_of_ble_eq_true rfl) dX1_late_32 ⟨(Nat.le_of_ble_eq_true rfl), (Nat.le_of_ble_eq_true rfl)⟩ (fun u_11 H locs hu hP hD hS hz => ?_)
      have hP : va_P D vwCl ([xMod b 2 tc rc, xArr (t 0) (b 1) 120 (mkM F T L Z)]) H := hP.sub [1, 0] rfl
      have hD : va_D _ ([xMod b 2 tc rc, xArr (t 0) (b 1) 120 (mkM F T L Z)]) := hD.sub [1, 0] (by decide) rfl
      have hk9 : kLate tc (earM F T L Z tc rc 12) (earM F T L Z tc rc) p0 p1 = 2 := by simp [kLate, c_1, eik_2, c_3]
      have hP9 : va_P D vwCl ([xMod b (nI (kLate tc (earM F T L Z tc rc 12) (earM F T L Z tc rc) p0 p1)) tc rc, xArr (t 0) (b 1) 120 (mkM F T L Z)]) H := by rw [hk9]; exact hP
      have hD9 : va_D A ([xMod b (nI (kLate tc (earM F T L Z tc rc 12) (earM F T L Z tc rc) p0 p1)) tc rc, xArr (t 0) (b 1) 120 (mkM F T L Z)]) := by rw [hk9]; exact hD
      subst hAe
      refine W.widen (k := 14) (n := 169) (Nat.le_of_ble_eq_true rfl) (Nat.le_of_ble_eq_true rfl) ?_
      obtain ⟨hq9, hf9⟩ := xm_end (S := Unit) (pu := (fun u : Unit => True)) (r := (fun u : Unit => some (.int (if kLate tc (earM F T L Z tc rc 12) (earM F T L Z tc rc) p0 p1 = 0 then p1 + lateG (wayM F T L Z tc rc) (ix p0) tc 0 0 else 0)))) (wc := [xMod b th tc rc, xArr (t 0) (b 1) 120 (mkM F T L Z)]) (w1 := (fun u : Unit => [xMod b (nI (kLate tc (earM F T L Z tc rc 12) (earM F T L Z tc rc) p0 p1)) tc rc, xArr (t 0) (b 1) 120 (mkM F T L Z)])) (o := some (.int 0)) (args := ([.ref (b 0), .int p0, .int p1] : List Value).toArray) () rfl trivial (by first | (rw [hk9]; rfl) | (simp only [hk9]; done) | (simp [hk9, c_1, eik_2, c_3]; done)) hP9 hD9 hS
      exact W.iret hx hb hr hq9 hf9 dX1_late_35 hlocks
  · have c_1 := bI_0 c_1
    refine lv_aload_n hx hb dX1_late_13 rfl (lv_at hl 0 rfl) ?_
    refine lv_iconst (v := 1) hx hb dX1_late_14 (by decide) ?_
    refine xm_V (b := b 0) (As := [.int 1]) (rest := []) (wr := [xArr (t 0) (b 1) 120 (mkM F T L Z)]) ⟨hx, hb, hml, hown, hts⟩ xTrav_T (c_X1_fail l D t b 0 tc rc 1 _) (cwV 1 hts gX1_late_X1_fail rfl rfl rfl hd_X1_fail ⟨Nat.le_of_ble_eq_true rfl, Nat.le_of_ble_eq_true rfl⟩) hK hP hD hS hA (fun _ _ _ => trivial) (va_recv hK hP (ci := 1) (q0 := 0) rfl rfl) [0] [1] rfl rfl (by decide) (by decide) (by decide) rfl hl.1 rfl (Nat.le_of_ble_eq_true rfl) dX1_late_15 ⟨(Nat.le_of_ble_eq_true rfl), (Nat.le_of_ble_eq_true rfl)⟩ (fun u_12 H locs hu hP hD hS hz => ?_)
    have hP : va_P D vwCl ([xMod b 1 tc rc, xArr (t 0) (b 1) 120 (mkM F T L Z)]) H := hP.sub [1, 0] rfl
    have hD : va_D _ ([xMod b 1 tc rc, xArr (t 0) (b 1) 120 (mkM F T L Z)]) := hD.sub [1, 0] (by decide) rfl
    have hk9 : kLate tc (earM F T L Z tc rc 12) (earM F T L Z tc rc) p0 p1 = 1 := by simp [kLate, c_1]
    have hP9 : va_P D vwCl ([xMod b (nI (kLate tc (earM F T L Z tc rc 12) (earM F T L Z tc rc) p0 p1)) tc rc, xArr (t 0) (b 1) 120 (mkM F T L Z)]) H := by rw [hk9]; exact hP
    have hD9 : va_D A ([xMod b (nI (kLate tc (earM F T L Z tc rc 12) (earM F T L Z tc rc) p0 p1)) tc rc, xArr (t 0) (b 1) 120 (mkM F T L Z)]) := by rw [hk9]; exact hD
    subst hAe
    refine W.widen (k := 14) (n := 169) (Nat.le_of_ble_eq_true rfl) (Nat.le_of_ble_eq_true rfl) ?_
    obtain ⟨hq9, hf9⟩ := xm_end (S := Unit) (pu := (fun u : Unit => True)) (r := (fun u : Unit => some (.int (if kLate tc (earM F T L Z tc rc 12) (earM F T L Z tc rc) p0 p1 = 0 then p1 + lateG (wayM F T L Z tc rc) (ix p0) tc 0 0 else 0)))) (wc := [xMod b th tc rc, xArr (t 0) (b 1) 120 (mkM F T L Z)]) (w1 := (fun u : Unit => [xMod b (nI (kLate tc (earM F T L Z tc rc 12) (earM F T L Z tc rc) p0 p1)) tc rc, xArr (t 0) (b 1) 120 (mkM F T L Z)])) (o := some (.int 0)) (args := ([.ref (b 0), .int p0, .int p1] : List Value).toArray) () rfl trivial (by first | (rw [hk9]; rfl) | (simp only [hk9]; done) | (simp [hk9, c_1]; done)) hP9 hD9 hS
    exact W.iret hx hb hr hq9 hf9 dX1_late_18 hlocks
set_option maxHeartbeats 4000000 in
set_option maxRecDepth 100000 in
theorem c_X1_at (l : Launch) (D : va_G) (t : Nat → ClassId) (b : Nat → Nat) (th : Int32) (tc rc : Nat) (F T : Nat → Nat) (L : Nat → Int32) (Z : Nat → Bool) (p0 : Int32) (sz : Nat) (htc : tc ≤ 12) (hrc : rc ≤ 30) (hF : ∀ r, r < rc → F r < tc ∧ T r < tc) : Met l yX1_at wsX1_at ({ frames := 3, cells := 1, slots := 13, locals := 68 }) (xMu D (xTy t) (va_AOA .int) [.ref (b 0), .int p0] [xMod b th tc rc, xArr (t 0) (b 1) 120 (mkM F T L Z)] sz) (xQm D (fun u : Unit => True) (fun u : Unit => some (.int (if c2 (kAt tc (earM F T L Z tc rc 12) p0) = 0 then atF (earM F T L Z tc rc) tc (ix p0) tc 0 else 0))) [xMod b th tc rc, xArr (t 0) (b 1) 120 (mkM F T L Z)] (fun u : Unit => [xMod b (nI (c2 (kAt tc (earM F T L Z tc rc 12) p0))) tc rc, xArr (t 0) (b 1) 120 (mkM F T L Z)]) sz) 1 13 (va_A [xMod b th tc rc, xArr (t 0) (b 1) 120 (mkM F T L Z)] sz) := by
  refine Met.ofW (cc := cX1_at) (maxL := 6) (ret := (some .int)) (by decide) rfl ?_
  intro p e s m args below meth c s₁ hB9 hml hv
  obtain ⟨rfl, hsz, hP, hK, hD0, hXX⟩ := hv
  have hx := hB9.exec
  have hb := hB9.bytes
  have hr := hB9.returns
  have hts := atoms_spec (ws := wsX1_at) hB9.pre
  have hown : s.vm.findClass RX1 = some m.cls := findClass_of_methodNamed hB9.named
  have hlocks := hB9.notSynchronized
  have hin : ∀ w ∈ wsX10, w ∈ wsX1_at := fun _ h => List.mem_cons_of_mem _ (List.mem_append_right _ h)
  have fl_13 := hts (.fieldLink RX1 13 "RopeTimesModel" "thrown" "I") (by decide +kernel)
  have fl_17 := hts (.fieldLink RX1 17 "RopeTimesModel" "turns" "I") (by decide +kernel)
  subst hsz
  have hD := hD0.self (sz := s.heap.size)
  generalize hAe : va_A ([xMod b th tc rc, xArr (t 0) (b 1) 120 (mkM F T L Z)]) s.heap.size = A at hD ⊢
  have hA : ∀ q : Nat, s.heap.size ≤ q → A q := fun q h => by rw [← hAe]; exact Or.inr h
  have hS : va_S A s.heap s.heap [] := va_S.rf
  have hP : va_P D vwCl ([xMod b th tc rc, xArr (t 0) (b 1) 120 (mkM F T L Z)]) s.heap := hP
  have hD : va_D A ([xMod b th tc rc, xArr (t 0) (b 1) 120 (mkM F T L Z)]) := hD
  have hl := lv_entry ([.ref (b 0), .int p0]) (n := 6) (Nat.le_of_ble_eq_true rfl)
  rw [lg_entry_eq]
  generalize (lg_sl ([.ref (b 0), .int p0]) ++ List.replicate (6 - (lg_sl ([.ref (b 0), .int p0])).length) Slot.unset).toArray = ls at hl ⊢
  have hl : lv_has ls 6 [(0, .ref (b 0)), (1, .int p0)] := hl
  refine lv_aload_n hx hb dX1_at_0 rfl (lv_at hl 0 rfl) ?_
  refine lv_iconst (v := 0) hx hb dX1_at_1 (by decide) ?_
  refine x1_put (x := 0) hx hb hts hin hown hK hP hD hS 0 ([xMod b 0 tc rc, xArr (t 0) (b 1) 120 (mkM F T L Z)]) rfl 0 (by decide) fl_13 rfl rfl (Nat.le_of_ble_eq_true rfl) rfl dX1_at_2 rfl (fun H locs hP hD hS => ?_)
  refine lv_aload_n hx hb dX1_at_5 rfl (lv_at hl 0 rfl) ?_
  refine lv_iload_n hx hb dX1_at_6 rfl (lv_at hl 1 rfl) ?_
  refine xr_V (b := b 0) (As := [.int p0]) (rest := []) ⟨hx, hb, hml, hown, hts⟩ (c_X1_isTurn l D t b 0 tc rc p0 (by omega)) (cwV 1 hts gX1_at_X1_isTurn rfl rfl rfl hd_X1_isTurn ⟨Nat.le_of_ble_eq_true rfl, Nat.le_of_ble_eq_true rfl⟩) hK hP (va_recv hK hP (ci := 1) (q0 := 0) rfl rfl) [0] rfl rfl hl.1 rfl (Nat.le_of_ble_eq_true rfl) dX1_at_7 ⟨(Nat.le_of_ble_eq_true rfl), (Nat.le_of_ble_eq_true rfl)⟩ ?_
  refine lv_if_ne (x := bI (inB p0 tc)) (tgt := 19) hx hb dX1_at_10 (by decide) (fun c_1 => ?_) (fun c_1 => ?_)
  · have c_1 := bI_n0 c_1
    obtain ⟨k_2, hk_2, ek_2⟩ := inB_of c_1 (by omega)
    have eik_2 : ix p0 = k_2 := by rw [ek_2]; exact ix_nI (by omega)
    have hl : lv_has ls 6 [(0, .ref (b 0)), (1, .int (nI k_2))] := by rw [← ek_2]; exact hl
    refine lv_aload_n hx hb dX1_at_19 rfl (lv_at hl 0 rfl) ?_
    refine xm_V (b := b 0) (As := []) (rest := []) (wr := []) ⟨hx, hb, hml, hown, hts⟩ aoT (c_X1_earliest l D t b 0 tc rc F T L Z _ (by omega) (by omega) hF) (cwV 0 hts gX1_at_X1_earliest rfl rfl rfl hd_X1_earliest ⟨Nat.le_of_ble_eq_true rfl, Nat.le_of_ble_eq_true rfl⟩) hK hP hD hS hA (fun U hW _ => va_AOA.moved hW.alike hXX) (va_recv hK hP (ci := 1) (q0 := 0) rfl rfl) [0, 1] [] rfl rfl (by decide) (by decide) (by decide) rfl hl.1 rfl (Nat.le_of_ble_eq_true rfl) dX1_at_20 ⟨(Nat.le_of_ble_eq_true rfl), (Nat.le_of_ble_eq_true rfl)⟩ (fun u_3 H locs hu hP hD hS hz => ?_)
    have hP : va_P D vwCl ([xMod b 0 tc rc, xArr (t 0) (b 1) 120 (mkM F T L Z), xArr (t 0) u_3 13 (earM F T L Z tc rc)]) H := hP
    have hD : va_D _ ([xMod b 0 tc rc, xArr (t 0) (b 1) 120 (mkM F T L Z), xArr (t 0) u_3 13 (earM F T L Z tc rc)]) := hD
    refine lv_astore_n (lv' := [(2, .ref u_3), (0, .ref (b 0)), (1, .int (nI k_2))]) hx hb dX1_at_23 rfl hl (by decide) rfl (fun ls hl => ?_)
    refine lv_aload_n hx hb dX1_at_24 rfl (lv_at hl 1 rfl) ?_
    refine lv_aload_n hx hb dX1_at_25 rfl (lv_at hl 0 rfl) ?_
    refine xr_V (b := b 0) (As := [.ref u_3]) (rest := []) ⟨hx, hb, hml, hown, hts⟩ (c_X1_isFound l D t b 0 tc rc u_3 (earM F T L Z tc rc)) (cwV 1 hts gX1_at_X1_isFound rfl rfl rfl hd_X1_isFound ⟨Nat.le_of_ble_eq_true rfl, Nat.le_of_ble_eq_true rfl⟩) hK hP (va_recv hK hP (ci := 1) (q0 := 0) rfl rfl) [0, 2] rfl rfl hl.1 rfl (Nat.le_of_ble_eq_true rfl) dX1_at_26 ⟨(Nat.le_of_ble_eq_true rfl), (Nat.le_of_ble_eq_true rfl)⟩ ?_
    refine lv_if_ne (x := bI (decide (¬ (earM F T L Z tc rc) 12 = -1))) (tgt := 38) hx hb dX1_at_29 (by decide) (fun c_4 => ?_) (fun c_4 => ?_)
    · have c_4 := of_decide_eq_true (bI_n0 c_4)
      refine lv_iconst (v := 0) hx hb dX1_at_38 (by decide) ?_
      refine lv_istore_n (lv' := [(3, .int 0), (2, .ref u_3), (0, .ref (b 0)), (1, .int (nI k_2))]) hx hb dX1_at_39 rfl hl (by decide) rfl (fun ls hl => ?_)
      have lp_40 : ∀ (n40 : Nat) (v : Nat), v + n40 = tc → atF (earM F T L Z tc rc) tc (ix p0) n40 v = atF (earM F T L Z tc rc) tc (ix p0) tc 0 → ∀ (H : Heap) (locs : List Loc), va_P D vwCl ([xMod b 0 tc rc, xArr (t 0) (b 1) 120 (mkM F T L Z), xArr (t 0) u_3 13 (earM F T L Z tc rc)]) H → va_D A ([xMod b 0 tc rc, xArr (t 0) (b 1) 120 (mkM F T L Z), xArr (t 0) u_3 13 (earM F T L Z tc rc)]) → va_S A s.heap H locs → ∀ ls : Array Slot, lv_has ls 6 [(3, .int (nI v)), (2, .ref u_3), (0, .ref (b 0)), (1, .int (nI k_2))] → W p l e (headSpec wsX1_at ({ frames := 3, cells := 1, slots := 13, locals := 68 } : Jvm.Room)).room s m (([.ref (b 0), .int p0] : List Value).toArray) below meth c H locs 1 13 (MQ below (xQm D (fun u : Unit => True) (fun u : Unit => some (.int (if c2 (kAt tc (earM F T L Z tc rc 12) p0) = 0 then atF (earM F T L Z tc rc) tc (ix p0) tc 0 else 0))) [xMod b th tc rc, xArr (t 0) (b 1) 120 (mkM F T L Z)] (fun u : Unit => [xMod b (nI (c2 (kAt tc (earM F T L Z tc rc 12) p0))) tc rc, xArr (t 0) (b 1) 120 (mkM F T L Z)]) s.heap.size) (([.ref (b 0), .int p0] : List Value).toArray) s 1 13 A) (F0 m 40 ls []) := by
        intro n40
        induction n40 using Nat.strongRecOn with
        | _ n40 ih_40 =>
          intro v hm_40 hfin_40 H locs hP hD hS ls hl
          refine lv_iload_n hx hb dX1_at_40 rfl (lv_at hl 0 rfl) ?_
          refine lv_aload_n hx hb dX1_at_41 rfl (lv_at hl 2 rfl) ?_
          refine x1_get (v := .int (nI tc)) hx hb hts hin hown hK hP 0 rfl 1 (by decide) fl_17 rfl dX1_at_42 rfl ?_
          refine lv_icmp_ge (x := nI v) (y := nI tc) (tgt := 119) hx hb dX1_at_45 (by decide) (fun c_5 => ?_) (fun c_5 => ?_)
          · have c_5 := (nI_leI (a := tc) (b := v) (by omega) (by omega)).mp c_5
            have hn0_40 : n40 = 0 := by omega
            subst hn0_40
            
            refine lv_iconst (v := (-1)) hx hb dX1_at_119 (by decide) ?_
            have hP : va_P D vwCl ([xMod b 0 tc rc, xArr (t 0) (b 1) 120 (mkM F T L Z)]) H := hP.sub [0, 1] rfl
            have hD : va_D _ ([xMod b 0 tc rc, xArr (t 0) (b 1) 120 (mkM F T L Z)]) := hD.sub [0, 1] (by decide) rfl
            have hk9 : c2 (kAt tc (earM F T L Z tc rc 12) p0) = 0 := by simp [c2, kAt, c_1, eik_2, c_4, c_5, Nat.not_lt.mpr c_5]
            have hP9 : va_P D vwCl ([xMod b (nI (c2 (kAt tc (earM F T L Z tc rc 12) p0))) tc rc, xArr (t 0) (b 1) 120 (mkM F T L Z)]) H := by rw [hk9]; exact hP
            have hD9 : va_D A ([xMod b (nI (c2 (kAt tc (earM F T L Z tc rc 12) p0))) tc rc, xArr (t 0) (b 1) 120 (mkM F T L Z)]) := by rw [hk9]; exact hD
            subst hAe
            obtain ⟨hq9, hf9⟩ := xm_end (S := Unit) (pu := (fun u : Unit => True)) (r := (fun u : Unit => some (.int (if c2 (kAt tc (earM F T L Z tc rc 12) p0) = 0 then atF (earM F T L Z tc rc) tc (ix p0) tc 0 else 0)))) (wc := [xMod b th tc rc, xArr (t 0) (b 1) 120 (mkM F T L Z)]) (w1 := (fun u : Unit => [xMod b (nI (c2 (kAt tc (earM F T L Z tc rc 12) p0))) tc rc, xArr (t 0) (b 1) 120 (mkM F T L Z)])) (o := some (.int (-1))) (args := ([.ref (b 0), .int p0] : List Value).toArray) () rfl trivial (by rw [hk9, if_pos rfl, ← hfin_40]; simp [atF, c_1, eik_2, c_4, c_5, Nat.not_lt.mpr c_5]) hP9 hD9 hS
            exact W.iret hx hb hr hq9 hf9 dX1_at_120 hlocks
          · have c_5 : v < tc := Nat.lt_of_not_le (fun z9 => c_5 ((nI_leI (a := tc) (b := v) (by omega) (by omega)).mpr z9))
            obtain ⟨n409, rfl⟩ : ∃ z, n40 = z + 1 := ⟨n40 - 1, by omega⟩
            refine lv_iconst (v := 0) hx hb dX1_at_48 (by decide) ?_
            refine lv_istore (lv' := [(4, .int 0), (3, .int (nI v)), (2, .ref u_3), (0, .ref (b 0)), (1, .int (nI k_2))]) hx hb dX1_at_49 hl (by decide) rfl (fun ls hl => ?_)
            refine lv_iconst (v := 0) hx hb dX1_at_51 (by decide) ?_
            refine lv_istore (lv' := [(5, .int 0), (4, .int 0), (3, .int (nI v)), (2, .ref u_3), (0, .ref (b 0)), (1, .int (nI k_2))]) hx hb dX1_at_52 hl (by decide) rfl (fun ls hl => ?_)
            have lp_54 : ∀ (n54 : Nat) (j : Nat) (ah : Nat), j + n54 = tc → aheadF (earM F T L Z tc rc) v n54 j ah = aheadF (earM F T L Z tc rc) v tc 0 0 → ∀ (H : Heap) (locs : List Loc), va_P D vwCl ([xMod b 0 tc rc, xArr (t 0) (b 1) 120 (mkM F T L Z), xArr (t 0) u_3 13 (earM F T L Z tc rc)]) H → va_D A ([xMod b 0 tc rc, xArr (t 0) (b 1) 120 (mkM F T L Z), xArr (t 0) u_3 13 (earM F T L Z tc rc)]) → va_S A s.heap H locs → ∀ ls : Array Slot, lv_has ls 6 [(5, .int (nI j)), (4, .int (nI ah)), (3, .int (nI v)), (2, .ref u_3), (0, .ref (b 0)), (1, .int (nI k_2))] → W p l e (headSpec wsX1_at ({ frames := 3, cells := 1, slots := 13, locals := 68 } : Jvm.Room)).room s m (([.ref (b 0), .int p0] : List Value).toArray) below meth c H locs 1 13 (MQ below (xQm D (fun u : Unit => True) (fun u : Unit => some (.int (if c2 (kAt tc (earM F T L Z tc rc 12) p0) = 0 then atF (earM F T L Z tc rc) tc (ix p0) tc 0 else 0))) [xMod b th tc rc, xArr (t 0) (b 1) 120 (mkM F T L Z)] (fun u : Unit => [xMod b (nI (c2 (kAt tc (earM F T L Z tc rc 12) p0))) tc rc, xArr (t 0) (b 1) 120 (mkM F T L Z)]) s.heap.size) (([.ref (b 0), .int p0] : List Value).toArray) s 1 13 A) (F0 m 54 ls []) := by
              intro n54
              induction n54 using Nat.strongRecOn with
              | _ n54 ih_54 =>
                intro j ah hm_54 hfin_54 H locs hP hD hS ls hl
                refine lv_iload hx hb dX1_at_54 (lv_at hl 0 rfl) ?_
                refine lv_aload_n hx hb dX1_at_56 rfl (lv_at hl 4 rfl) ?_
                refine x1_get (v := .int (nI tc)) hx hb hts hin hown hK hP 0 rfl 1 (by decide) fl_17 rfl dX1_at_57 rfl ?_
                refine lv_icmp_ge (x := nI j) (y := nI tc) (tgt := 105) hx hb dX1_at_60 (by decide) (fun c_6 => ?_) (fun c_6 => ?_)
                · have c_6 := (nI_leI (a := tc) (b := j) (by omega) (by omega)).mp c_6
                  have hn0_54 : n54 = 0 := by omega
                  subst hn0_54
                  obtain rfl : ah = aheadF (earM F T L Z tc rc) v tc 0 0 := hfin_54
                  have := aheadF_le (earM F T L Z tc rc) v tc 0 0
                  refine lv_iload hx hb dX1_at_105 (lv_at hl 1 rfl) ?_
                  refine lv_iload_n hx hb dX1_at_107 rfl (lv_at hl 5 rfl) ?_
                  refine lv_icmp_ne (x := nI (aheadF (earM F T L Z tc rc) v tc 0 0)) (y := nI k_2) (tgt := 113) hx hb dX1_at_108 (by decide) (fun c_7 => ?_) (fun c_7 => ?_)
                  · have c_7 : ¬ (aheadF (earM F T L Z tc rc) v tc 0 0) = k_2 := fun z9 => c_7 ((nI_eq (a := aheadF (earM F T L Z tc rc) v tc 0 0) (b := k_2) (by omega) (by omega)).mpr z9)
                    refine lv_iinc (v := nI (v + 1)) (lv' := [(3, .int (nI (v + 1))), (5, .int (nI j)), (4, .int (nI (aheadF (earM F T L Z tc rc) v tc 0 0))), (2, .ref u_3), (0, .ref (b 0)), (1, .int (nI k_2))]) hx hb dX1_at_113 hl (k := 2) rfl (x_inc _) (by decide) rfl (fun ls hl => ?_)
                    refine lv_goto (tgt := 40) hx hb dX1_at_116 (by decide) ?_
                    exact ih_40 n409 (by omega) (v + 1) (by omega) (by rw [← hfin_40]; simp [atF, c_1, eik_2, c_4, c_5, c_6, Nat.not_lt.mpr c_6, c_7]) _ _ hP hD hS _ (lv_sub hl [0, 3, 4, 5] rfl)
                  · have c_7 := (nI_eq (a := aheadF (earM F T L Z tc rc) v tc 0 0) (b := k_2) (by omega) (by omega)).mp c_7
                    refine lv_iload_n hx hb dX1_at_111 rfl (lv_at hl 2 rfl) ?_
                    have hP : va_P D vwCl ([xMod b 0 tc rc, xArr (t 0) (b 1) 120 (mkM F T L Z)]) H := hP.sub [0, 1] rfl
                    have hD : va_D _ ([xMod b 0 tc rc, xArr (t 0) (b 1) 120 (mkM F T L Z)]) := hD.sub [0, 1] (by decide) rfl
                    have hk9 : c2 (kAt tc (earM F T L Z tc rc 12) p0) = 0 := by simp [c2, kAt, c_1, eik_2, c_4, c_5, c_6, Nat.not_lt.mpr c_6, c_7]
                    have hP9 : va_P D vwCl ([xMod b (nI (c2 (kAt tc (earM F T L Z tc rc 12) p0))) tc rc, xArr (t 0) (b 1) 120 (mkM F T L Z)]) H := by rw [hk9]; exact hP
                    have hD9 : va_D A ([xMod b (nI (c2 (kAt tc (earM F T L Z tc rc 12) p0))) tc rc, xArr (t 0) (b 1) 120 (mkM F T L Z)]) := by rw [hk9]; exact hD
                    subst hAe
                    obtain ⟨hq9, hf9⟩ := xm_end (S := Unit) (pu := (fun u : Unit => True)) (r := (fun u : Unit => some (.int (if c2 (kAt tc (earM F T L Z tc rc 12) p0) = 0 then atF (earM F T L Z tc rc) tc (ix p0) tc 0 else 0)))) (wc := [xMod b th tc rc, xArr (t 0) (b 1) 120 (mkM F T L Z)]) (w1 := (fun u : Unit => [xMod b (nI (c2 (kAt tc (earM F T L Z tc rc 12) p0))) tc rc, xArr (t 0) (b 1) 120 (mkM F T L Z)])) (o := some (.int (nI v))) (args := ([.ref (b 0), .int p0] : List Value).toArray) () rfl trivial (by rw [hk9, if_pos rfl, ← hfin_40]; simp [atF, c_1, eik_2, c_4, c_5, c_6, Nat.not_lt.mpr c_6, c_7]) hP9 hD9 hS
                    exact W.iret hx hb hr hq9 hf9 dX1_at_112 hlocks
                · have c_6 : j < tc := Nat.lt_of_not_le (fun z9 => c_6 ((nI_leI (a := tc) (b := j) (by omega) (by omega)).mpr z9))
                  obtain ⟨n549, rfl⟩ : ∃ z, n54 = z + 1 := ⟨n54 - 1, by omega⟩
                  refine lv_iload hx hb dX1_at_63 (lv_at hl 1 rfl) ?_
                  refine lv_aload_n hx hb dX1_at_65 rfl (lv_at hl 3 rfl) ?_
                  refine lv_iload hx hb dX1_at_66 (lv_at hl 0 rfl) ?_
                  refine x_iald (f := earM F T L Z tc rc) hx hb hK hP 2 0 rfl rfl (k := j) (by omega) (Nat.le_of_ble_eq_true rfl) dX1_at_68 ?_
                  refine lv_aload_n hx hb dX1_at_69 rfl (lv_at hl 3 rfl) ?_
                  refine lv_iload_n hx hb dX1_at_70 rfl (lv_at hl 2 rfl) ?_
                  refine x_iald (f := earM F T L Z tc rc) hx hb hK hP 2 0 rfl rfl (k := v) (by omega) (Nat.le_of_ble_eq_true rfl) dX1_at_71 ?_
                  refine lv_icmp_lt (x := (earM F T L Z tc rc) j) (y := (earM F T L Z tc rc) v) (tgt := 91) hx hb dX1_at_72 (by decide) (fun c_8 => ?_) (fun c_8 => ?_)
                  · refine lv_iconst (v := 1) hx hb dX1_at_91 (by decide) ?_
                    refine lv_goto (tgt := 96) hx hb dX1_at_92 (by decide) ?_
                    refine lv_iadd (x := nI ah) (y := 1) hx hb dX1_at_96 ?_
                    refine x_top (w := nI (ah + 1)) (nI_add ah 1) ?_
                    refine lv_istore (lv' := [(4, .int (nI (ah + 1))), (5, .int (nI j)), (3, .int (nI v)), (2, .ref u_3), (0, .ref (b 0)), (1, .int (nI k_2))]) hx hb dX1_at_97 hl (by decide) rfl (fun ls hl => ?_)
                    refine lv_iinc (v := nI (j + 1)) (lv' := [(5, .int (nI (j + 1))), (4, .int (nI (ah + 1))), (3, .int (nI v)), (2, .ref u_3), (0, .ref (b 0)), (1, .int (nI k_2))]) hx hb dX1_at_99 hl (k := 1) rfl (x_inc _) (by decide) rfl (fun ls hl => ?_)
                    refine lv_goto (tgt := 54) hx hb dX1_at_102 (by decide) ?_
                    exact ih_54 n549 (by omega) (j + 1) (ah + 1) (by omega) (by rw [← hfin_54]; simp [aheadF, c_1, eik_2, c_4, c_5, c_6, c_8]) _ _ hP hD hS _ (lv_sub hl [0, 1, 2, 3, 4, 5] rfl)
                  · refine lv_aload_n hx hb dX1_at_75 rfl (lv_at hl 3 rfl) ?_
                    refine lv_iload hx hb dX1_at_76 (lv_at hl 0 rfl) ?_
                    refine x_iald (f := earM F T L Z tc rc) hx hb hK hP 2 0 rfl rfl (k := j) (by omega) (Nat.le_of_ble_eq_true rfl) dX1_at_78 ?_
                    refine lv_aload_n hx hb dX1_at_79 rfl (lv_at hl 3 rfl) ?_
                    refine lv_iload_n hx hb dX1_at_80 rfl (lv_at hl 2 rfl) ?_
                    refine x_iald (f := earM F T L Z tc rc) hx hb hK hP 2 0 rfl rfl (k := v) (by omega) (Nat.le_of_ble_eq_true rfl) dX1_at_81 ?_
                    refine lv_icmp_ne (x := (earM F T L Z tc rc) j) (y := (earM F T L Z tc rc) v) (tgt := 95) hx hb dX1_at_82 (by decide) (fun c_9 => ?_) (fun c_9 => ?_)
                    · refine lv_iconst (v := 0) hx hb dX1_at_95 (by decide) ?_
                      refine lv_iadd (x := nI ah) (y := 0) hx hb dX1_at_96 ?_
                      refine x_top (w := nI (ah + 0)) (nI_add ah 0) ?_
                      refine lv_istore (lv' := [(4, .int (nI (ah + 0))), (5, .int (nI j)), (3, .int (nI v)), (2, .ref u_3), (0, .ref (b 0)), (1, .int (nI k_2))]) hx hb dX1_at_97 hl (by decide) rfl (fun ls hl => ?_)
                      refine lv_iinc (v := nI (j + 1)) (lv' := [(5, .int (nI (j + 1))), (4, .int (nI (ah + 0))), (3, .int (nI v)), (2, .ref u_3), (0, .ref (b 0)), (1, .int (nI k_2))]) hx hb dX1_at_99 hl (k := 1) rfl (x_inc _) (by decide) rfl (fun ls hl => ?_)
                      refine lv_goto (tgt := 54) hx hb dX1_at_102 (by decide) ?_
                      exact ih_54 n549 (by omega) (j + 1) (ah + 0) (by omega) (by rw [← hfin_54]; simp [aheadF, c_1, eik_2, c_4, c_5, c_6, c_8, c_9]) _ _ hP hD hS _ (lv_sub hl [0, 1, 2, 3, 4, 5] rfl)
                    · refine lv_iload hx hb dX1_at_85 (lv_at hl 0 rfl) ?_
                      refine lv_iload_n hx hb dX1_at_87 rfl (lv_at hl 2 rfl) ?_
                      refine lv_icmp_ge (x := nI j) (y := nI v) (tgt := 95) hx hb dX1_at_88 (by decide) (fun c_10 => ?_) (fun c_10 => ?_)
                      · have c_10 := (nI_leI (a := v) (b := j) (by omega) (by omega)).mp c_10
                        refine lv_iconst (v := 0) hx hb dX1_at_95 (by decide) ?_
                        refine lv_iadd (x := nI ah) (y := 0) hx hb dX1_at_96 ?_
                        refine x_top (w := nI (ah + 0)) (nI_add ah 0) ?_
                        refine lv_istore (lv' := [(4, .int (nI (ah + 0))), (5, .int (nI j)), (3, .int (nI v)), (2, .ref u_3), (0, .ref (b 0)), (1, .int (nI k_2))]) hx hb dX1_at_97 hl (by decide) rfl (fun ls hl => ?_)
                        refine lv_iinc (v := nI (j + 1)) (lv' := [(5, .int (nI (j + 1))), (4, .int (nI (ah + 0))), (3, .int (nI v)), (2, .ref u_3), (0, .ref (b 0)), (1, .int (nI k_2))]) hx hb dX1_at_99 hl (k := 1) rfl (x_inc _) (by decide) rfl (fun ls hl => ?_)
                        refine lv_goto (tgt := 54) hx hb dX1_at_102 (by decide) ?_
                        exact ih_54 n549 (by omega) (j + 1) (ah + 0) (by omega) (by rw [← hfin_54]; simp [aheadF, c_1, eik_2, c_4, c_5, c_6, c_8, c_9, c_10, Nat.not_lt.mpr c_10]) _ _ hP hD hS _ (lv_sub hl [0, 1, 2, 3, 4, 5] rfl)
                      · have c_10 : j < v := Nat.lt_of_not_le (fun z9 => c_10 ((nI_leI (a := v) (b := j) (by omega) (by omega)).mpr z9))
                        refine lv_iconst (v := 1) hx hb dX1_at_91 (by decide) ?_
                        refine lv_goto (tgt := 96) hx hb dX1_at_92 (by decide) ?_
                        refine lv_iadd (x := nI ah) (y := 1) hx hb dX1_at_96 ?_
                        refine x_top (w := nI (ah + 1)) (nI_add ah 1) ?_
                        refine lv_istore (lv' := [(4, .int (nI (ah + 1))), (5, .int (nI j)), (3, .int (nI v)), (2, .ref u_3), (0, .ref (b 0)), (1, .int (nI k_2))]) hx hb dX1_at_97 hl (by decide) rfl (fun ls hl => ?_)
                        refine lv_iinc (v := nI (j + 1)) (lv' := [(5, .int (nI (j + 1))), (4, .int (nI (ah + 1))), (3, .int (nI v)), (2, .ref u_3), (0, .ref (b 0)), (1, .int (nI k_2))]) hx hb dX1_at_99 hl (k := 1) rfl (x_inc _) (by decide) rfl (fun ls hl => ?_)
                        refine lv_goto (tgt := 54) hx hb dX1_at_102 (by decide) ?_
                        exact ih_54 n549 (by omega) (j + 1) (ah + 1) (by omega) (by rw [← hfin_54]; simp [aheadF, c_1, eik_2, c_4, c_5, c_6, c_8, c_9, c_10]) _ _ hP hD hS _ (lv_sub hl [0, 1, 2, 3, 4, 5] rfl)
            exact lp_54 tc 0 0 (by omega) rfl _ _ hP hD hS _ (lv_sub hl [0, 1, 2, 3, 4, 5] rfl)
      exact lp_40 tc 0 (by omega) rfl _ _ hP hD hS _ (lv_sub hl [0, 1, 2, 3] rfl)
    · have c_4 := Classical.not_not.mp (of_decide_eq_false (bI_0 c_4))
      refine lv_aload_n hx hb dX1_at_32 rfl (lv_at hl 1 rfl) ?_
      refine lv_iconst (v := 2) hx hb dX1_at_33 (by decide) ?_
      refine xm_V (b := b 0) (As := [.int 2]) (rest := []) (wr := [xArr (t 0) (b 1) 120 (mkM F T L Z), xArr (t 0) u_3 13 (earM F T L Z tc rc)]) ⟨hx, hb, hml, hown, hts⟩ xTrav_T (c_X1_fail l D t b 0 tc rc 2 _) (cwV 1 hts gX1_at_X1_fail rfl rfl rfl hd_X1_fail ⟨Nat.le_of_ble_eq_true rfl, Nat.le_of_ble_eq_true rfl⟩) hK hP hD hS hA (fun _ _ _ => trivial) (va_recv hK hP (ci := 1) (q0 := 0) rfl rfl) [0] [1, 2] rfl rfl (by decide) (by decide) (by decide) rfl hl.1 rfl (Nat.le_of_ble_eq_true rfl) dX1_at_34 ⟨(Nat.le_of_ble_eq_true rfl), (Nat.le_of_ble_eq_true rfl)⟩ (fun u_11 H locs hu hP hD hS hz => ?_)
      have hP : va_P D vwCl ([xMod b 2 tc rc, xArr (t 0) (b 1) 120 (mkM F T L Z), xArr (t 0) u_3 13 (earM F T L Z tc rc)]) H := hP.sub [2, 0, 1] rfl
      have hD : va_D _ ([xMod b 2 tc rc, xArr (t 0) (b 1) 120 (mkM F T L Z), xArr (t 0) u_3 13 (earM F T L Z tc rc)]) := hD.sub [2, 0, 1] (by decide) rfl
      have hP : va_P D vwCl ([xMod b 2 tc rc, xArr (t 0) (b 1) 120 (mkM F T L Z)]) H := hP.sub [0, 1] rfl
      have hD : va_D _ ([xMod b 2 tc rc, xArr (t 0) (b 1) 120 (mkM F T L Z)]) := hD.sub [0, 1] (by decide) rfl
      have hk9 : c2 (kAt tc (earM F T L Z tc rc 12) p0) = 2 := by simp [c2, kAt, c_1, eik_2, c_4]
      have hP9 : va_P D vwCl ([xMod b (nI (c2 (kAt tc (earM F T L Z tc rc 12) p0))) tc rc, xArr (t 0) (b 1) 120 (mkM F T L Z)]) H := by rw [hk9]; exact hP
      have hD9 : va_D A ([xMod b (nI (c2 (kAt tc (earM F T L Z tc rc 12) p0))) tc rc, xArr (t 0) (b 1) 120 (mkM F T L Z)]) := by rw [hk9]; exact hD
      subst hAe
      obtain ⟨hq9, hf9⟩ := xm_end (S := Unit) (pu := (fun u : Unit => True)) (r := (fun u : Unit => some (.int (if c2 (kAt tc (earM F T L Z tc rc 12) p0) = 0 then atF (earM F T L Z tc rc) tc (ix p0) tc 0 else 0)))) (wc := [xMod b th tc rc, xArr (t 0) (b 1) 120 (mkM F T L Z)]) (w1 := (fun u : Unit => [xMod b (nI (c2 (kAt tc (earM F T L Z tc rc 12) p0))) tc rc, xArr (t 0) (b 1) 120 (mkM F T L Z)])) (o := some (.int 0)) (args := ([.ref (b 0), .int p0] : List Value).toArray) () rfl trivial (by first | (rw [hk9]; rfl) | (simp only [hk9]; done) | (simp [hk9, c_1, eik_2, c_4]; done)) hP9 hD9 hS
      exact W.iret hx hb hr hq9 hf9 dX1_at_37 hlocks
  · have c_1 := bI_0 c_1
    refine lv_aload_n hx hb dX1_at_13 rfl (lv_at hl 0 rfl) ?_
    refine lv_iconst (v := 1) hx hb dX1_at_14 (by decide) ?_
    refine xm_V (b := b 0) (As := [.int 1]) (rest := []) (wr := [xArr (t 0) (b 1) 120 (mkM F T L Z)]) ⟨hx, hb, hml, hown, hts⟩ xTrav_T (c_X1_fail l D t b 0 tc rc 1 _) (cwV 1 hts gX1_at_X1_fail rfl rfl rfl hd_X1_fail ⟨Nat.le_of_ble_eq_true rfl, Nat.le_of_ble_eq_true rfl⟩) hK hP hD hS hA (fun _ _ _ => trivial) (va_recv hK hP (ci := 1) (q0 := 0) rfl rfl) [0] [1] rfl rfl (by decide) (by decide) (by decide) rfl hl.1 rfl (Nat.le_of_ble_eq_true rfl) dX1_at_15 ⟨(Nat.le_of_ble_eq_true rfl), (Nat.le_of_ble_eq_true rfl)⟩ (fun u_12 H locs hu hP hD hS hz => ?_)
    have hP : va_P D vwCl ([xMod b 1 tc rc, xArr (t 0) (b 1) 120 (mkM F T L Z)]) H := hP.sub [1, 0] rfl
    have hD : va_D _ ([xMod b 1 tc rc, xArr (t 0) (b 1) 120 (mkM F T L Z)]) := hD.sub [1, 0] (by decide) rfl
    have hk9 : c2 (kAt tc (earM F T L Z tc rc 12) p0) = 1 := by simp [c2, kAt, c_1]
    have hP9 : va_P D vwCl ([xMod b (nI (c2 (kAt tc (earM F T L Z tc rc 12) p0))) tc rc, xArr (t 0) (b 1) 120 (mkM F T L Z)]) H := by rw [hk9]; exact hP
    have hD9 : va_D A ([xMod b (nI (c2 (kAt tc (earM F T L Z tc rc 12) p0))) tc rc, xArr (t 0) (b 1) 120 (mkM F T L Z)]) := by rw [hk9]; exact hD
    subst hAe
    refine W.widen (k := 1) (n := 13) (Nat.le_of_ble_eq_true rfl) (Nat.le_of_ble_eq_true rfl) ?_
    obtain ⟨hq9, hf9⟩ := xm_end (S := Unit) (pu := (fun u : Unit => True)) (r := (fun u : Unit => some (.int (if c2 (kAt tc (earM F T L Z tc rc 12) p0) = 0 then atF (earM F T L Z tc rc) tc (ix p0) tc 0 else 0)))) (wc := [xMod b th tc rc, xArr (t 0) (b 1) 120 (mkM F T L Z)]) (w1 := (fun u : Unit => [xMod b (nI (c2 (kAt tc (earM F T L Z tc rc 12) p0))) tc rc, xArr (t 0) (b 1) 120 (mkM F T L Z)])) (o := some (.int 0)) (args := ([.ref (b 0), .int p0] : List Value).toArray) () rfl trivial (by first | (rw [hk9]; rfl) | (simp only [hk9]; done) | (simp [hk9, c_1]; done)) hP9 hD9 hS
    exact W.iret hx hb hr hq9 hf9 dX1_at_18 hlocks
set_option maxHeartbeats 4000000 in
set_option maxRecDepth 100000 in
theorem c_X1_turn (l : Launch) (D : va_G) (t : Nat → ClassId) (b : Nat → Nat) (th : Int32) (tc rc : Nat) (F T : Nat → Nat) (L : Nat → Int32) (Z : Nat → Bool) (sz : Nat) (htc : tc ≤ 12) (hrc : rc ≤ 30) (hF : ∀ r, r < rc → F r < tc ∧ T r < tc) : Met l yX1_turn wsX1_turn ({ frames := 1, cells := 0, slots := 0, locals := 21 }) (xMu D (xTy t) (va_AOA .int) [.ref (b 0)] [xMod b th tc rc, xArr (t 0) (b 1) 120 (mkM F T L Z)] sz) (xQm D (fun u : Unit => True) (fun u : Unit => some (.int (if c1 (kTurn tc) = 0 then nI tc else 0))) [xMod b th tc rc, xArr (t 0) (b 1) 120 (mkM F T L Z)] (fun u : Unit => [xMod b (nI (c1 (kTurn tc))) (if c1 (kTurn tc) = 0 then tc + 1 else tc) rc, xArr (t 0) (b 1) 120 (mkM F T L Z)]) sz) 0 0 (va_A [xMod b th tc rc, xArr (t 0) (b 1) 120 (mkM F T L Z)] sz) := by
  refine Met.ofW (cc := cX1_turn) (maxL := 1) (ret := (some .int)) (by decide) rfl ?_
  intro p e s m args below meth c s₁ hB9 hml hv
  obtain ⟨rfl, hsz, hP, hK, hD0, hXX⟩ := hv
  have hx := hB9.exec
  have hb := hB9.bytes
  have hr := hB9.returns
  have hts := atoms_spec (ws := wsX1_turn) hB9.pre
  have hown : s.vm.findClass RX1 = some m.cls := findClass_of_methodNamed hB9.named
  have hlocks := hB9.notSynchronized
  have hin : ∀ w ∈ wsX10, w ∈ wsX1_turn := fun _ h => List.mem_cons_of_mem _ (List.mem_append_right _ h)
  have fl_13 := hts (.fieldLink RX1 13 "RopeTimesModel" "thrown" "I") (by decide +kernel)
  have fl_17 := hts (.fieldLink RX1 17 "RopeTimesModel" "turns" "I") (by decide +kernel)
  subst hsz
  have hD := hD0.self (sz := s.heap.size)
  generalize hAe : va_A ([xMod b th tc rc, xArr (t 0) (b 1) 120 (mkM F T L Z)]) s.heap.size = A at hD ⊢
  have hA : ∀ q : Nat, s.heap.size ≤ q → A q := fun q h => by rw [← hAe]; exact Or.inr h
  have hS : va_S A s.heap s.heap [] := va_S.rf
  have hP : va_P D vwCl ([xMod b th tc rc, xArr (t 0) (b 1) 120 (mkM F T L Z)]) s.heap := hP
  have hD : va_D A ([xMod b th tc rc, xArr (t 0) (b 1) 120 (mkM F T L Z)]) := hD
  have hl := lv_entry ([.ref (b 0)]) (n := 1) (Nat.le_of_ble_eq_true rfl)
  rw [lg_entry_eq]
  generalize (lg_sl ([.ref (b 0)]) ++ List.replicate (1 - (lg_sl ([.ref (b 0)])).length) Slot.unset).toArray = ls at hl ⊢
  have hl : lv_has ls 1 [(0, .ref (b 0))] := hl
  refine lv_aload_n hx hb dX1_turn_0 rfl (lv_at hl 0 rfl) ?_
  refine lv_iconst (v := 0) hx hb dX1_turn_1 (by decide) ?_
  refine x1_put (x := 0) hx hb hts hin hown hK hP hD hS 0 ([xMod b 0 tc rc, xArr (t 0) (b 1) 120 (mkM F T L Z)]) rfl 0 (by decide) fl_13 rfl rfl (Nat.le_of_ble_eq_true rfl) rfl dX1_turn_2 rfl (fun H locs hP hD hS => ?_)
  refine lv_aload_n hx hb dX1_turn_5 rfl (lv_at hl 0 rfl) ?_
  refine x1_get (v := .int (nI tc)) hx hb hts hin hown hK hP 0 rfl 1 (by decide) fl_17 rfl dX1_turn_6 rfl ?_
  refine lv_bipush (v := 12) hx hb dX1_turn_9 (by decide) ?_
  refine lv_icmp_ne (x := nI tc) (y := 12) (tgt := 20) hx hb dX1_turn_11 (by decide) (fun c_1 => ?_) (fun c_1 => ?_)
  · have c_1 : ¬ tc = 12 := fun z9 => c_1 ((nI_eq (a := tc) (b := 12) (by omega) (by omega)).mpr z9)
    have hlt_2 : tc < 12 := by omega
    refine lv_aload_n hx hb dX1_turn_20 rfl (lv_at hl 0 rfl) ?_
    refine lv_dup hx hb dX1_turn_21 rfl ?_
    refine x1_get (v := .int (nI tc)) hx hb hts hin hown hK hP 0 rfl 1 (by decide) fl_17 rfl dX1_turn_22 rfl ?_
    refine lv_iconst (v := 1) hx hb dX1_turn_25 (by decide) ?_
    refine lv_iadd (x := nI tc) (y := 1) hx hb dX1_turn_26 ?_
    refine x_top (w := nI (tc + 1)) (nI_add tc 1) ?_
    refine x1_put (x := nI (tc + 1)) hx hb hts hin hown hK hP hD hS 0 ([xMod b 0 (tc + 1) rc, xArr (t 0) (b 1) 120 (mkM F T L Z)]) rfl 1 (by decide) fl_17 rfl rfl (Nat.le_of_ble_eq_true rfl) rfl dX1_turn_27 rfl (fun H locs hP hD hS => ?_)
    refine lv_aload_n hx hb dX1_turn_30 rfl (lv_at hl 0 rfl) ?_
    refine x1_get (v := .int (nI (tc + 1))) hx hb hts hin hown hK hP 0 rfl 1 (by decide) fl_17 rfl dX1_turn_31 rfl ?_
    refine lv_iconst (v := 1) hx hb dX1_turn_34 (by decide) ?_
    refine lv_isub (x := nI (tc + 1)) (y := 1) hx hb dX1_turn_35 ?_
    refine x_top (w := nI tc) (nI_pred tc) ?_
    have hk9 : c1 (kTurn tc) = 0 := by simp [c1, kTurn, c_1, hlt_2]
    have hP9 : va_P D vwCl ([xMod b (nI (c1 (kTurn tc))) (if c1 (kTurn tc) = 0 then tc + 1 else tc) rc, xArr (t 0) (b 1) 120 (mkM F T L Z)]) H := by rw [hk9]; exact hP
    have hD9 : va_D A ([xMod b (nI (c1 (kTurn tc))) (if c1 (kTurn tc) = 0 then tc + 1 else tc) rc, xArr (t 0) (b 1) 120 (mkM F T L Z)]) := by rw [hk9]; exact hD
    subst hAe
    obtain ⟨hq9, hf9⟩ := xm_end (S := Unit) (pu := (fun u : Unit => True)) (r := (fun u : Unit => some (.int (if c1 (kTurn tc) = 0 then nI tc else 0)))) (wc := [xMod b th tc rc, xArr (t 0) (b 1) 120 (mkM F T L Z)]) (w1 := (fun u : Unit => [xMod b (nI (c1 (kTurn tc))) (if c1 (kTurn tc) = 0 then tc + 1 else tc) rc, xArr (t 0) (b 1) 120 (mkM F T L Z)])) (o := some (.int (nI tc))) (args := ([.ref (b 0)] : List Value).toArray) () rfl trivial (by first | (rw [hk9]; rfl) | (simp only [hk9]; done) | (simp [hk9, c_1, hlt_2]; done)) hP9 hD9 hS
    exact W.iret hx hb hr hq9 hf9 dX1_turn_36 hlocks
  · have c_1 := (nI_eq (a := tc) (b := 12) (by omega) (by omega)).mp c_1
    refine lv_aload_n hx hb dX1_turn_14 rfl (lv_at hl 0 rfl) ?_
    refine lv_iconst (v := 1) hx hb dX1_turn_15 (by decide) ?_
    refine xm_V (b := b 0) (As := [.int 1]) (rest := []) (wr := [xArr (t 0) (b 1) 120 (mkM F T L Z)]) ⟨hx, hb, hml, hown, hts⟩ xTrav_T (c_X1_fail l D t b 0 tc rc 1 _) (cwV 1 hts gX1_turn_X1_fail rfl rfl rfl hd_X1_fail ⟨Nat.le_of_ble_eq_true rfl, Nat.le_of_ble_eq_true rfl⟩) hK hP hD hS hA (fun _ _ _ => trivial) (va_recv hK hP (ci := 1) (q0 := 0) rfl rfl) [0] [1] rfl rfl (by decide) (by decide) (by decide) rfl hl.1 rfl (Nat.le_of_ble_eq_true rfl) dX1_turn_16 ⟨(Nat.le_of_ble_eq_true rfl), (Nat.le_of_ble_eq_true rfl)⟩ (fun u_3 H locs hu hP hD hS hz => ?_)
    have hP : va_P D vwCl ([xMod b 1 tc rc, xArr (t 0) (b 1) 120 (mkM F T L Z)]) H := hP.sub [1, 0] rfl
    have hD : va_D _ ([xMod b 1 tc rc, xArr (t 0) (b 1) 120 (mkM F T L Z)]) := hD.sub [1, 0] (by decide) rfl
    have hk9 : c1 (kTurn tc) = 1 := by simp [c1, kTurn, c_1]
    have hP9 : va_P D vwCl ([xMod b (nI (c1 (kTurn tc))) (if c1 (kTurn tc) = 0 then tc + 1 else tc) rc, xArr (t 0) (b 1) 120 (mkM F T L Z)]) H := by rw [hk9]; exact hP
    have hD9 : va_D A ([xMod b (nI (c1 (kTurn tc))) (if c1 (kTurn tc) = 0 then tc + 1 else tc) rc, xArr (t 0) (b 1) 120 (mkM F T L Z)]) := by rw [hk9]; exact hD
    subst hAe
    obtain ⟨hq9, hf9⟩ := xm_end (S := Unit) (pu := (fun u : Unit => True)) (r := (fun u : Unit => some (.int (if c1 (kTurn tc) = 0 then nI tc else 0)))) (wc := [xMod b th tc rc, xArr (t 0) (b 1) 120 (mkM F T L Z)]) (w1 := (fun u : Unit => [xMod b (nI (c1 (kTurn tc))) (if c1 (kTurn tc) = 0 then tc + 1 else tc) rc, xArr (t 0) (b 1) 120 (mkM F T L Z)])) (o := some (.int 0)) (args := ([.ref (b 0)] : List Value).toArray) () rfl trivial (by first | (rw [hk9]; rfl) | (simp only [hk9]; done) | (simp [hk9, c_1]; done)) hP9 hD9 hS
    exact W.iret hx hb hr hq9 hf9 dX1_turn_19 hlocks
set_option maxHeartbeats 4000000 in
set_option maxRecDepth 100000 in
theorem c_X1_tie (l : Launch) (D : va_G) (t : Nat → ClassId) (b : Nat → Nat) (th : Int32) (tc rc : Nat) (F T : Nat → Nat) (L : Nat → Int32) (Z : Nat → Bool) (p0 p1 p2 : Int32) (sz : Nat) (htc : tc ≤ 12) (hrc : rc ≤ 30) (hF : ∀ r, r < rc → F r < tc ∧ T r < tc) : Met l yX1_tie wsX1_tie ({ frames := 2, cells := 1, slots := 4, locals := 60 }) (xMu D (xTy t) (va_AOA .int) [.ref (b 0), .int p0, .int p1, .int p2] [xMod b th tc rc, xArr (t 0) (b 1) 120 (mkM F T L Z)] sz) (xQm D (fun u : Unit => True) (fun u : Unit => some (.int (if kTie tc rc p0 p1 p2 = 0 then nI rc else 0))) [xMod b th tc rc, xArr (t 0) (b 1) 120 (mkM F T L Z)] (fun u : Unit => [xMod b (nI (kTie tc rc p0 p1 p2)) tc (if kTie tc rc p0 p1 p2 = 0 then rc + 1 else rc), xArr (t 0) (b 1) 120 (mkM (if kTie tc rc p0 p1 p2 = 0 then updN F rc (ix p0) else F) (if kTie tc rc p0 p1 p2 = 0 then updN T rc (ix p1) else T) (if kTie tc rc p0 p1 p2 = 0 then upd L rc p2 else L) (if kTie tc rc p0 p1 p2 = 0 then updB Z rc true else Z))]) sz) 1 4 (va_A [xMod b th tc rc, xArr (t 0) (b 1) 120 (mkM F T L Z)] sz) := by
  refine Met.ofW (cc := cX1_tie) (maxL := 5) (ret := (some .int)) (by decide) rfl ?_
  intro p e s m args below meth c s₁ hB9 hml hv
  obtain ⟨rfl, hsz, hP, hK, hD0, hXX⟩ := hv
  have hx := hB9.exec
  have hb := hB9.bytes
  have hr := hB9.returns
  have hts := atoms_spec (ws := wsX1_tie) hB9.pre
  have hown : s.vm.findClass RX1 = some m.cls := findClass_of_methodNamed hB9.named
  have hlocks := hB9.notSynchronized
  have hin : ∀ w ∈ wsX10, w ∈ wsX1_tie := fun _ h => List.mem_cons_of_mem _ (List.mem_append_right _ h)
  have fl_13 := hts (.fieldLink RX1 13 "RopeTimesModel" "thrown" "I") (by decide +kernel)
  have fl_24 := hts (.fieldLink RX1 24 "RopeTimesModel" "ropes" "I") (by decide +kernel)
  have fl_9 := hts (.fieldLink RX1 9 "RopeTimesModel" "rows" "[I") (by decide +kernel)
  subst hsz
  have hD := hD0.self (sz := s.heap.size)
  generalize hAe : va_A ([xMod b th tc rc, xArr (t 0) (b 1) 120 (mkM F T L Z)]) s.heap.size = A at hD ⊢
  have hA : ∀ q : Nat, s.heap.size ≤ q → A q := fun q h => by rw [← hAe]; exact Or.inr h
  have hS : va_S A s.heap s.heap [] := va_S.rf
  have hP : va_P D vwCl ([xMod b th tc rc, xArr (t 0) (b 1) 120 (mkM F T L Z)]) s.heap := hP
  have hD : va_D A ([xMod b th tc rc, xArr (t 0) (b 1) 120 (mkM F T L Z)]) := hD
  have hl := lv_entry ([.ref (b 0), .int p0, .int p1, .int p2]) (n := 5) (Nat.le_of_ble_eq_true rfl)
  rw [lg_entry_eq]
  generalize (lg_sl ([.ref (b 0), .int p0, .int p1, .int p2]) ++ List.replicate (5 - (lg_sl ([.ref (b 0), .int p0, .int p1, .int p2])).length) Slot.unset).toArray = ls at hl ⊢
  have hl : lv_has ls 5 [(0, .ref (b 0)), (1, .int p0), (2, .int p1), (3, .int p2)] := hl
  refine lv_aload_n hx hb dX1_tie_0 rfl (lv_at hl 0 rfl) ?_
  refine lv_iconst (v := 0) hx hb dX1_tie_1 (by decide) ?_
  refine x1_put (x := 0) hx hb hts hin hown hK hP hD hS 0 ([xMod b 0 tc rc, xArr (t 0) (b 1) 120 (mkM F T L Z)]) rfl 0 (by decide) fl_13 rfl rfl (Nat.le_of_ble_eq_true rfl) rfl dX1_tie_2 rfl (fun H locs hP hD hS => ?_)
  refine lv_aload_n hx hb dX1_tie_5 rfl (lv_at hl 0 rfl) ?_
  refine lv_iload_n hx hb dX1_tie_6 rfl (lv_at hl 1 rfl) ?_
  refine xr_V (b := b 0) (As := [.int p0]) (rest := []) ⟨hx, hb, hml, hown, hts⟩ (c_X1_isTurn l D t b 0 tc rc p0 (by omega)) (cwV 1 hts gX1_tie_X1_isTurn rfl rfl rfl hd_X1_isTurn ⟨Nat.le_of_ble_eq_true rfl, Nat.le_of_ble_eq_true rfl⟩) hK hP (va_recv hK hP (ci := 1) (q0 := 0) rfl rfl) [0] rfl rfl hl.1 rfl (Nat.le_of_ble_eq_true rfl) dX1_tie_7 ⟨(Nat.le_of_ble_eq_true rfl), (Nat.le_of_ble_eq_true rfl)⟩ ?_
  refine lv_if_eq (x := bI (inB p0 tc)) (tgt := 21) hx hb dX1_tie_10 (by decide) (fun c_1 => ?_) (fun c_1 => ?_)
  · have c_1 := bI_0 c_1
    refine lv_aload_n hx hb dX1_tie_21 rfl (lv_at hl 0 rfl) ?_
    refine lv_iconst (v := 1) hx hb dX1_tie_22 (by decide) ?_
    refine xm_V (b := b 0) (As := [.int 1]) (rest := []) (wr := [xArr (t 0) (b 1) 120 (mkM F T L Z)]) ⟨hx, hb, hml, hown, hts⟩ xTrav_T (c_X1_fail l D t b 0 tc rc 1 _) (cwV 1 hts gX1_tie_X1_fail rfl rfl rfl hd_X1_fail ⟨Nat.le_of_ble_eq_true rfl, Nat.le_of_ble_eq_true rfl⟩) hK hP hD hS hA (fun _ _ _ => trivial) (va_recv hK hP (ci := 1) (q0 := 0) rfl rfl) [0] [1] rfl rfl (by decide) (by decide) (by decide) rfl hl.1 rfl (Nat.le_of_ble_eq_true rfl) dX1_tie_23 ⟨(Nat.le_of_ble_eq_true rfl), (Nat.le_of_ble_eq_true rfl)⟩ (fun u_2 H locs hu hP hD hS hz => ?_)
    have hP : va_P D vwCl ([xMod b 1 tc rc, xArr (t 0) (b 1) 120 (mkM F T L Z)]) H := hP.sub [1, 0] rfl
    have hD : va_D _ ([xMod b 1 tc rc, xArr (t 0) (b 1) 120 (mkM F T L Z)]) := hD.sub [1, 0] (by decide) rfl
    have hk9 : kTie tc rc p0 p1 p2 = 1 := by simp [kTie, c_1]
    have hP9 : va_P D vwCl ([xMod b (nI (kTie tc rc p0 p1 p2)) tc (if kTie tc rc p0 p1 p2 = 0 then rc + 1 else rc), xArr (t 0) (b 1) 120 (mkM (if kTie tc rc p0 p1 p2 = 0 then updN F rc (ix p0) else F) (if kTie tc rc p0 p1 p2 = 0 then updN T rc (ix p1) else T) (if kTie tc rc p0 p1 p2 = 0 then upd L rc p2 else L) (if kTie tc rc p0 p1 p2 = 0 then updB Z rc true else Z))]) H := by rw [hk9]; exact hP
    have hD9 : va_D A ([xMod b (nI (kTie tc rc p0 p1 p2)) tc (if kTie tc rc p0 p1 p2 = 0 then rc + 1 else rc), xArr (t 0) (b 1) 120 (mkM (if kTie tc rc p0 p1 p2 = 0 then updN F rc (ix p0) else F) (if kTie tc rc p0 p1 p2 = 0 then updN T rc (ix p1) else T) (if kTie tc rc p0 p1 p2 = 0 then upd L rc p2 else L) (if kTie tc rc p0 p1 p2 = 0 then updB Z rc true else Z))]) := by rw [hk9]; exact hD
    subst hAe
    refine W.widen (k := 1) (n := 4) (Nat.le_of_ble_eq_true rfl) (Nat.le_of_ble_eq_true rfl) ?_
    obtain ⟨hq9, hf9⟩ := xm_end (S := Unit) (pu := (fun u : Unit => True)) (r := (fun u : Unit => some (.int (if kTie tc rc p0 p1 p2 = 0 then nI rc else 0)))) (wc := [xMod b th tc rc, xArr (t 0) (b 1) 120 (mkM F T L Z)]) (w1 := (fun u : Unit => [xMod b (nI (kTie tc rc p0 p1 p2)) tc (if kTie tc rc p0 p1 p2 = 0 then rc + 1 else rc), xArr (t 0) (b 1) 120 (mkM (if kTie tc rc p0 p1 p2 = 0 then updN F rc (ix p0) else F) (if kTie tc rc p0 p1 p2 = 0 then updN T rc (ix p1) else T) (if kTie tc rc p0 p1 p2 = 0 then upd L rc p2 else L) (if kTie tc rc p0 p1 p2 = 0 then updB Z rc true else Z))])) (o := some (.int 0)) (args := ([.ref (b 0), .int p0, .int p1, .int p2] : List Value).toArray) () rfl trivial (by first | (rw [hk9]; rfl) | (simp only [hk9]; done) | (simp [hk9, c_1]; done)) hP9 hD9 hS
    exact W.iret hx hb hr hq9 hf9 dX1_tie_26 hlocks
  · have c_1 := bI_n0 c_1
    obtain ⟨k_3, hk_3, ek_3⟩ := inB_of c_1 (by omega)
    have eik_3 : ix p0 = k_3 := by rw [ek_3]; exact ix_nI (by omega)
    have hl : lv_has ls 5 [(0, .ref (b 0)), (1, .int (nI k_3)), (2, .int p1), (3, .int p2)] := by rw [← ek_3]; exact hl
    refine lv_aload_n hx hb dX1_tie_13 rfl (lv_at hl 0 rfl) ?_
    refine lv_iload_n hx hb dX1_tie_14 rfl (lv_at hl 2 rfl) ?_
    refine xr_V (b := b 0) (As := [.int p1]) (rest := []) ⟨hx, hb, hml, hown, hts⟩ (c_X1_isTurn l D t b 0 tc rc p1 (by omega)) (cwV 1 hts gX1_tie_X1_isTurn rfl rfl rfl hd_X1_isTurn ⟨Nat.le_of_ble_eq_true rfl, Nat.le_of_ble_eq_true rfl⟩) hK hP (va_recv hK hP (ci := 1) (q0 := 0) rfl rfl) [0] rfl rfl hl.1 rfl (Nat.le_of_ble_eq_true rfl) dX1_tie_15 ⟨(Nat.le_of_ble_eq_true rfl), (Nat.le_of_ble_eq_true rfl)⟩ ?_
    refine lv_if_ne (x := bI (inB p1 tc)) (tgt := 27) hx hb dX1_tie_18 (by decide) (fun c_4 => ?_) (fun c_4 => ?_)
    · have c_4 := bI_n0 c_4
      obtain ⟨k_5, hk_5, ek_5⟩ := inB_of c_4 (by omega)
      have eik_5 : ix p1 = k_5 := by rw [ek_5]; exact ix_nI (by omega)
      have hl : lv_has ls 5 [(0, .ref (b 0)), (1, .int (nI k_3)), (2, .int (nI k_5)), (3, .int p2)] := by rw [← ek_5]; exact hl
      refine lv_iload_n hx hb dX1_tie_27 rfl (lv_at hl 1 rfl) ?_
      refine lv_iload_n hx hb dX1_tie_28 rfl (lv_at hl 2 rfl) ?_
      refine lv_icmp_eq (x := nI k_3) (y := nI k_5) (tgt := 39) hx hb dX1_tie_29 (by decide) (fun c_6 => ?_) (fun c_6 => ?_)
      · have c_6 := (nI_eq (a := k_3) (b := k_5) (by omega) (by omega)).mp c_6
        have hpe_7 : p0 = p1 := by rw [ek_3, ek_5, c_6]
        refine lv_aload_n hx hb dX1_tie_39 rfl (lv_at hl 0 rfl) ?_
        refine lv_iconst (v := 2) hx hb dX1_tie_40 (by decide) ?_
        refine xm_V (b := b 0) (As := [.int 2]) (rest := []) (wr := [xArr (t 0) (b 1) 120 (mkM F T L Z)]) ⟨hx, hb, hml, hown, hts⟩ xTrav_T (c_X1_fail l D t b 0 tc rc 2 _) (cwV 1 hts gX1_tie_X1_fail rfl rfl rfl hd_X1_fail ⟨Nat.le_of_ble_eq_true rfl, Nat.le_of_ble_eq_true rfl⟩) hK hP hD hS hA (fun _ _ _ => trivial) (va_recv hK hP (ci := 1) (q0 := 0) rfl rfl) [0] [1] rfl rfl (by decide) (by decide) (by decide) rfl hl.1 rfl (Nat.le_of_ble_eq_true rfl) dX1_tie_41 ⟨(Nat.le_of_ble_eq_true rfl), (Nat.le_of_ble_eq_true rfl)⟩ (fun u_8 H locs hu hP hD hS hz => ?_)
        have hP : va_P D vwCl ([xMod b 2 tc rc, xArr (t 0) (b 1) 120 (mkM F T L Z)]) H := hP.sub [1, 0] rfl
        have hD : va_D _ ([xMod b 2 tc rc, xArr (t 0) (b 1) 120 (mkM F T L Z)]) := hD.sub [1, 0] (by decide) rfl
        have hk9 : kTie tc rc p0 p1 p2 = 2 := by simp [kTie, c_1, eik_3, c_4, eik_5, hpe_7]
        have hP9 : va_P D vwCl ([xMod b (nI (kTie tc rc p0 p1 p2)) tc (if kTie tc rc p0 p1 p2 = 0 then rc + 1 else rc), xArr (t 0) (b 1) 120 (mkM (if kTie tc rc p0 p1 p2 = 0 then updN F rc (ix p0) else F) (if kTie tc rc p0 p1 p2 = 0 then updN T rc (ix p1) else T) (if kTie tc rc p0 p1 p2 = 0 then upd L rc p2 else L) (if kTie tc rc p0 p1 p2 = 0 then updB Z rc true else Z))]) H := by rw [hk9]; exact hP
        have hD9 : va_D A ([xMod b (nI (kTie tc rc p0 p1 p2)) tc (if kTie tc rc p0 p1 p2 = 0 then rc + 1 else rc), xArr (t 0) (b 1) 120 (mkM (if kTie tc rc p0 p1 p2 = 0 then updN F rc (ix p0) else F) (if kTie tc rc p0 p1 p2 = 0 then updN T rc (ix p1) else T) (if kTie tc rc p0 p1 p2 = 0 then upd L rc p2 else L) (if kTie tc rc p0 p1 p2 = 0 then updB Z rc true else Z))]) := by rw [hk9]; exact hD
        subst hAe
        refine W.widen (k := 1) (n := 4) (Nat.le_of_ble_eq_true rfl) (Nat.le_of_ble_eq_true rfl) ?_
        obtain ⟨hq9, hf9⟩ := xm_end (S := Unit) (pu := (fun u : Unit => True)) (r := (fun u : Unit => some (.int (if kTie tc rc p0 p1 p2 = 0 then nI rc else 0)))) (wc := [xMod b th tc rc, xArr (t 0) (b 1) 120 (mkM F T L Z)]) (w1 := (fun u : Unit => [xMod b (nI (kTie tc rc p0 p1 p2)) tc (if kTie tc rc p0 p1 p2 = 0 then rc + 1 else rc), xArr (t 0) (b 1) 120 (mkM (if kTie tc rc p0 p1 p2 = 0 then updN F rc (ix p0) else F) (if kTie tc rc p0 p1 p2 = 0 then updN T rc (ix p1) else T) (if kTie tc rc p0 p1 p2 = 0 then upd L rc p2 else L) (if kTie tc rc p0 p1 p2 = 0 then updB Z rc true else Z))])) (o := some (.int 0)) (args := ([.ref (b 0), .int p0, .int p1, .int p2] : List Value).toArray) () rfl trivial (by first | (rw [hk9]; rfl) | (simp only [hk9]; done) | (simp [hk9, c_1, eik_3, c_4, eik_5, hpe_7]; done)) hP9 hD9 hS
        exact W.iret hx hb hr hq9 hf9 dX1_tie_44 hlocks
      · have c_6 : ¬ k_3 = k_5 := fun z9 => c_6 ((nI_eq (a := k_3) (b := k_5) (by omega) (by omega)).mpr z9)
        have hpn_9 : ¬ p0 = p1 := inB_ne (n := 0) ek_3 ek_5 c_6 (by omega) (by omega)
        refine lv_iload_n hx hb dX1_tie_32 rfl (lv_at hl 3 rfl) ?_
        refine xr_S (As := [.int p2]) (rest := []) ⟨hx, hb, hml, hown, hts⟩ (c_X1_isLong l D t p2) (va_cwS 1 hts gX1_tie_X1_isLong rfl rfl rfl hd_X1_isLong ⟨Nat.le_of_ble_eq_true rfl, Nat.le_of_ble_eq_true rfl⟩) hK hP [] rfl rfl hl.1 rfl (Nat.le_of_ble_eq_true rfl) dX1_tie_33 ⟨(Nat.le_of_ble_eq_true rfl), (Nat.le_of_ble_eq_true rfl)⟩ ?_
        refine lv_if_ne (x := bI (lenB p2)) (tgt := 45) hx hb dX1_tie_36 (by decide) (fun c_10 => ?_) (fun c_10 => ?_)
        · have c_10 := bI_n0 c_10
          refine lv_aload_n hx hb dX1_tie_45 rfl (lv_at hl 0 rfl) ?_
          refine x1_get (v := .int (nI rc)) hx hb hts hin hown hK hP 0 rfl 2 (by decide) fl_24 rfl dX1_tie_46 rfl ?_
          refine lv_bipush (v := 30) hx hb dX1_tie_49 (by decide) ?_
          refine lv_icmp_ne (x := nI rc) (y := 30) (tgt := 60) hx hb dX1_tie_51 (by decide) (fun c_11 => ?_) (fun c_11 => ?_)
          · have c_11 : ¬ rc = 30 := fun z9 => c_11 ((nI_eq (a := rc) (b := 30) (by omega) (by omega)).mpr z9)
            have hlt_12 : rc < 30 := by omega
            refine lv_iconst (v := 4) hx hb dX1_tie_60 (by decide) ?_
            refine x_newa (atype := .int) (ty := .int) (a0 := (4, .inl (fun _ => 0))) (n := 4) (N' := 4) (cT := t 0) hx hb (hts (.arrayClass .int) (by decide +kernel)) rfl 0 rfl (by intro C h; cases h) hK hP hD hS hA (fun _ => rfl) (by decide) (by decide) (Nat.le_of_ble_eq_true rfl) (Nat.le_of_ble_eq_true rfl) (Nat.le_of_ble_eq_true rfl) dX1_tie_61 (fun q_13 H hP hD hS => ?_)
            have hP : va_P D vwCl ([xMod b 0 tc rc, xArr (t 0) (b 1) 120 (mkM F T L Z), xArr (t 0) q_13 4 (fun _ => 0)]) H := hP
            have hD : va_D _ ([xMod b 0 tc rc, xArr (t 0) (b 1) 120 (mkM F T L Z), xArr (t 0) q_13 4 (fun _ => 0)]) := hD
            refine lv_dup hx hb dX1_tie_63 rfl ?_
            refine lv_iconst (v := 0) hx hb dX1_tie_64 (by decide) ?_
            refine lv_iload_n hx hb dX1_tie_65 rfl (lv_at hl 1 rfl) ?_
            refine x_iast (x := nI k_3) (f := (fun _ => 0)) hx hb hK hP hD hS 2 0 ([xMod b 0 tc rc, xArr (t 0) (b 1) 120 (mkM F T L Z), xArr (t 0) q_13 4 (upd (fun _ => 0) 0 (nI k_3))]) rfl rfl (k := 0) rfl (Nat.le_of_ble_eq_true rfl) (Nat.le_of_ble_eq_true rfl) dX1_tie_66 (fun H locs hP hD hS => ?_)
            refine lv_dup hx hb dX1_tie_67 rfl ?_
            refine lv_iconst (v := 1) hx hb dX1_tie_68 (by decide) ?_
            refine lv_iload_n hx hb dX1_tie_69 rfl (lv_at hl 2 rfl) ?_
            refine x_iast (x := nI k_5) (f := upd (fun _ => 0) 0 (nI k_3)) hx hb hK hP hD hS 2 0 ([xMod b 0 tc rc, xArr (t 0) (b 1) 120 (mkM F T L Z), xArr (t 0) q_13 4 (upd (upd (fun _ => 0) 0 (nI k_3)) 1 (nI k_5))]) rfl rfl (k := 1) rfl (Nat.le_of_ble_eq_true rfl) (Nat.le_of_ble_eq_true rfl) dX1_tie_70 (fun H locs hP hD hS => ?_)
            refine lv_dup hx hb dX1_tie_71 rfl ?_
            refine lv_iconst (v := 2) hx hb dX1_tie_72 (by decide) ?_
            refine lv_iload_n hx hb dX1_tie_73 rfl (lv_at hl 3 rfl) ?_
            refine x_iast (x := p2) (f := upd (upd (fun _ => 0) 0 (nI k_3)) 1 (nI k_5)) hx hb hK hP hD hS 2 0 ([xMod b 0 tc rc, xArr (t 0) (b 1) 120 (mkM F T L Z), xArr (t 0) q_13 4 (upd (upd (upd (fun _ => 0) 0 (nI k_3)) 1 (nI k_5)) 2 p2)]) rfl rfl (k := 2) rfl (Nat.le_of_ble_eq_true rfl) (Nat.le_of_ble_eq_true rfl) dX1_tie_74 (fun H locs hP hD hS => ?_)
            refine lv_dup hx hb dX1_tie_75 rfl ?_
            refine lv_iconst (v := 3) hx hb dX1_tie_76 (by decide) ?_
            refine lv_iconst (v := 1) hx hb dX1_tie_77 (by decide) ?_
            refine x_iast (x := 1) (f := upd (upd (upd (fun _ => 0) 0 (nI k_3)) 1 (nI k_5)) 2 p2) hx hb hK hP hD hS 2 0 ([xMod b 0 tc rc, xArr (t 0) (b 1) 120 (mkM F T L Z), xArr (t 0) q_13 4 (upd (upd (upd (upd (fun _ => 0) 0 (nI k_3)) 1 (nI k_5)) 2 p2) 3 1)]) rfl rfl (k := 3) rfl (Nat.le_of_ble_eq_true rfl) (Nat.le_of_ble_eq_true rfl) dX1_tie_78 (fun H locs hP hD hS => ?_)
            refine lv_astore (lv' := [(4, .ref q_13), (0, .ref (b 0)), (1, .int (nI k_3)), (2, .int (nI k_5)), (3, .int p2)]) hx hb dX1_tie_79 hl (by decide) rfl (fun ls hl => ?_)
            refine lv_aload hx hb dX1_tie_81 (lv_at hl 0 rfl) ?_
            refine lv_iconst (v := 0) hx hb dX1_tie_83 (by decide) ?_
            refine lv_aload_n hx hb dX1_tie_84 rfl (lv_at hl 1 rfl) ?_
            refine x1_get (v := .ref (b 1)) hx hb hts hin hown hK hP 0 rfl 3 (by decide) fl_9 rfl dX1_tie_85 rfl ?_
            refine lv_iconst (v := 4) hx hb dX1_tie_88 (by decide) ?_
            refine lv_aload_n hx hb dX1_tie_89 rfl (lv_at hl 1 rfl) ?_
            refine x1_get (v := .int (nI rc)) hx hb hts hin hown hK hP 0 rfl 2 (by decide) fl_24 rfl dX1_tie_90 rfl ?_
            refine lv_imul (x := 4) (y := nI rc) hx hb dX1_tie_93 ?_
            refine x_top (w := nI (4 * rc)) (pk_mul 4 rc) ?_
            refine lv_iconst (v := 4) hx hb dX1_tie_94 (by decide) ?_
            refine x_copy4 (F := F) (T := T) (L := L) (Z := Z) (rc := rc) (ka := k_3) (kb := k_5) (w := p2) hx hb (hml.trans hl.1.symm) hown (hts (.methodLink RX1 68 arraycopyName) (by decide +kernel)) (hts (.native arraycopyName) (by decide +kernel)) (hts (.static arraycopyName) (by decide +kernel)) (hts (.initialized "java/lang/System") (by decide +kernel)) hK hP hD hS 2 1 0 ([xMod b 0 tc rc, xArr (t 0) (b 1) 120 (mkM (updN F rc k_3) (updN T rc k_5) (upd L rc p2) (updB Z rc true)), xArr (t 0) q_13 4 (upd (upd (upd (upd (fun _ => 0) 0 (nI k_3)) 1 (nI k_5)) 2 p2) 3 1)]) rfl rfl rfl rfl rfl rfl rfl (by omega) rfl (Nat.le_of_ble_eq_true rfl) (Nat.le_of_ble_eq_true rfl) dX1_tie_95 (fun H locs hP hD hS => ?_)
            refine lv_aload_n hx hb dX1_tie_98 rfl (lv_at hl 1 rfl) ?_
            refine lv_dup hx hb dX1_tie_99 rfl ?_
            refine x1_get (v := .int (nI rc)) hx hb hts hin hown hK hP 0 rfl 2 (by decide) fl_24 rfl dX1_tie_100 rfl ?_
            refine lv_iconst (v := 1) hx hb dX1_tie_103 (by decide) ?_
            refine lv_iadd (x := nI rc) (y := 1) hx hb dX1_tie_104 ?_
            refine x_top (w := nI (rc + 1)) (nI_add rc 1) ?_
            refine x1_put (x := nI (rc + 1)) hx hb hts hin hown hK hP hD hS 0 ([xMod b 0 tc (rc + 1), xArr (t 0) (b 1) 120 (mkM (updN F rc k_3) (updN T rc k_5) (upd L rc p2) (updB Z rc true)), xArr (t 0) q_13 4 (upd (upd (upd (upd (fun _ => 0) 0 (nI k_3)) 1 (nI k_5)) 2 p2) 3 1)]) rfl 2 (by decide) fl_24 rfl rfl (Nat.le_of_ble_eq_true rfl) rfl dX1_tie_105 rfl (fun H locs hP hD hS => ?_)
            refine lv_aload_n hx hb dX1_tie_108 rfl (lv_at hl 1 rfl) ?_
            refine x1_get (v := .int (nI (rc + 1))) hx hb hts hin hown hK hP 0 rfl 2 (by decide) fl_24 rfl dX1_tie_109 rfl ?_
            refine lv_iconst (v := 1) hx hb dX1_tie_112 (by decide) ?_
            refine lv_isub (x := nI (rc + 1)) (y := 1) hx hb dX1_tie_113 ?_
            refine x_top (w := nI rc) (nI_pred rc) ?_
            have hP : va_P D vwCl ([xMod b 0 tc (rc + 1), xArr (t 0) (b 1) 120 (mkM (updN F rc k_3) (updN T rc k_5) (upd L rc p2) (updB Z rc true))]) H := hP.sub [0, 1] rfl
            have hD : va_D _ ([xMod b 0 tc (rc + 1), xArr (t 0) (b 1) 120 (mkM (updN F rc k_3) (updN T rc k_5) (upd L rc p2) (updB Z rc true))]) := hD.sub [0, 1] (by decide) rfl
            have hk9 : kTie tc rc p0 p1 p2 = 0 := by simp [kTie, c_1, eik_3, c_4, eik_5, hpn_9, c_10, c_11, hlt_12]
            have hP9 : va_P D vwCl ([xMod b (nI (kTie tc rc p0 p1 p2)) tc (if kTie tc rc p0 p1 p2 = 0 then rc + 1 else rc), xArr (t 0) (b 1) 120 (mkM (if kTie tc rc p0 p1 p2 = 0 then updN F rc (ix p0) else F) (if kTie tc rc p0 p1 p2 = 0 then updN T rc (ix p1) else T) (if kTie tc rc p0 p1 p2 = 0 then upd L rc p2 else L) (if kTie tc rc p0 p1 p2 = 0 then updB Z rc true else Z))]) H := by rw [hk9, eik_3, eik_5]; exact hP
            have hD9 : va_D A ([xMod b (nI (kTie tc rc p0 p1 p2)) tc (if kTie tc rc p0 p1 p2 = 0 then rc + 1 else rc), xArr (t 0) (b 1) 120 (mkM (if kTie tc rc p0 p1 p2 = 0 then updN F rc (ix p0) else F) (if kTie tc rc p0 p1 p2 = 0 then updN T rc (ix p1) else T) (if kTie tc rc p0 p1 p2 = 0 then upd L rc p2 else L) (if kTie tc rc p0 p1 p2 = 0 then updB Z rc true else Z))]) := by rw [hk9, eik_3, eik_5]; exact hD
            subst hAe
            obtain ⟨hq9, hf9⟩ := xm_end (S := Unit) (pu := (fun u : Unit => True)) (r := (fun u : Unit => some (.int (if kTie tc rc p0 p1 p2 = 0 then nI rc else 0)))) (wc := [xMod b th tc rc, xArr (t 0) (b 1) 120 (mkM F T L Z)]) (w1 := (fun u : Unit => [xMod b (nI (kTie tc rc p0 p1 p2)) tc (if kTie tc rc p0 p1 p2 = 0 then rc + 1 else rc), xArr (t 0) (b 1) 120 (mkM (if kTie tc rc p0 p1 p2 = 0 then updN F rc (ix p0) else F) (if kTie tc rc p0 p1 p2 = 0 then updN T rc (ix p1) else T) (if kTie tc rc p0 p1 p2 = 0 then upd L rc p2 else L) (if kTie tc rc p0 p1 p2 = 0 then updB Z rc true else Z))])) (o := some (.int (nI rc))) (args := ([.ref (b 0), .int p0, .int p1, .int p2] : List Value).toArray) () rfl trivial (by first | (rw [hk9]; rfl) | (simp only [hk9]; done) | (simp [hk9, c_1, eik_3, c_4, eik_5, hpn_9, c_10, c_11, hlt_12]; done)) hP9 hD9 hS
            exact W.iret hx hb hr hq9 hf9 dX1_tie_114 hlocks
          · have c_11 := (nI_eq (a := rc) (b := 30) (by omega) (by omega)).mp c_11
            refine lv_aload_n hx hb dX1_tie_54 rfl (lv_at hl 0 rfl) ?_
            refine lv_iconst (v := 3) hx hb dX1_tie_55 (by decide) ?_
            refine xm_V (b := b 0) (As := [.int 3]) (rest := []) (wr := [xArr (t 0) (b 1) 120 (mkM F T L Z)]) ⟨hx, hb, hml, hown, hts⟩ xTrav_T (c_X1_fail l D t b 0 tc rc 3 _) (cwV 1 hts gX1_tie_X1_fail rfl rfl rfl hd_X1_fail ⟨Nat.le_of_ble_eq_true rfl, Nat.le_of_ble_eq_true rfl⟩) hK hP hD hS hA (fun _ _ _ => trivial) (va_recv hK hP (ci := 1) (q0 := 0) rfl rfl) [0] [1] rfl rfl (by decide) (by decide) (by decide) rfl hl.1 rfl (Nat.le_of_ble_eq_true rfl) dX1_tie_56 ⟨(Nat.le_of_ble_eq_true rfl), (Nat.le_of_ble_eq_true rfl)⟩ (fun u_14 H locs hu hP hD hS hz => ?_)
            have hP : va_P D vwCl ([xMod b 3 tc rc, xArr (t 0) (b 1) 120 (mkM F T L Z)]) H := hP.sub [1, 0] rfl
            have hD : va_D _ ([xMod b 3 tc rc, xArr (t 0) (b 1) 120 (mkM F T L Z)]) := hD.sub [1, 0] (by decide) rfl
            have hk9 : kTie tc rc p0 p1 p2 = 3 := by simp [kTie, c_1, eik_3, c_4, eik_5, hpn_9, c_10, c_11]
            have hP9 : va_P D vwCl ([xMod b (nI (kTie tc rc p0 p1 p2)) tc (if kTie tc rc p0 p1 p2 = 0 then rc + 1 else rc), xArr (t 0) (b 1) 120 (mkM (if kTie tc rc p0 p1 p2 = 0 then updN F rc (ix p0) else F) (if kTie tc rc p0 p1 p2 = 0 then updN T rc (ix p1) else T) (if kTie tc rc p0 p1 p2 = 0 then upd L rc p2 else L) (if kTie tc rc p0 p1 p2 = 0 then updB Z rc true else Z))]) H := by rw [hk9]; exact hP
            have hD9 : va_D A ([xMod b (nI (kTie tc rc p0 p1 p2)) tc (if kTie tc rc p0 p1 p2 = 0 then rc + 1 else rc), xArr (t 0) (b 1) 120 (mkM (if kTie tc rc p0 p1 p2 = 0 then updN F rc (ix p0) else F) (if kTie tc rc p0 p1 p2 = 0 then updN T rc (ix p1) else T) (if kTie tc rc p0 p1 p2 = 0 then upd L rc p2 else L) (if kTie tc rc p0 p1 p2 = 0 then updB Z rc true else Z))]) := by rw [hk9]; exact hD
            subst hAe
            refine W.widen (k := 1) (n := 4) (Nat.le_of_ble_eq_true rfl) (Nat.le_of_ble_eq_true rfl) ?_
            obtain ⟨hq9, hf9⟩ := xm_end (S := Unit) (pu := (fun u : Unit => True)) (r := (fun u : Unit => some (.int (if kTie tc rc p0 p1 p2 = 0 then nI rc else 0)))) (wc := [xMod b th tc rc, xArr (t 0) (b 1) 120 (mkM F T L Z)]) (w1 := (fun u : Unit => [xMod b (nI (kTie tc rc p0 p1 p2)) tc (if kTie tc rc p0 p1 p2 = 0 then rc + 1 else rc), xArr (t 0) (b 1) 120 (mkM (if kTie tc rc p0 p1 p2 = 0 then updN F rc (ix p0) else F) (if kTie tc rc p0 p1 p2 = 0 then updN T rc (ix p1) else T) (if kTie tc rc p0 p1 p2 = 0 then upd L rc p2 else L) (if kTie tc rc p0 p1 p2 = 0 then updB Z rc true else Z))])) (o := some (.int 0)) (args := ([.ref (b 0), .int p0, .int p1, .int p2] : List Value).toArray) () rfl trivial (by first | (rw [hk9]; rfl) | (simp only [hk9]; done) | (simp [hk9, c_1, eik_3, c_4, eik_5, hpn_9, c_10, c_11]; done)) hP9 hD9 hS
            exact W.iret hx hb hr hq9 hf9 dX1_tie_59 hlocks
        · have c_10 := bI_0 c_10
          refine lv_aload_n hx hb dX1_tie_39 rfl (lv_at hl 0 rfl) ?_
          refine lv_iconst (v := 2) hx hb dX1_tie_40 (by decide) ?_
          refine xm_V (b := b 0) (As := [.int 2]) (rest := []) (wr := [xArr (t 0) (b 1) 120 (mkM F T L Z)]) ⟨hx, hb, hml, hown, hts⟩ xTrav_T (c_X1_fail l D t b 0 tc rc 2 _) (cwV 1 hts gX1_tie_X1_fail rfl rfl rfl hd_X1_fail ⟨Nat.le_of_ble_eq_true rfl, Nat.le_of_ble_eq_true rfl⟩) hK hP hD hS hA (fun _ _ _ => trivial) (va_recv hK hP (ci := 1) (q0 := 0) rfl rfl) [0] [1] rfl rfl (by decide) (by decide) (by decide) rfl hl.1 rfl (Nat.le_of_ble_eq_true rfl) dX1_tie_41 ⟨(Nat.le_of_ble_eq_true rfl), (Nat.le_of_ble_eq_true rfl)⟩ (fun u_15 H locs hu hP hD hS hz => ?_)
          have hP : va_P D vwCl ([xMod b 2 tc rc, xArr (t 0) (b 1) 120 (mkM F T L Z)]) H := hP.sub [1, 0] rfl
          have hD : va_D _ ([xMod b 2 tc rc, xArr (t 0) (b 1) 120 (mkM F T L Z)]) := hD.sub [1, 0] (by decide) rfl
          have hk9 : kTie tc rc p0 p1 p2 = 2 := by simp [kTie, c_1, eik_3, c_4, eik_5, hpn_9, c_10]
          have hP9 : va_P D vwCl ([xMod b (nI (kTie tc rc p0 p1 p2)) tc (if kTie tc rc p0 p1 p2 = 0 then rc + 1 else rc), xArr (t 0) (b 1) 120 (mkM (if kTie tc rc p0 p1 p2 = 0 then updN F rc (ix p0) else F) (if kTie tc rc p0 p1 p2 = 0 then updN T rc (ix p1) else T) (if kTie tc rc p0 p1 p2 = 0 then upd L rc p2 else L) (if kTie tc rc p0 p1 p2 = 0 then updB Z rc true else Z))]) H := by rw [hk9]; exact hP
          have hD9 : va_D A ([xMod b (nI (kTie tc rc p0 p1 p2)) tc (if kTie tc rc p0 p1 p2 = 0 then rc + 1 else rc), xArr (t 0) (b 1) 120 (mkM (if kTie tc rc p0 p1 p2 = 0 then updN F rc (ix p0) else F) (if kTie tc rc p0 p1 p2 = 0 then updN T rc (ix p1) else T) (if kTie tc rc p0 p1 p2 = 0 then upd L rc p2 else L) (if kTie tc rc p0 p1 p2 = 0 then updB Z rc true else Z))]) := by rw [hk9]; exact hD
          subst hAe
          refine W.widen (k := 1) (n := 4) (Nat.le_of_ble_eq_true rfl) (Nat.le_of_ble_eq_true rfl) ?_
          obtain ⟨hq9, hf9⟩ := xm_end (S := Unit) (pu := (fun u : Unit => True)) (r := (fun u : Unit => some (.int (if kTie tc rc p0 p1 p2 = 0 then nI rc else 0)))) (wc := [xMod b th tc rc, xArr (t 0) (b 1) 120 (mkM F T L Z)]) (w1 := (fun u : Unit => [xMod b (nI (kTie tc rc p0 p1 p2)) tc (if kTie tc rc p0 p1 p2 = 0 then rc + 1 else rc), xArr (t 0) (b 1) 120 (mkM (if kTie tc rc p0 p1 p2 = 0 then updN F rc (ix p0) else F) (if kTie tc rc p0 p1 p2 = 0 then updN T rc (ix p1) else T) (if kTie tc rc p0 p1 p2 = 0 then upd L rc p2 else L) (if kTie tc rc p0 p1 p2 = 0 then updB Z rc true else Z))])) (o := some (.int 0)) (args := ([.ref (b 0), .int p0, .int p1, .int p2] : List Value).toArray) () rfl trivial (by first | (rw [hk9]; rfl) | (simp only [hk9]; done) | (simp [hk9, c_1, eik_3, c_4, eik_5, hpn_9, c_10]; done)) hP9 hD9 hS
          exact W.iret hx hb hr hq9 hf9 dX1_tie_44 hlocks
    · have c_4 := bI_0 c_4
      refine lv_aload_n hx hb dX1_tie_21 rfl (lv_at hl 0 rfl) ?_
      refine lv_iconst (v := 1) hx hb dX1_tie_22 (by decide) ?_
      refine xm_V (b := b 0) (As := [.int 1]) (rest := []) (wr := [xArr (t 0) (b 1) 120 (mkM F T L Z)]) ⟨hx, hb, hml, hown, hts⟩ xTrav_T (c_X1_fail l D t b 0 tc rc 1 _) (cwV 1 hts gX1_tie_X1_fail rfl rfl rfl hd_X1_fail ⟨Nat.le_of_ble_eq_true rfl, Nat.le_of_ble_eq_true rfl⟩) hK hP hD hS hA (fun _ _ _ => trivial) (va_recv hK hP (ci := 1) (q0 := 0) rfl rfl) [0] [1] rfl rfl (by decide) (by decide) (by decide) rfl hl.1 rfl (Nat.le_of_ble_eq_true rfl) dX1_tie_23 ⟨(Nat.le_of_ble_eq_true rfl), (Nat.le_of_ble_eq_true rfl)⟩ (fun u_16 H locs hu hP hD hS hz => ?_)
      have hP : va_P D vwCl ([xMod b 1 tc rc, xArr (t 0) (b 1) 120 (mkM F T L Z)]) H := hP.sub [1, 0] rfl
      have hD : va_D _ ([xMod b 1 tc rc, xArr (t 0) (b 1) 120 (mkM F T L Z)]) := hD.sub [1, 0] (by decide) rfl
      have hk9 : kTie tc rc p0 p1 p2 = 1 := by simp [kTie, c_1, eik_3, c_4]
      have hP9 : va_P D vwCl ([xMod b (nI (kTie tc rc p0 p1 p2)) tc (if kTie tc rc p0 p1 p2 = 0 then rc + 1 else rc), xArr (t 0) (b 1) 120 (mkM (if kTie tc rc p0 p1 p2 = 0 then updN F rc (ix p0) else F) (if kTie tc rc p0 p1 p2 = 0 then updN T rc (ix p1) else T) (if kTie tc rc p0 p1 p2 = 0 then upd L rc p2 else L) (if kTie tc rc p0 p1 p2 = 0 then updB Z rc true else Z))]) H := by rw [hk9]; exact hP
      have hD9 : va_D A ([xMod b (nI (kTie tc rc p0 p1 p2)) tc (if kTie tc rc p0 p1 p2 = 0 then rc + 1 else rc), xArr (t 0) (b 1) 120 (mkM (if kTie tc rc p0 p1 p2 = 0 then updN F rc (ix p0) else F) (if kTie tc rc p0 p1 p2 = 0 then updN T rc (ix p1) else T) (if kTie tc rc p0 p1 p2 = 0 then upd L rc p2 else L) (if kTie tc rc p0 p1 p2 = 0 then updB Z rc true else Z))]) := by rw [hk9]; exact hD
      subst hAe
      refine W.widen (k := 1) (n := 4) (Nat.le_of_ble_eq_true rfl) (Nat.le_of_ble_eq_true rfl) ?_
      obtain ⟨hq9, hf9⟩ := xm_end (S := Unit) (pu := (fun u : Unit => True)) (r := (fun u : Unit => some (.int (if kTie tc rc p0 p1 p2 = 0 then nI rc else 0)))) (wc := [xMod b th tc rc, xArr (t 0) (b 1) 120 (mkM F T L Z)]) (w1 := (fun u : Unit => [xMod b (nI (kTie tc rc p0 p1 p2)) tc (if kTie tc rc p0 p1 p2 = 0 then rc + 1 else rc), xArr (t 0) (b 1) 120 (mkM (if kTie tc rc p0 p1 p2 = 0 then updN F rc (ix p0) else F) (if kTie tc rc p0 p1 p2 = 0 then updN T rc (ix p1) else T) (if kTie tc rc p0 p1 p2 = 0 then upd L rc p2 else L) (if kTie tc rc p0 p1 p2 = 0 then updB Z rc true else Z))])) (o := some (.int 0)) (args := ([.ref (b 0), .int p0, .int p1, .int p2] : List Value).toArray) () rfl trivial (by first | (rw [hk9]; rfl) | (simp only [hk9]; done) | (simp [hk9, c_1, eik_3, c_4]; done)) hP9 hD9 hS
      exact W.iret hx hb hr hq9 hf9 dX1_tie_26 hlocks
set_option maxHeartbeats 4000000 in
set_option maxRecDepth 100000 in
theorem c_X1_cut (l : Launch) (D : va_G) (t : Nat → ClassId) (b : Nat → Nat) (th : Int32) (tc rc : Nat) (F T : Nat → Nat) (L : Nat → Int32) (Z : Nat → Bool) (p0 p1 : Int32) (sz : Nat) (htc : tc ≤ 12) (hrc : rc ≤ 30) (hF : ∀ r, r < rc → F r < tc ∧ T r < tc) : Met l yX1_cut wsX1_cut ({ frames := 2, cells := 0, slots := 0, locals := 43 }) (xMu D (xTy t) (va_AOA .int) [.ref (b 0), .int p0, .int p1] [xMod b th tc rc, xArr (t 0) (b 1) 120 (mkM F T L Z)] sz) (xQm D (fun u : Unit => True) (fun u : Unit => some (.int (if kCut rc p0 p1 = 0 then L (ix p0) else 0))) [xMod b th tc rc, xArr (t 0) (b 1) 120 (mkM F T L Z)] (fun u : Unit => [xMod b (nI (kCut rc p0 p1)) tc rc, xArr (t 0) (b 1) 120 (mkM F T (if kCut rc p0 p1 = 0 then upd L (ix p0) p1 else L) Z)]) sz) 0 0 (va_A [xMod b th tc rc, xArr (t 0) (b 1) 120 (mkM F T L Z)] sz) := by
  refine Met.ofW (cc := cX1_cut) (maxL := 4) (ret := (some .int)) (by decide) rfl ?_
  intro p e s m args below meth c s₁ hB9 hml hv
  obtain ⟨rfl, hsz, hP, hK, hD0, hXX⟩ := hv
  have hx := hB9.exec
  have hb := hB9.bytes
  have hr := hB9.returns
  have hts := atoms_spec (ws := wsX1_cut) hB9.pre
  have hown : s.vm.findClass RX1 = some m.cls := findClass_of_methodNamed hB9.named
  have hlocks := hB9.notSynchronized
  have hin : ∀ w ∈ wsX10, w ∈ wsX1_cut := fun _ h => List.mem_cons_of_mem _ (List.mem_append_right _ h)
  have fl_13 := hts (.fieldLink RX1 13 "RopeTimesModel" "thrown" "I") (by decide +kernel)
  have fl_9 := hts (.fieldLink RX1 9 "RopeTimesModel" "rows" "[I") (by decide +kernel)
  subst hsz
  have hD := hD0.self (sz := s.heap.size)
  generalize hAe : va_A ([xMod b th tc rc, xArr (t 0) (b 1) 120 (mkM F T L Z)]) s.heap.size = A at hD ⊢
  have hA : ∀ q : Nat, s.heap.size ≤ q → A q := fun q h => by rw [← hAe]; exact Or.inr h
  have hS : va_S A s.heap s.heap [] := va_S.rf
  have hP : va_P D vwCl ([xMod b th tc rc, xArr (t 0) (b 1) 120 (mkM F T L Z)]) s.heap := hP
  have hD : va_D A ([xMod b th tc rc, xArr (t 0) (b 1) 120 (mkM F T L Z)]) := hD
  have hl := lv_entry ([.ref (b 0), .int p0, .int p1]) (n := 4) (Nat.le_of_ble_eq_true rfl)
  rw [lg_entry_eq]
  generalize (lg_sl ([.ref (b 0), .int p0, .int p1]) ++ List.replicate (4 - (lg_sl ([.ref (b 0), .int p0, .int p1])).length) Slot.unset).toArray = ls at hl ⊢
  have hl : lv_has ls 4 [(0, .ref (b 0)), (1, .int p0), (2, .int p1)] := hl
  refine lv_aload_n hx hb dX1_cut_0 rfl (lv_at hl 0 rfl) ?_
  refine lv_iconst (v := 0) hx hb dX1_cut_1 (by decide) ?_
  refine x1_put (x := 0) hx hb hts hin hown hK hP hD hS 0 ([xMod b 0 tc rc, xArr (t 0) (b 1) 120 (mkM F T L Z)]) rfl 0 (by decide) fl_13 rfl rfl (Nat.le_of_ble_eq_true rfl) rfl dX1_cut_2 rfl (fun H locs hP hD hS => ?_)
  refine lv_aload_n hx hb dX1_cut_5 rfl (lv_at hl 0 rfl) ?_
  refine lv_iload_n hx hb dX1_cut_6 rfl (lv_at hl 1 rfl) ?_
  refine xr_V (b := b 0) (As := [.int p0]) (rest := []) ⟨hx, hb, hml, hown, hts⟩ (c_X1_isRope l D t b 0 tc rc p0 (by omega)) (cwV 1 hts gX1_cut_X1_isRope rfl rfl rfl hd_X1_isRope ⟨Nat.le_of_ble_eq_true rfl, Nat.le_of_ble_eq_true rfl⟩) hK hP (va_recv hK hP (ci := 1) (q0 := 0) rfl rfl) [0] rfl rfl hl.1 rfl (Nat.le_of_ble_eq_true rfl) dX1_cut_7 ⟨(Nat.le_of_ble_eq_true rfl), (Nat.le_of_ble_eq_true rfl)⟩ ?_
  refine lv_if_ne (x := bI (inB p0 rc)) (tgt := 19) hx hb dX1_cut_10 (by decide) (fun c_1 => ?_) (fun c_1 => ?_)
  · have c_1 := bI_n0 c_1
    obtain ⟨k_2, hk_2, ek_2⟩ := inB_of c_1 (by omega)
    have eik_2 : ix p0 = k_2 := by rw [ek_2]; exact ix_nI (by omega)
    have hl : lv_has ls 4 [(0, .ref (b 0)), (1, .int (nI k_2)), (2, .int p1)] := by rw [← ek_2]; exact hl
    refine lv_iload_n hx hb dX1_cut_19 rfl (lv_at hl 2 rfl) ?_
    refine xr_S (As := [.int p1]) (rest := []) ⟨hx, hb, hml, hown, hts⟩ (c_X1_isLong l D t p1) (va_cwS 1 hts gX1_cut_X1_isLong rfl rfl rfl hd_X1_isLong ⟨Nat.le_of_ble_eq_true rfl, Nat.le_of_ble_eq_true rfl⟩) hK hP [] rfl rfl hl.1 rfl (Nat.le_of_ble_eq_true rfl) dX1_cut_20 ⟨(Nat.le_of_ble_eq_true rfl), (Nat.le_of_ble_eq_true rfl)⟩ ?_
    refine lv_if_ne (x := bI (lenB p1)) (tgt := 32) hx hb dX1_cut_23 (by decide) (fun c_3 => ?_) (fun c_3 => ?_)
    · have c_3 := bI_n0 c_3
      refine lv_aload_n hx hb dX1_cut_32 rfl (lv_at hl 0 rfl) ?_
      refine lv_iload_n hx hb dX1_cut_33 rfl (lv_at hl 1 rfl) ?_
      refine lv_iconst (v := 2) hx hb dX1_cut_34 (by decide) ?_
      refine xr_V (b := b 0) (As := [.int (nI k_2), .int 2]) (rest := []) ⟨hx, hb, hml, hown, hts⟩ (c_X1_ro l D t b 0 tc rc F T L Z k_2 2 (by omega) (Nat.le_of_ble_eq_true rfl)) (cwV 2 hts gX1_cut_X1_ro rfl rfl rfl hd_X1_ro ⟨Nat.le_of_ble_eq_true rfl, Nat.le_of_ble_eq_true rfl⟩) hK hP (va_recv hK hP (ci := 1) (q0 := 0) rfl rfl) [0, 1] rfl rfl hl.1 rfl (Nat.le_of_ble_eq_true rfl) dX1_cut_35 ⟨(Nat.le_of_ble_eq_true rfl), (Nat.le_of_ble_eq_true rfl)⟩ ?_
      refine x_top (w := L k_2) (mkM_2 _ _ _ _ k_2) ?_
      refine lv_istore_n (lv' := [(3, .int (L k_2)), (0, .ref (b 0)), (1, .int (nI k_2)), (2, .int p1)]) hx hb dX1_cut_38 rfl hl (by decide) rfl (fun ls hl => ?_)
      refine lv_aload_n hx hb dX1_cut_39 rfl (lv_at hl 1 rfl) ?_
      refine x1_get (v := .ref (b 1)) hx hb hts hin hown hK hP 0 rfl 3 (by decide) fl_9 rfl dX1_cut_40 rfl ?_
      refine lv_iconst (v := 4) hx hb dX1_cut_43 (by decide) ?_
      refine lv_iload_n hx hb dX1_cut_44 rfl (lv_at hl 2 rfl) ?_
      refine lv_imul (x := 4) (y := nI k_2) hx hb dX1_cut_45 ?_
      refine x_top (w := nI (4 * k_2)) (pk_mul 4 k_2) ?_
      refine lv_iconst (v := 2) hx hb dX1_cut_46 (by decide) ?_
      refine lv_iadd (x := nI (4 * k_2)) (y := 2) hx hb dX1_cut_47 ?_
      refine x_top (w := nI (4 * k_2 + 2)) (nI_add (4 * k_2) 2) ?_
      refine lv_iload_n hx hb dX1_cut_48 rfl (lv_at hl 3 rfl) ?_
      refine x_iast (x := p1) (f := mkM F T L Z) hx hb hK hP hD hS 1 0 ([xMod b 0 tc rc, xArr (t 0) (b 1) 120 (mkM F T (upd L k_2 p1) Z)]) rfl rfl (k := 4 * k_2 + 2) (by rw [mkM_L]; rfl) (by omega) (Nat.le_of_ble_eq_true rfl) dX1_cut_49 (fun H locs hP hD hS => ?_)
      refine lv_iload_n hx hb dX1_cut_50 rfl (lv_at hl 0 rfl) ?_
      have hk9 : kCut rc p0 p1 = 0 := by simp [kCut, c_1, eik_2, c_3]
      have hP9 : va_P D vwCl ([xMod b (nI (kCut rc p0 p1)) tc rc, xArr (t 0) (b 1) 120 (mkM F T (if kCut rc p0 p1 = 0 then upd L (ix p0) p1 else L) Z)]) H := by rw [hk9, eik_2]; exact hP
      have hD9 : va_D A ([xMod b (nI (kCut rc p0 p1)) tc rc, xArr (t 0) (b 1) 120 (mkM F T (if kCut rc p0 p1 = 0 then upd L (ix p0) p1 else L) Z)]) := by rw [hk9, eik_2]; exact hD
      subst hAe
      obtain ⟨hq9, hf9⟩ := xm_end (S := Unit) (pu := (fun u : Unit => True)) (r := (fun u : Unit => some (.int (if kCut rc p0 p1 = 0 then L (ix p0) else 0)))) (wc := [xMod b th tc rc, xArr (t 0) (b 1) 120 (mkM F T L Z)]) (w1 := (fun u : Unit => [xMod b (nI (kCut rc p0 p1)) tc rc, xArr (t 0) (b 1) 120 (mkM F T (if kCut rc p0 p1 = 0 then upd L (ix p0) p1 else L) Z)])) (o := some (.int (L k_2))) (args := ([.ref (b 0), .int p0, .int p1] : List Value).toArray) () rfl trivial (by first | (rw [hk9]; rfl) | (simp only [hk9]; done) | (simp [hk9, c_1, eik_2, c_3]; done)) hP9 hD9 hS
      exact W.iret hx hb hr hq9 hf9 dX1_cut_51 hlocks
    · have c_3 := bI_0 c_3
      refine lv_aload_n hx hb dX1_cut_26 rfl (lv_at hl 0 rfl) ?_
      refine lv_iconst (v := 2) hx hb dX1_cut_27 (by decide) ?_
      refine xm_V (b := b 0) (As := [.int 2]) (rest := []) (wr := [xArr (t 0) (b 1) 120 (mkM F T L Z)]) ⟨hx, hb, hml, hown, hts⟩ xTrav_T (c_X1_fail l D t b 0 tc rc 2 _) (cwV 1 hts gX1_cut_X1_fail rfl rfl rfl hd_X1_fail ⟨Nat.le_of_ble_eq_true rfl, Nat.le_of_ble_eq_true rfl⟩) hK hP hD hS hA (fun _ _ _ => trivial) (va_recv hK hP (ci := 1) (q0 := 0) rfl rfl) [0] [1] rfl rfl (by decide) (by decide) (by decide) rfl hl.1 rfl (Nat.le_of_ble_eq_true rfl) dX1_cut_28 ⟨(Nat.le_of_ble_eq_true rfl), (Nat.le_of_ble_eq_true rfl)⟩ (fun u_4 H locs hu hP hD hS hz => ?_)
      have hP : va_P D vwCl ([xMod b 2 tc rc, xArr (t 0) (b 1) 120 (mkM F T L Z)]) H := hP.sub [1, 0] rfl
      have hD : va_D _ ([xMod b 2 tc rc, xArr (t 0) (b 1) 120 (mkM F T L Z)]) := hD.sub [1, 0] (by decide) rfl
      have hk9 : kCut rc p0 p1 = 2 := by simp [kCut, c_1, eik_2, c_3]
      have hP9 : va_P D vwCl ([xMod b (nI (kCut rc p0 p1)) tc rc, xArr (t 0) (b 1) 120 (mkM F T (if kCut rc p0 p1 = 0 then upd L (ix p0) p1 else L) Z)]) H := by rw [hk9]; exact hP
      have hD9 : va_D A ([xMod b (nI (kCut rc p0 p1)) tc rc, xArr (t 0) (b 1) 120 (mkM F T (if kCut rc p0 p1 = 0 then upd L (ix p0) p1 else L) Z)]) := by rw [hk9]; exact hD
      subst hAe
      obtain ⟨hq9, hf9⟩ := xm_end (S := Unit) (pu := (fun u : Unit => True)) (r := (fun u : Unit => some (.int (if kCut rc p0 p1 = 0 then L (ix p0) else 0)))) (wc := [xMod b th tc rc, xArr (t 0) (b 1) 120 (mkM F T L Z)]) (w1 := (fun u : Unit => [xMod b (nI (kCut rc p0 p1)) tc rc, xArr (t 0) (b 1) 120 (mkM F T (if kCut rc p0 p1 = 0 then upd L (ix p0) p1 else L) Z)])) (o := some (.int 0)) (args := ([.ref (b 0), .int p0, .int p1] : List Value).toArray) () rfl trivial (by first | (rw [hk9]; rfl) | (simp only [hk9]; done) | (simp [hk9, c_1, eik_2, c_3]; done)) hP9 hD9 hS
      exact W.iret hx hb hr hq9 hf9 dX1_cut_31 hlocks
  · have c_1 := bI_0 c_1
    refine lv_aload_n hx hb dX1_cut_13 rfl (lv_at hl 0 rfl) ?_
    refine lv_iconst (v := 1) hx hb dX1_cut_14 (by decide) ?_
    refine xm_V (b := b 0) (As := [.int 1]) (rest := []) (wr := [xArr (t 0) (b 1) 120 (mkM F T L Z)]) ⟨hx, hb, hml, hown, hts⟩ xTrav_T (c_X1_fail l D t b 0 tc rc 1 _) (cwV 1 hts gX1_cut_X1_fail rfl rfl rfl hd_X1_fail ⟨Nat.le_of_ble_eq_true rfl, Nat.le_of_ble_eq_true rfl⟩) hK hP hD hS hA (fun _ _ _ => trivial) (va_recv hK hP (ci := 1) (q0 := 0) rfl rfl) [0] [1] rfl rfl (by decide) (by decide) (by decide) rfl hl.1 rfl (Nat.le_of_ble_eq_true rfl) dX1_cut_15 ⟨(Nat.le_of_ble_eq_true rfl), (Nat.le_of_ble_eq_true rfl)⟩ (fun u_5 H locs hu hP hD hS hz => ?_)
    have hP : va_P D vwCl ([xMod b 1 tc rc, xArr (t 0) (b 1) 120 (mkM F T L Z)]) H := hP.sub [1, 0] rfl
    have hD : va_D _ ([xMod b 1 tc rc, xArr (t 0) (b 1) 120 (mkM F T L Z)]) := hD.sub [1, 0] (by decide) rfl
    have hk9 : kCut rc p0 p1 = 1 := by simp [kCut, c_1]
    have hP9 : va_P D vwCl ([xMod b (nI (kCut rc p0 p1)) tc rc, xArr (t 0) (b 1) 120 (mkM F T (if kCut rc p0 p1 = 0 then upd L (ix p0) p1 else L) Z)]) H := by rw [hk9]; exact hP
    have hD9 : va_D A ([xMod b (nI (kCut rc p0 p1)) tc rc, xArr (t 0) (b 1) 120 (mkM F T (if kCut rc p0 p1 = 0 then upd L (ix p0) p1 else L) Z)]) := by rw [hk9]; exact hD
    subst hAe
    obtain ⟨hq9, hf9⟩ := xm_end (S := Unit) (pu := (fun u : Unit => True)) (r := (fun u : Unit => some (.int (if kCut rc p0 p1 = 0 then L (ix p0) else 0)))) (wc := [xMod b th tc rc, xArr (t 0) (b 1) 120 (mkM F T L Z)]) (w1 := (fun u : Unit => [xMod b (nI (kCut rc p0 p1)) tc rc, xArr (t 0) (b 1) 120 (mkM F T (if kCut rc p0 p1 = 0 then upd L (ix p0) p1 else L) Z)])) (o := some (.int 0)) (args := ([.ref (b 0), .int p0, .int p1] : List Value).toArray) () rfl trivial (by first | (rw [hk9]; rfl) | (simp only [hk9]; done) | (simp [hk9, c_1]; done)) hP9 hD9 hS
    exact W.iret hx hb hr hq9 hf9 dX1_cut_18 hlocks
set_option maxHeartbeats 4000000 in
set_option maxRecDepth 100000 in
theorem c_X1_knot (l : Launch) (D : va_G) (t : Nat → ClassId) (b : Nat → Nat) (th : Int32) (tc rc : Nat) (F T : Nat → Nat) (L : Nat → Int32) (Z : Nat → Bool) (p0 : Int32) (sz : Nat) (htc : tc ≤ 12) (hrc : rc ≤ 30) (hF : ∀ r, r < rc → F r < tc ∧ T r < tc) : Met l yX1_knot wsX1_knot ({ frames := 2, cells := 0, slots := 0, locals := 43 }) (xMu D (xTy t) (va_AOA .int) [.ref (b 0), .int p0] [xMod b th tc rc, xArr (t 0) (b 1) 120 (mkM F T L Z)] sz) (xQm D (fun u : Unit => True) (fun u : Unit => some (.int (bI (if kIn rc p0 = 0 then updB Z (ix p0) (!(Z (ix p0))) (ix p0) else false)))) [xMod b th tc rc, xArr (t 0) (b 1) 120 (mkM F T L Z)] (fun u : Unit => [xMod b (nI (kIn rc p0)) tc rc, xArr (t 0) (b 1) 120 (mkM F T L (if kIn rc p0 = 0 then updB Z (ix p0) (!(Z (ix p0))) else Z))]) sz) 0 0 (va_A [xMod b th tc rc, xArr (t 0) (b 1) 120 (mkM F T L Z)] sz) := by
  refine Met.ofW (cc := cX1_knot) (maxL := 2) (ret := (some .boolean)) (by decide) rfl ?_
  intro p e s m args below meth c s₁ hB9 hml hv
  obtain ⟨rfl, hsz, hP, hK, hD0, hXX⟩ := hv
  have hx := hB9.exec
  have hb := hB9.bytes
  have hr := hB9.returns
  have hts := atoms_spec (ws := wsX1_knot) hB9.pre
  have hown : s.vm.findClass RX1 = some m.cls := findClass_of_methodNamed hB9.named
  have hlocks := hB9.notSynchronized
  have hin : ∀ w ∈ wsX10, w ∈ wsX1_knot := fun _ h => List.mem_cons_of_mem _ (List.mem_append_right _ h)
  have fl_13 := hts (.fieldLink RX1 13 "RopeTimesModel" "thrown" "I") (by decide +kernel)
  have fl_9 := hts (.fieldLink RX1 9 "RopeTimesModel" "rows" "[I") (by decide +kernel)
  subst hsz
  have hD := hD0.self (sz := s.heap.size)
  generalize hAe : va_A ([xMod b th tc rc, xArr (t 0) (b 1) 120 (mkM F T L Z)]) s.heap.size = A at hD ⊢
  have hA : ∀ q : Nat, s.heap.size ≤ q → A q := fun q h => by rw [← hAe]; exact Or.inr h
  have hS : va_S A s.heap s.heap [] := va_S.rf
  have hP : va_P D vwCl ([xMod b th tc rc, xArr (t 0) (b 1) 120 (mkM F T L Z)]) s.heap := hP
  have hD : va_D A ([xMod b th tc rc, xArr (t 0) (b 1) 120 (mkM F T L Z)]) := hD
  have hl := lv_entry ([.ref (b 0), .int p0]) (n := 2) (Nat.le_of_ble_eq_true rfl)
  rw [lg_entry_eq]
  generalize (lg_sl ([.ref (b 0), .int p0]) ++ List.replicate (2 - (lg_sl ([.ref (b 0), .int p0])).length) Slot.unset).toArray = ls at hl ⊢
  have hl : lv_has ls 2 [(0, .ref (b 0)), (1, .int p0)] := hl
  refine lv_aload_n hx hb dX1_knot_0 rfl (lv_at hl 0 rfl) ?_
  refine lv_aload_n hx hb dX1_knot_1 rfl (lv_at hl 0 rfl) ?_
  refine lv_iload_n hx hb dX1_knot_2 rfl (lv_at hl 1 rfl) ?_
  refine xr_V (b := b 0) (As := [.int p0]) (rest := [.ref (b 0)]) ⟨hx, hb, hml, hown, hts⟩ (c_X1_isRope l D t b th tc rc p0 (by omega)) (cwV 1 hts gX1_knot_X1_isRope rfl rfl rfl hd_X1_isRope ⟨Nat.le_of_ble_eq_true rfl, Nat.le_of_ble_eq_true rfl⟩) hK hP (va_recv hK hP (ci := 1) (q0 := 0) rfl rfl) [0] rfl rfl hl.1 rfl (Nat.le_of_ble_eq_true rfl) dX1_knot_3 ⟨(Nat.le_of_ble_eq_true rfl), (Nat.le_of_ble_eq_true rfl)⟩ ?_
  refine lv_if_eq (x := bI (inB p0 rc)) (tgt := 13) hx hb dX1_knot_6 (by decide) (fun c_1 => ?_) (fun c_1 => ?_)
  · have c_1 := bI_0 c_1
    refine lv_iconst (v := 1) hx hb dX1_knot_13 (by decide) ?_
    refine x1_put (x := 1) hx hb hts hin hown hK hP hD hS 0 ([xMod b 1 tc rc, xArr (t 0) (b 1) 120 (mkM F T L Z)]) rfl 0 (by decide) fl_13 rfl rfl (Nat.le_of_ble_eq_true rfl) rfl dX1_knot_14 rfl (fun H locs hP hD hS => ?_)
    refine lv_aload_n hx hb dX1_knot_17 rfl (lv_at hl 0 rfl) ?_
    refine x1_get (v := .int 1) hx hb hts hin hown hK hP 0 rfl 0 (by decide) fl_13 rfl dX1_knot_18 rfl ?_
    refine lv_if_eq (tgt := 26) hx hb dX1_knot_21 (by decide) (fun c_2 => ?_) (fun c_2 => ?_)
    · exact False.elim (by revert c_2; decide)
    refine lv_iconst (v := 0) hx hb dX1_knot_24 (by decide) ?_
    have hk9 : kIn rc p0 = 1 := by simp [kIn, c_1]
    have hP9 : va_P D vwCl ([xMod b (nI (kIn rc p0)) tc rc, xArr (t 0) (b 1) 120 (mkM F T L (if kIn rc p0 = 0 then updB Z (ix p0) (!(Z (ix p0))) else Z))]) H := by rw [hk9]; exact hP
    have hD9 : va_D A ([xMod b (nI (kIn rc p0)) tc rc, xArr (t 0) (b 1) 120 (mkM F T L (if kIn rc p0 = 0 then updB Z (ix p0) (!(Z (ix p0))) else Z))]) := by rw [hk9]; exact hD
    subst hAe
    obtain ⟨hq9, hf9⟩ := xm_end (S := Unit) (pu := (fun u : Unit => True)) (r := (fun u : Unit => some (.int (bI (if kIn rc p0 = 0 then updB Z (ix p0) (!(Z (ix p0))) (ix p0) else false))))) (wc := [xMod b th tc rc, xArr (t 0) (b 1) 120 (mkM F T L Z)]) (w1 := (fun u : Unit => [xMod b (nI (kIn rc p0)) tc rc, xArr (t 0) (b 1) 120 (mkM F T L (if kIn rc p0 = 0 then updB Z (ix p0) (!(Z (ix p0))) else Z))])) (o := some (.int 0)) (args := ([.ref (b 0), .int p0] : List Value).toArray) () rfl trivial (by first | (rw [hk9]; rfl) | (simp only [hk9]; done) | (simp [hk9, c_1, bI]; done)) hP9 hD9 hS
    exact W.zret hx hb hr (narrow_b0) hq9 hf9 dX1_knot_25 hlocks
  · have c_1 := bI_n0 c_1
    obtain ⟨k_3, hk_3, ek_3⟩ := inB_of c_1 (by omega)
    have eik_3 : ix p0 = k_3 := by rw [ek_3]; exact ix_nI (by omega)
    have hl : lv_has ls 2 [(0, .ref (b 0)), (1, .int (nI k_3))] := by rw [← ek_3]; exact hl
    refine lv_iconst (v := 0) hx hb dX1_knot_9 (by decide) ?_
    refine lv_goto (tgt := 14) hx hb dX1_knot_10 (by decide) ?_
    refine x1_put (x := 0) hx hb hts hin hown hK hP hD hS 0 ([xMod b 0 tc rc, xArr (t 0) (b 1) 120 (mkM F T L Z)]) rfl 0 (by decide) fl_13 rfl rfl (Nat.le_of_ble_eq_true rfl) rfl dX1_knot_14 rfl (fun H locs hP hD hS => ?_)
    refine lv_aload_n hx hb dX1_knot_17 rfl (lv_at hl 0 rfl) ?_
    refine x1_get (v := .int 0) hx hb hts hin hown hK hP 0 rfl 0 (by decide) fl_13 rfl dX1_knot_18 rfl ?_
    refine lv_if_eq (tgt := 26) hx hb dX1_knot_21 (by decide) (fun c_4 => ?_) (fun c_4 => ?_)
    rotate_left
    · exact False.elim (by revert c_4; decide)
    refine lv_aload_n hx hb dX1_knot_26 rfl (lv_at hl 0 rfl) ?_
    refine x1_get (v := .ref (b 1)) hx hb hts hin hown hK hP 0 rfl 3 (by decide) fl_9 rfl dX1_knot_27 rfl ?_
    refine lv_iconst (v := 4) hx hb dX1_knot_30 (by decide) ?_
    refine lv_iload_n hx hb dX1_knot_31 rfl (lv_at hl 1 rfl) ?_
    refine lv_imul (x := 4) (y := nI k_3) hx hb dX1_knot_32 ?_
    refine x_top (w := nI (4 * k_3)) (pk_mul 4 k_3) ?_
    refine lv_iconst (v := 3) hx hb dX1_knot_33 (by decide) ?_
    refine lv_iadd (x := nI (4 * k_3)) (y := 3) hx hb dX1_knot_34 ?_
    refine x_top (w := nI (4 * k_3 + 3)) (nI_add (4 * k_3) 3) ?_
    refine lv_iconst (v := 1) hx hb dX1_knot_35 (by decide) ?_
    refine lv_aload_n hx hb dX1_knot_36 rfl (lv_at hl 0 rfl) ?_
    refine lv_iload_n hx hb dX1_knot_37 rfl (lv_at hl 1 rfl) ?_
    refine lv_iconst (v := 3) hx hb dX1_knot_38 (by decide) ?_
    refine xr_V (b := b 0) (As := [.int (nI k_3), .int 3]) (rest := [.int 1, .int (nI (4 * k_3 + 3)), .ref (b 1)]) ⟨hx, hb, hml, hown, hts⟩ (c_X1_ro l D t b 0 tc rc F T L Z k_3 3 (by omega) (Nat.le_of_ble_eq_true rfl)) (cwV 2 hts gX1_knot_X1_ro rfl rfl rfl hd_X1_ro ⟨Nat.le_of_ble_eq_true rfl, Nat.le_of_ble_eq_true rfl⟩) hK hP (va_recv hK hP (ci := 1) (q0 := 0) rfl rfl) [0, 1] rfl rfl hl.1 rfl (Nat.le_of_ble_eq_true rfl) dX1_knot_39 ⟨(Nat.le_of_ble_eq_true rfl), (Nat.le_of_ble_eq_true rfl)⟩ ?_
    refine x_top (w := bI (Z k_3)) (mkM_3 _ _ _ _ k_3) ?_
    refine lv_isub (x := 1) (y := bI (Z k_3)) hx hb dX1_knot_42 ?_
    refine x_top (w := bI (!(Z k_3))) (bI_not _) ?_
    refine x_iast (x := bI (!(Z k_3))) (f := mkM F T L Z) hx hb hK hP hD hS 1 0 ([xMod b 0 tc rc, xArr (t 0) (b 1) 120 (mkM F T L (updB Z k_3 (!(Z k_3))))]) rfl rfl (k := 4 * k_3 + 3) (by rw [← mkM_Z F T L Z k_3 (!(Z k_3))]; rfl) (by omega) (Nat.le_of_ble_eq_true rfl) dX1_knot_43 (fun H locs hP hD hS => ?_)
    refine lv_aload_n hx hb dX1_knot_44 rfl (lv_at hl 0 rfl) ?_
    refine lv_iload_n hx hb dX1_knot_45 rfl (lv_at hl 1 rfl) ?_
    refine xr_V (b := b 0) (As := [.int (nI k_3)]) (rest := []) ⟨hx, hb, hml, hown, hts⟩ (c_X1_isTied l D t b 0 tc rc F T L (updB Z k_3 (!(Z k_3))) k_3 (by omega)) (cwV 1 hts gX1_knot_X1_isTied rfl rfl rfl hd_X1_isTied ⟨Nat.le_of_ble_eq_true rfl, Nat.le_of_ble_eq_true rfl⟩) hK hP (va_recv hK hP (ci := 1) (q0 := 0) rfl rfl) [0, 1] rfl rfl hl.1 rfl (Nat.le_of_ble_eq_true rfl) dX1_knot_46 ⟨(Nat.le_of_ble_eq_true rfl), (Nat.le_of_ble_eq_true rfl)⟩ ?_
    have hk9 : kIn rc p0 = 0 := by simp [kIn, c_1, eik_3]
    have hP9 : va_P D vwCl ([xMod b (nI (kIn rc p0)) tc rc, xArr (t 0) (b 1) 120 (mkM F T L (if kIn rc p0 = 0 then updB Z (ix p0) (!(Z (ix p0))) else Z))]) H := by rw [hk9, eik_3]; exact hP
    have hD9 : va_D A ([xMod b (nI (kIn rc p0)) tc rc, xArr (t 0) (b 1) 120 (mkM F T L (if kIn rc p0 = 0 then updB Z (ix p0) (!(Z (ix p0))) else Z))]) := by rw [hk9, eik_3]; exact hD
    subst hAe
    obtain ⟨hq9, hf9⟩ := xm_end (S := Unit) (pu := (fun u : Unit => True)) (r := (fun u : Unit => some (.int (bI (if kIn rc p0 = 0 then updB Z (ix p0) (!(Z (ix p0))) (ix p0) else false))))) (wc := [xMod b th tc rc, xArr (t 0) (b 1) 120 (mkM F T L Z)]) (w1 := (fun u : Unit => [xMod b (nI (kIn rc p0)) tc rc, xArr (t 0) (b 1) 120 (mkM F T L (if kIn rc p0 = 0 then updB Z (ix p0) (!(Z (ix p0))) else Z))])) (o := some (.int (bI ((updB Z k_3 (!(Z k_3))) k_3)))) (args := ([.ref (b 0), .int p0] : List Value).toArray) () rfl trivial (by first | (rw [hk9]; rfl) | (simp only [hk9]; done) | (simp [hk9, c_1, eik_3, bI]; done)) hP9 hD9 hS
    exact W.zret hx hb hr (x_narB _) hq9 hf9 dX1_knot_49 hlocks
set_option maxHeartbeats 4000000 in
set_option maxRecDepth 100000 in
theorem c_X1_tighten (l : Launch) (D : va_G) (t : Nat → ClassId) (b : Nat → Nat) (th : Int32) (tc rc : Nat) (F T : Nat → Nat) (L : Nat → Int32) (Z : Nat → Bool) (sz : Nat) (htc : tc ≤ 12) (hrc : rc ≤ 30) (hF : ∀ r, r < rc → F r < tc ∧ T r < tc) : Met l yX1_tighten wsX1_tighten ({ frames := 4, cells := 391, slots := 4693, locals := 89 }) (xMu D (xTy t) (va_AOA .int) [.ref (b 0)] [xMod b th tc rc, xArr (t 0) (b 1) 120 (mkM F T L Z)] sz) (xQm D (fun u : Unit => True) (fun u : Unit => some (.int ((tgA F T Z tc rc L).1))) [xMod b th tc rc, xArr (t 0) (b 1) 120 (mkM F T L Z)] (fun u : Unit => [xMod b 0 tc rc, xArr (t 0) (b 1) 120 (mkM F T ((tgA F T Z tc rc L).2) Z)]) sz) 391 4693 (va_A [xMod b th tc rc, xArr (t 0) (b 1) 120 (mkM F T L Z)] sz) := by
  refine Met.ofW (cc := cX1_tighten) (maxL := 4) (ret := (some .int)) (by decide) rfl ?_
  intro p e s m args below meth c s₁ hB9 hml hv
  obtain ⟨rfl, hsz, hP, hK, hD0, hXX⟩ := hv
  have hx := hB9.exec
  have hb := hB9.bytes
  have hr := hB9.returns
  have hts := atoms_spec (ws := wsX1_tighten) hB9.pre
  have hown : s.vm.findClass RX1 = some m.cls := findClass_of_methodNamed hB9.named
  have hlocks := hB9.notSynchronized
  have hin : ∀ w ∈ wsX10, w ∈ wsX1_tighten := fun _ h => List.mem_cons_of_mem _ (List.mem_append_right _ h)
  have fl_13 := hts (.fieldLink RX1 13 "RopeTimesModel" "thrown" "I") (by decide +kernel)
  have fl_24 := hts (.fieldLink RX1 24 "RopeTimesModel" "ropes" "I") (by decide +kernel)
  have fl_9 := hts (.fieldLink RX1 9 "RopeTimesModel" "rows" "[I") (by decide +kernel)
  subst hsz
  have hD := hD0.self (sz := s.heap.size)
  generalize hAe : va_A ([xMod b th tc rc, xArr (t 0) (b 1) 120 (mkM F T L Z)]) s.heap.size = A at hD ⊢
  have hA : ∀ q : Nat, s.heap.size ≤ q → A q := fun q h => by rw [← hAe]; exact Or.inr h
  have hS : va_S A s.heap s.heap [] := va_S.rf
  have hP : va_P D vwCl ([xMod b th tc rc, xArr (t 0) (b 1) 120 (mkM F T L Z)]) s.heap := hP
  have hD : va_D A ([xMod b th tc rc, xArr (t 0) (b 1) 120 (mkM F T L Z)]) := hD
  have hl := lv_entry ([.ref (b 0)]) (n := 4) (Nat.le_of_ble_eq_true rfl)
  rw [lg_entry_eq]
  generalize (lg_sl ([.ref (b 0)]) ++ List.replicate (4 - (lg_sl ([.ref (b 0)])).length) Slot.unset).toArray = ls at hl ⊢
  have hl : lv_has ls 4 [(0, .ref (b 0))] := hl
  refine lv_aload_n hx hb dX1_tighten_0 rfl (lv_at hl 0 rfl) ?_
  refine lv_iconst (v := 0) hx hb dX1_tighten_1 (by decide) ?_
  refine x1_put (x := 0) hx hb hts hin hown hK hP hD hS 0 ([xMod b 0 tc rc, xArr (t 0) (b 1) 120 (mkM F T L Z)]) rfl 0 (by decide) fl_13 rfl rfl (Nat.le_of_ble_eq_true rfl) rfl dX1_tighten_2 rfl (fun H locs hP hD hS => ?_)
  refine lv_aload_n hx hb dX1_tighten_5 rfl (lv_at hl 0 rfl) ?_
  refine xm_V (b := b 0) (As := []) (rest := []) (wr := []) ⟨hx, hb, hml, hown, hts⟩ aoT (c_X1_isHeld l D t b 0 tc rc F T L Z _ (by omega) (by omega) hF) (cwV 0 hts gX1_tighten_X1_isHeld rfl rfl rfl hd_X1_isHeld ⟨Nat.le_of_ble_eq_true rfl, Nat.le_of_ble_eq_true rfl⟩) hK hP hD hS hA (fun U hW _ => va_AOA.moved hW.alike hXX) (va_recv hK hP (ci := 1) (q0 := 0) rfl rfl) [0, 1] [] rfl rfl (by decide) (by decide) (by decide) rfl hl.1 rfl (Nat.le_of_ble_eq_true rfl) dX1_tighten_6 ⟨(Nat.le_of_ble_eq_true rfl), (Nat.le_of_ble_eq_true rfl)⟩ (fun u_1 H locs hu hP hD hS hz => ?_)
  have hP : va_P D vwCl ([xMod b 0 tc rc, xArr (t 0) (b 1) 120 (mkM F T L Z)]) H := hP
  have hD : va_D _ ([xMod b 0 tc rc, xArr (t 0) (b 1) 120 (mkM F T L Z)]) := hD
  refine lv_if_ne (x := bI (decide (¬ earM F T L Z tc rc 12 = -1))) (tgt := 14) hx hb dX1_tighten_9 (by decide) (fun c_2 => ?_) (fun c_2 => ?_)
  · have c_2 := of_decide_eq_true (bI_n0 c_2)
    refine lv_iconst (v := 0) hx hb dX1_tighten_14 (by decide) ?_
    refine lv_istore_n (lv' := [(1, .int 0), (0, .ref (b 0))]) hx hb dX1_tighten_15 rfl hl (by decide) rfl (fun ls hl => ?_)
    refine lv_iconst (v := 0) hx hb dX1_tighten_16 (by decide) ?_
    refine lv_istore_n (lv' := [(2, .int 0), (1, .int 0), (0, .ref (b 0))]) hx hb dX1_tighten_17 rfl hl (by decide) rfl (fun ls hl => ?_)
    have lp_18 : ∀ (n18 : Nat) (r : Nat) (sm : Int32) (L1 : Nat → Int32), r + n18 = rc → tgM F T Z tc rc n18 r sm L1 = tgM F T Z tc rc rc 0 0 L → ∀ (H : Heap) (locs : List Loc), va_P D vwCl ([xMod b 0 tc rc, xArr (t 0) (b 1) 120 (mkM F T L1 Z)]) H → va_D A ([xMod b 0 tc rc, xArr (t 0) (b 1) 120 (mkM F T L1 Z)]) → va_S A s.heap H locs → ∀ ls : Array Slot, lv_has ls 4 [(2, .int (nI r)), (1, .int sm), (0, .ref (b 0))] → W p l e (headSpec wsX1_tighten ({ frames := 4, cells := 391, slots := 4693, locals := 89 } : Jvm.Room)).room s m (([.ref (b 0)] : List Value).toArray) below meth c H locs (1 + 13 * r) (13 + 156 * r) (MQ below (xQm D (fun u : Unit => True) (fun u : Unit => some (.int ((tgA F T Z tc rc L).1))) [xMod b th tc rc, xArr (t 0) (b 1) 120 (mkM F T L Z)] (fun u : Unit => [xMod b 0 tc rc, xArr (t 0) (b 1) 120 (mkM F T ((tgA F T Z tc rc L).2) Z)]) s.heap.size) (([.ref (b 0)] : List Value).toArray) s 391 4693 A) (F0 m 18 ls []) := by
      intro n18
      induction n18 using Nat.strongRecOn with
      | _ n18 ih_18 =>
        intro r sm L1 hm_18 hfin_18 H locs hP hD hS ls hl
        refine lv_iload_n hx hb dX1_tighten_18 rfl (lv_at hl 0 rfl) ?_
        refine lv_aload_n hx hb dX1_tighten_19 rfl (lv_at hl 2 rfl) ?_
        refine x1_get (v := .int (nI rc)) hx hb hts hin hown hK hP 0 rfl 2 (by decide) fl_24 rfl dX1_tighten_20 rfl ?_
        refine lv_icmp_ge (x := nI r) (y := nI rc) (tgt := 71) hx hb dX1_tighten_23 (by decide) (fun c_3 => ?_) (fun c_3 => ?_)
        · have c_3 := (nI_leI (a := rc) (b := r) (by omega) (by omega)).mp c_3
          have hn0_18 : n18 = 0 := by omega
          subst hn0_18
          obtain rfl : sm = (tgM F T Z tc rc rc 0 0 L).1 := congrArg (fun z => z.1) hfin_18
          obtain rfl : L1 = (tgM F T Z tc rc rc 0 0 L).2 := congrArg (fun z => z.2) hfin_18
          refine lv_iload_n hx hb dX1_tighten_71 rfl (lv_at hl 1 rfl) ?_
          have e9 : tgA F T Z tc rc L = tgM F T Z tc rc rc 0 0 L := by simp [tgA, c_2, c_3, Nat.not_lt.mpr c_3]
          have hP9 : va_P D vwCl ([xMod b 0 tc rc, xArr (t 0) (b 1) 120 (mkM F T ((tgA F T Z tc rc L).2) Z)]) H := by rw [e9]; exact hP
          have hD9 : va_D A ([xMod b 0 tc rc, xArr (t 0) (b 1) 120 (mkM F T ((tgA F T Z tc rc L).2) Z)]) := by rw [e9]; exact hD
          subst hAe
          refine W.widen (k := 391) (n := 4693) (by omega) (by omega) ?_
          obtain ⟨hq9, hf9⟩ := xm_end (S := Unit) (pu := (fun u : Unit => True)) (r := (fun u : Unit => some (.int ((tgA F T Z tc rc L).1)))) (wc := [xMod b th tc rc, xArr (t 0) (b 1) 120 (mkM F T L Z)]) (w1 := (fun u : Unit => [xMod b 0 tc rc, xArr (t 0) (b 1) 120 (mkM F T ((tgA F T Z tc rc L).2) Z)])) (o := some (.int ((tgM F T Z tc rc rc 0 0 L).1))) (args := ([.ref (b 0)] : List Value).toArray) () rfl trivial (by rw [e9]) hP9 hD9 hS
          exact W.iret hx hb hr hq9 hf9 dX1_tighten_72 hlocks
        · have c_3 : r < rc := Nat.lt_of_not_le (fun z9 => c_3 ((nI_leI (a := rc) (b := r) (by omega) (by omega)).mpr z9))
          obtain ⟨n189, rfl⟩ : ∃ z, n18 = z + 1 := ⟨n18 - 1, by omega⟩
          refine lv_aload_n hx hb dX1_tighten_26 rfl (lv_at hl 2 rfl) ?_
          refine lv_iload_n hx hb dX1_tighten_27 rfl (lv_at hl 0 rfl) ?_
          refine xr_V (b := b 0) (As := [.int (nI r)]) (rest := []) ⟨hx, hb, hml, hown, hts⟩ (c_X1_isTied l D t b 0 tc rc F T L1 Z r (by omega)) (cwV 1 hts gX1_tighten_X1_isTied rfl rfl rfl hd_X1_isTied ⟨Nat.le_of_ble_eq_true rfl, Nat.le_of_ble_eq_true rfl⟩) hK hP (va_recv hK hP (ci := 1) (q0 := 0) rfl rfl) [0, 1] rfl rfl hl.1 rfl (Nat.le_of_ble_eq_true rfl) dX1_tighten_28 ⟨(by show _ ≤ 391; omega), (by show _ ≤ 4693; omega)⟩ ?_
          refine lv_if_ne (x := bI (Z r)) (tgt := 37) hx hb dX1_tighten_31 (by decide) (fun c_4 => ?_) (fun c_4 => ?_)
          · have c_4 := bI_n0 c_4
            refine lv_aload_n hx hb dX1_tighten_37 rfl (lv_at hl 2 rfl) ?_
            refine lv_iload_n hx hb dX1_tighten_38 rfl (lv_at hl 0 rfl) ?_
            refine xm_V (b := b 0) (As := [.int (nI r)]) (rest := []) (wr := []) ⟨hx, hb, hml, hown, hts⟩ aoT (c_X1_shortest l D t b 0 tc rc F T L1 Z r _ (by omega) (by omega) hF (by omega)) (cwV 1 hts gX1_tighten_X1_shortest rfl rfl rfl hd_X1_shortest ⟨Nat.le_of_ble_eq_true rfl, Nat.le_of_ble_eq_true rfl⟩) hK hP hD hS hA (fun U hW _ => va_AOA.moved hW.alike hXX) (va_recv hK hP (ci := 1) (q0 := 0) rfl rfl) [0, 1] [] rfl rfl (by decide) (by decide) (by decide) rfl hl.1 rfl (Nat.le_of_ble_eq_true rfl) dX1_tighten_39 ⟨(by show _ ≤ 391; omega), (by show _ ≤ 4693; omega)⟩ (fun u_5 H locs hu hP hD hS hz => ?_)
            have hP : va_P D vwCl ([xMod b 0 tc rc, xArr (t 0) (b 1) 120 (mkM F T L1 Z)]) H := hP
            have hD : va_D _ ([xMod b 0 tc rc, xArr (t 0) (b 1) 120 (mkM F T L1 Z)]) := hD
            refine lv_istore_n (lv' := [(3, .int (leastG (wayM F T L1 Z tc rc) (F r) (T r))), (2, .int (nI r)), (1, .int sm), (0, .ref (b 0))]) hx hb dX1_tighten_42 rfl hl (by decide) rfl (fun ls hl => ?_)
            refine lv_iload_n hx hb dX1_tighten_43 rfl (lv_at hl 2 rfl) ?_
            refine lv_aload_n hx hb dX1_tighten_44 rfl (lv_at hl 3 rfl) ?_
            refine lv_iload_n hx hb dX1_tighten_45 rfl (lv_at hl 1 rfl) ?_
            refine lv_iconst (v := 2) hx hb dX1_tighten_46 (by decide) ?_
            refine xr_V (b := b 0) (As := [.int (nI r), .int 2]) (rest := [.int sm]) ⟨hx, hb, hml, hown, hts⟩ (c_X1_ro l D t b 0 tc rc F T L1 Z r 2 (by omega) (Nat.le_of_ble_eq_true rfl)) (cwV 2 hts gX1_tighten_X1_ro rfl rfl rfl hd_X1_ro ⟨Nat.le_of_ble_eq_true rfl, Nat.le_of_ble_eq_true rfl⟩) hK hP (va_recv hK hP (ci := 1) (q0 := 0) rfl rfl) [0, 1] rfl rfl hl.1 rfl (Nat.le_of_ble_eq_true rfl) dX1_tighten_47 ⟨(by show _ ≤ 391; omega), (by show _ ≤ 4693; omega)⟩ ?_
            refine x_top (w := L1 r) (mkM_2 _ _ _ _ r) ?_
            refine lv_iload_n hx hb dX1_tighten_50 rfl (lv_at hl 0 rfl) ?_
            refine lv_isub (x := L1 r) (y := leastG (wayM F T L1 Z tc rc) (F r) (T r)) hx hb dX1_tighten_51 ?_
            refine lv_iadd (x := sm) (y := (L1 r) - (leastG (wayM F T L1 Z tc rc) (F r) (T r))) hx hb dX1_tighten_52 ?_
            refine lv_istore_n (lv' := [(1, .int (sm + ((L1 r) - (leastG (wayM F T L1 Z tc rc) (F r) (T r))))), (3, .int (leastG (wayM F T L1 Z tc rc) (F r) (T r))), (2, .int (nI r)), (0, .ref (b 0))]) hx hb dX1_tighten_53 rfl hl (by decide) rfl (fun ls hl => ?_)
            refine lv_aload_n hx hb dX1_tighten_54 rfl (lv_at hl 3 rfl) ?_
            refine x1_get (v := .ref (b 1)) hx hb hts hin hown hK hP 0 rfl 3 (by decide) fl_9 rfl dX1_tighten_55 rfl ?_
            refine lv_iconst (v := 4) hx hb dX1_tighten_58 (by decide) ?_
            refine lv_iload_n hx hb dX1_tighten_59 rfl (lv_at hl 2 rfl) ?_
            refine lv_imul (x := 4) (y := nI r) hx hb dX1_tighten_60 ?_
            refine x_top (w := nI (4 * r)) (pk_mul 4 r) ?_
            refine lv_iconst (v := 2) hx hb dX1_tighten_61 (by decide) ?_
            refine lv_iadd (x := nI (4 * r)) (y := 2) hx hb dX1_tighten_62 ?_
            refine x_top (w := nI (4 * r + 2)) (nI_add (4 * r) 2) ?_
            refine lv_iload_n hx hb dX1_tighten_63 rfl (lv_at hl 1 rfl) ?_
            refine x_iast (x := leastG (wayM F T L1 Z tc rc) (F r) (T r)) (f := mkM F T L1 Z) hx hb hK hP hD hS 1 0 ([xMod b 0 tc rc, xArr (t 0) (b 1) 120 (mkM F T (upd L1 r (leastG (wayM F T L1 Z tc rc) (F r) (T r))) Z)]) rfl rfl (k := 4 * r + 2) (by rw [mkM_L]; rfl) (by omega) (Nat.le_of_ble_eq_true rfl) dX1_tighten_64 (fun H locs hP hD hS => ?_)
            refine lv_iinc (v := nI (r + 1)) (lv' := [(2, .int (nI (r + 1))), (1, .int (sm + ((L1 r) - (leastG (wayM F T L1 Z tc rc) (F r) (T r))))), (3, .int (leastG (wayM F T L1 Z tc rc) (F r) (T r))), (0, .ref (b 0))]) hx hb dX1_tighten_65 hl (k := 2) rfl (x_inc _) (by decide) rfl (fun ls hl => ?_)
            refine lv_goto (tgt := 18) hx hb dX1_tighten_68 (by decide) ?_
            refine W.widen (k := 1 + 13 * (r + 1)) (n := 13 + 156 * (r + 1)) (by omega) (by omega) ?_
            exact ih_18 n189 (by omega) (r + 1) (sm + ((L1 r) - (leastG (wayM F T L1 Z tc rc) (F r) (T r)))) (upd L1 r (leastG (wayM F T L1 Z tc rc) (F r) (T r))) (by omega) (by rw [← hfin_18]; simp [tgM, c_2, c_3, c_4]) _ _ hP hD hS _ (lv_sub hl [0, 1, 3] rfl)
          · have c_4 := bI_0 c_4
            refine lv_goto (tgt := 65) hx hb dX1_tighten_34 (by decide) ?_
            refine lv_iinc (v := nI (r + 1)) (lv' := [(2, .int (nI (r + 1))), (1, .int sm), (0, .ref (b 0))]) hx hb dX1_tighten_65 hl (k := 0) rfl (x_inc _) (by decide) rfl (fun ls hl => ?_)
            refine lv_goto (tgt := 18) hx hb dX1_tighten_68 (by decide) ?_
            refine W.widen (k := 1 + 13 * (r + 1)) (n := 13 + 156 * (r + 1)) (by omega) (by omega) ?_
            exact ih_18 n189 (by omega) (r + 1) sm L1 (by omega) (by rw [← hfin_18]; simp [tgM, c_2, c_3, c_4]) _ _ hP hD hS _ (lv_sub hl [0, 1, 2] rfl)
    refine W.widen (k := 1 + 13 * 0) (n := 13 + 156 * 0) (by omega) (by omega) ?_
    exact lp_18 rc 0 0 L (by omega) rfl _ _ hP hD hS _ (lv_sub hl [0, 1, 2] rfl)
  · have c_2 := Classical.not_not.mp (of_decide_eq_false (bI_0 c_2))
    refine lv_iconst (v := 0) hx hb dX1_tighten_12 (by decide) ?_
    have e9 : tgA F T Z tc rc L = (0, L) := by simp [tgA, c_2]
    have hP9 : va_P D vwCl ([xMod b 0 tc rc, xArr (t 0) (b 1) 120 (mkM F T ((tgA F T Z tc rc L).2) Z)]) H := by rw [e9]; exact hP
    have hD9 : va_D A ([xMod b 0 tc rc, xArr (t 0) (b 1) 120 (mkM F T ((tgA F T Z tc rc L).2) Z)]) := by rw [e9]; exact hD
    subst hAe
    refine W.widen (k := 391) (n := 4693) (Nat.le_of_ble_eq_true rfl) (Nat.le_of_ble_eq_true rfl) ?_
    obtain ⟨hq9, hf9⟩ := xm_end (S := Unit) (pu := (fun u : Unit => True)) (r := (fun u : Unit => some (.int ((tgA F T Z tc rc L).1)))) (wc := [xMod b th tc rc, xArr (t 0) (b 1) 120 (mkM F T L Z)]) (w1 := (fun u : Unit => [xMod b 0 tc rc, xArr (t 0) (b 1) 120 (mkM F T ((tgA F T Z tc rc L).2) Z)])) (o := some (.int 0)) (args := ([.ref (b 0)] : List Value).toArray) () rfl trivial (by rw [e9]) hP9 hD9 hS
    exact W.iret hx hb hr hq9 hf9 dX1_tighten_13 hlocks
set_option maxHeartbeats 4000000 in
set_option maxRecDepth 100000 in
theorem c_X1_would (l : Launch) (D : va_G) (t : Nat → ClassId) (b : Nat → Nat) (th : Int32) (tc rc : Nat) (F T : Nat → Nat) (L : Nat → Int32) (Z : Nat → Bool) (p0 p1 p2 : Int32) (sz : Nat) (htc : tc ≤ 12) (hrc : rc ≤ 30) (hF : ∀ r, r < rc → F r < tc ∧ T r < tc) : Met l yX1_would wsX1_would ({ frames := 4, cells := 14, slots := 169, locals := 88 }) (xMu D (xTy t) (va_AOA .int) [.ref (b 0), .int p0, .int p1, .int p2] [xMod b th tc rc, xArr (t 0) (b 1) 120 (mkM F T L Z)] sz) (xQm D (fun u : Unit => True) (fun u : Unit => some (.int (bI (if kWould tc p0 p1 p2 = 0 then (decide (¬ earM F T L Z tc rc 12 = -1) && (decide (wayM F T L Z tc rc (ix p1) (ix p0) = 99999) || !(decide (wayM F T L Z tc rc (ix p1) (ix p0) + p2 < 0)))) else false)))) [xMod b th tc rc, xArr (t 0) (b 1) 120 (mkM F T L Z)] (fun u : Unit => [xMod b (nI (kWould tc p0 p1 p2)) tc rc, xArr (t 0) (b 1) 120 (mkM F T L Z)]) sz) 14 169 (va_A [xMod b th tc rc, xArr (t 0) (b 1) 120 (mkM F T L Z)] sz) := by
  refine Met.ofW (cc := cX1_would) (maxL := 5) (ret := (some .boolean)) (by decide) rfl ?_
  intro p e s m args below meth c s₁ hB9 hml hv
  obtain ⟨rfl, hsz, hP, hK, hD0, hXX⟩ := hv
  have hx := hB9.exec
  have hb := hB9.bytes
  have hr := hB9.returns
  have hts := atoms_spec (ws := wsX1_would) hB9.pre
  have hown : s.vm.findClass RX1 = some m.cls := findClass_of_methodNamed hB9.named
  have hlocks := hB9.notSynchronized
  have hin : ∀ w ∈ wsX10, w ∈ wsX1_would := fun _ h => List.mem_cons_of_mem _ (List.mem_append_right _ h)
  have fl_13 := hts (.fieldLink RX1 13 "RopeTimesModel" "thrown" "I") (by decide +kernel)
  have kc_50 := hts (.constant RX1 50 (99999)) (by decide +kernel)
  subst hsz
  have hD := hD0.self (sz := s.heap.size)
  generalize hAe : va_A ([xMod b th tc rc, xArr (t 0) (b 1) 120 (mkM F T L Z)]) s.heap.size = A at hD ⊢
  have hA : ∀ q : Nat, s.heap.size ≤ q → A q := fun q h => by rw [← hAe]; exact Or.inr h
  have hS : va_S A s.heap s.heap [] := va_S.rf
  have hP : va_P D vwCl ([xMod b th tc rc, xArr (t 0) (b 1) 120 (mkM F T L Z)]) s.heap := hP
  have hD : va_D A ([xMod b th tc rc, xArr (t 0) (b 1) 120 (mkM F T L Z)]) := hD
  have hl := lv_entry ([.ref (b 0), .int p0, .int p1, .int p2]) (n := 5) (Nat.le_of_ble_eq_true rfl)
  rw [lg_entry_eq]
  generalize (lg_sl ([.ref (b 0), .int p0, .int p1, .int p2]) ++ List.replicate (5 - (lg_sl ([.ref (b 0), .int p0, .int p1, .int p2])).length) Slot.unset).toArray = ls at hl ⊢
  have hl : lv_has ls 5 [(0, .ref (b 0)), (1, .int p0), (2, .int p1), (3, .int p2)] := hl
  refine lv_aload_n hx hb dX1_would_0 rfl (lv_at hl 0 rfl) ?_
  refine lv_aload_n hx hb dX1_would_1 rfl (lv_at hl 0 rfl) ?_
  refine lv_iload_n hx hb dX1_would_2 rfl (lv_at hl 1 rfl) ?_
  refine xr_V (b := b 0) (As := [.int p0]) (rest := [.ref (b 0)]) ⟨hx, hb, hml, hown, hts⟩ (c_X1_isTurn l D t b th tc rc p0 (by omega)) (cwV 1 hts gX1_would_X1_isTurn rfl rfl rfl hd_X1_isTurn ⟨Nat.le_of_ble_eq_true rfl, Nat.le_of_ble_eq_true rfl⟩) hK hP (va_recv hK hP (ci := 1) (q0 := 0) rfl rfl) [0] rfl rfl hl.1 rfl (Nat.le_of_ble_eq_true rfl) dX1_would_3 ⟨(Nat.le_of_ble_eq_true rfl), (Nat.le_of_ble_eq_true rfl)⟩ ?_
  refine lv_if_eq (x := bI (inB p0 tc)) (tgt := 17) hx hb dX1_would_6 (by decide) (fun c_1 => ?_) (fun c_1 => ?_)
  · have c_1 := bI_0 c_1
    refine lv_iconst (v := 1) hx hb dX1_would_17 (by decide) ?_
    refine lv_goto (tgt := 38) hx hb dX1_would_18 (by decide) ?_
    refine x1_put (x := 1) hx hb hts hin hown hK hP hD hS 0 ([xMod b 1 tc rc, xArr (t 0) (b 1) 120 (mkM F T L Z)]) rfl 0 (by decide) fl_13 rfl rfl (Nat.le_of_ble_eq_true rfl) rfl dX1_would_38 rfl (fun H locs hP hD hS => ?_)
    refine lv_aload_n hx hb dX1_would_41 rfl (lv_at hl 0 rfl) ?_
    refine x1_get (v := .int 1) hx hb hts hin hown hK hP 0 rfl 0 (by decide) fl_13 rfl dX1_would_42 rfl ?_
    refine lv_if_ne (tgt := 55) hx hb dX1_would_45 (by decide) (fun c_2 => ?_) (fun c_2 => ?_)
    rotate_left
    · exact False.elim (by revert c_2; decide)
    refine lv_iconst (v := 0) hx hb dX1_would_55 (by decide) ?_
    have hk9 : kWould tc p0 p1 p2 = 1 := by simp [kWould, c_1]
    have hP9 : va_P D vwCl ([xMod b (nI (kWould tc p0 p1 p2)) tc rc, xArr (t 0) (b 1) 120 (mkM F T L Z)]) H := by rw [hk9]; exact hP
    have hD9 : va_D A ([xMod b (nI (kWould tc p0 p1 p2)) tc rc, xArr (t 0) (b 1) 120 (mkM F T L Z)]) := by rw [hk9]; exact hD
    subst hAe
    refine W.widen (k := 14) (n := 169) (Nat.le_of_ble_eq_true rfl) (Nat.le_of_ble_eq_true rfl) ?_
    obtain ⟨hq9, hf9⟩ := xm_end (S := Unit) (pu := (fun u : Unit => True)) (r := (fun u : Unit => some (.int (bI (if kWould tc p0 p1 p2 = 0 then (decide (¬ earM F T L Z tc rc 12 = -1) && (decide (wayM F T L Z tc rc (ix p1) (ix p0) = 99999) || !(decide (wayM F T L Z tc rc (ix p1) (ix p0) + p2 < 0)))) else false))))) (wc := [xMod b th tc rc, xArr (t 0) (b 1) 120 (mkM F T L Z)]) (w1 := (fun u : Unit => [xMod b (nI (kWould tc p0 p1 p2)) tc rc, xArr (t 0) (b 1) 120 (mkM F T L Z)])) (o := some (.int 0)) (args := ([.ref (b 0), .int p0, .int p1, .int p2] : List Value).toArray) () rfl trivial (by first | (rw [hk9]; rfl) | (simp only [hk9]; done) | (simp [hk9, c_1, bI]; done)) hP9 hD9 hS
    exact W.zret hx hb hr (narrow_b0) hq9 hf9 dX1_would_56 hlocks
  · have c_1 := bI_n0 c_1
    obtain ⟨k_3, hk_3, ek_3⟩ := inB_of c_1 (by omega)
    have eik_3 : ix p0 = k_3 := by rw [ek_3]; exact ix_nI (by omega)
    have hl : lv_has ls 5 [(0, .ref (b 0)), (1, .int (nI k_3)), (2, .int p1), (3, .int p2)] := by rw [← ek_3]; exact hl
    refine lv_aload_n hx hb dX1_would_9 rfl (lv_at hl 0 rfl) ?_
    refine lv_iload_n hx hb dX1_would_10 rfl (lv_at hl 2 rfl) ?_
    refine xr_V (b := b 0) (As := [.int p1]) (rest := [.ref (b 0)]) ⟨hx, hb, hml, hown, hts⟩ (c_X1_isTurn l D t b th tc rc p1 (by omega)) (cwV 1 hts gX1_would_X1_isTurn rfl rfl rfl hd_X1_isTurn ⟨Nat.le_of_ble_eq_true rfl, Nat.le_of_ble_eq_true rfl⟩) hK hP (va_recv hK hP (ci := 1) (q0 := 0) rfl rfl) [0] rfl rfl hl.1 rfl (Nat.le_of_ble_eq_true rfl) dX1_would_11 ⟨(Nat.le_of_ble_eq_true rfl), (Nat.le_of_ble_eq_true rfl)⟩ ?_
    refine lv_if_ne (x := bI (inB p1 tc)) (tgt := 21) hx hb dX1_would_14 (by decide) (fun c_4 => ?_) (fun c_4 => ?_)
    · have c_4 := bI_n0 c_4
      obtain ⟨k_5, hk_5, ek_5⟩ := inB_of c_4 (by omega)
      have eik_5 : ix p1 = k_5 := by rw [ek_5]; exact ix_nI (by omega)
      have hl : lv_has ls 5 [(0, .ref (b 0)), (1, .int (nI k_3)), (2, .int (nI k_5)), (3, .int p2)] := by rw [← ek_5]; exact hl
      refine lv_iload_n hx hb dX1_would_21 rfl (lv_at hl 1 rfl) ?_
      refine lv_iload_n hx hb dX1_would_22 rfl (lv_at hl 2 rfl) ?_
      refine lv_icmp_eq (x := nI k_3) (y := nI k_5) (tgt := 33) hx hb dX1_would_23 (by decide) (fun c_6 => ?_) (fun c_6 => ?_)
      · have c_6 := (nI_eq (a := k_3) (b := k_5) (by omega) (by omega)).mp c_6
        have hpe_7 : p0 = p1 := by rw [ek_3, ek_5, c_6]
        refine lv_iconst (v := 2) hx hb dX1_would_33 (by decide) ?_
        refine lv_goto (tgt := 38) hx hb dX1_would_34 (by decide) ?_
        refine x1_put (x := 2) hx hb hts hin hown hK hP hD hS 0 ([xMod b 2 tc rc, xArr (t 0) (b 1) 120 (mkM F T L Z)]) rfl 0 (by decide) fl_13 rfl rfl (Nat.le_of_ble_eq_true rfl) rfl dX1_would_38 rfl (fun H locs hP hD hS => ?_)
        refine lv_aload_n hx hb dX1_would_41 rfl (lv_at hl 0 rfl) ?_
        refine x1_get (v := .int 2) hx hb hts hin hown hK hP 0 rfl 0 (by decide) fl_13 rfl dX1_would_42 rfl ?_
        refine lv_if_ne (tgt := 55) hx hb dX1_would_45 (by decide) (fun c_8 => ?_) (fun c_8 => ?_)
        rotate_left
        · exact False.elim (by revert c_8; decide)
        refine lv_iconst (v := 0) hx hb dX1_would_55 (by decide) ?_
        have hk9 : kWould tc p0 p1 p2 = 2 := by simp [kWould, c_1, eik_3, c_4, eik_5, hpe_7]
        have hP9 : va_P D vwCl ([xMod b (nI (kWould tc p0 p1 p2)) tc rc, xArr (t 0) (b 1) 120 (mkM F T L Z)]) H := by rw [hk9]; exact hP
        have hD9 : va_D A ([xMod b (nI (kWould tc p0 p1 p2)) tc rc, xArr (t 0) (b 1) 120 (mkM F T L Z)]) := by rw [hk9]; exact hD
        subst hAe
        refine W.widen (k := 14) (n := 169) (Nat.le_of_ble_eq_true rfl) (Nat.le_of_ble_eq_true rfl) ?_
        obtain ⟨hq9, hf9⟩ := xm_end (S := Unit) (pu := (fun u : Unit => True)) (r := (fun u : Unit => some (.int (bI (if kWould tc p0 p1 p2 = 0 then (decide (¬ earM F T L Z tc rc 12 = -1) && (decide (wayM F T L Z tc rc (ix p1) (ix p0) = 99999) || !(decide (wayM F T L Z tc rc (ix p1) (ix p0) + p2 < 0)))) else false))))) (wc := [xMod b th tc rc, xArr (t 0) (b 1) 120 (mkM F T L Z)]) (w1 := (fun u : Unit => [xMod b (nI (kWould tc p0 p1 p2)) tc rc, xArr (t 0) (b 1) 120 (mkM F T L Z)])) (o := some (.int 0)) (args := ([.ref (b 0), .int p0, .int p1, .int p2] : List Value).toArray) () rfl trivial (by first | (rw [hk9]; rfl) | (simp only [hk9]; done) | (simp [hk9, c_1, eik_3, c_4, eik_5, hpe_7, bI]; done)) hP9 hD9 hS
        exact W.zret hx hb hr (narrow_b0) hq9 hf9 dX1_would_56 hlocks
      · have c_6 : ¬ k_3 = k_5 := fun z9 => c_6 ((nI_eq (a := k_3) (b := k_5) (by omega) (by omega)).mpr z9)
        have hpn_9 : ¬ p0 = p1 := inB_ne (n := 0) ek_3 ek_5 c_6 (by omega) (by omega)
        refine lv_iload_n hx hb dX1_would_26 rfl (lv_at hl 3 rfl) ?_
        refine xr_S (As := [.int p2]) (rest := [.ref (b 0)]) ⟨hx, hb, hml, hown, hts⟩ (c_X1_isLong l D t p2) (va_cwS 1 hts gX1_would_X1_isLong rfl rfl rfl hd_X1_isLong ⟨Nat.le_of_ble_eq_true rfl, Nat.le_of_ble_eq_true rfl⟩) hK hP [] rfl rfl hl.1 rfl (Nat.le_of_ble_eq_true rfl) dX1_would_27 ⟨(Nat.le_of_ble_eq_true rfl), (Nat.le_of_ble_eq_true rfl)⟩ ?_
        refine lv_if_ne (x := bI (lenB p2)) (tgt := 37) hx hb dX1_would_30 (by decide) (fun c_10 => ?_) (fun c_10 => ?_)
        · have c_10 := bI_n0 c_10
          refine lv_iconst (v := 0) hx hb dX1_would_37 (by decide) ?_
          refine x1_put (x := 0) hx hb hts hin hown hK hP hD hS 0 ([xMod b 0 tc rc, xArr (t 0) (b 1) 120 (mkM F T L Z)]) rfl 0 (by decide) fl_13 rfl rfl (Nat.le_of_ble_eq_true rfl) rfl dX1_would_38 rfl (fun H locs hP hD hS => ?_)
          refine lv_aload_n hx hb dX1_would_41 rfl (lv_at hl 0 rfl) ?_
          refine x1_get (v := .int 0) hx hb hts hin hown hK hP 0 rfl 0 (by decide) fl_13 rfl dX1_would_42 rfl ?_
          refine lv_if_ne (tgt := 55) hx hb dX1_would_45 (by decide) (fun c_11 => ?_) (fun c_11 => ?_)
          · exact False.elim (by revert c_11; decide)
          refine lv_aload_n hx hb dX1_would_48 rfl (lv_at hl 0 rfl) ?_
          refine xm_V (b := b 0) (As := []) (rest := []) (wr := []) ⟨hx, hb, hml, hown, hts⟩ aoT (c_X1_isHeld l D t b 0 tc rc F T L Z _ (by omega) (by omega) hF) (cwV 0 hts gX1_would_X1_isHeld rfl rfl rfl hd_X1_isHeld ⟨Nat.le_of_ble_eq_true rfl, Nat.le_of_ble_eq_true rfl⟩) hK hP hD hS hA (fun U hW _ => va_AOA.moved hW.alike hXX) (va_recv hK hP (ci := 1) (q0 := 0) rfl rfl) [0, 1] [] rfl rfl (by decide) (by decide) (by decide) rfl hl.1 rfl (Nat.le_of_ble_eq_true rfl) dX1_would_49 ⟨(Nat.le_of_ble_eq_true rfl), (Nat.le_of_ble_eq_true rfl)⟩ (fun u_12 H locs hu hP hD hS hz => ?_)
          have hP : va_P D vwCl ([xMod b 0 tc rc, xArr (t 0) (b 1) 120 (mkM F T L Z)]) H := hP
          have hD : va_D _ ([xMod b 0 tc rc, xArr (t 0) (b 1) 120 (mkM F T L Z)]) := hD
          refine lv_if_ne (x := bI (decide (¬ earM F T L Z tc rc 12 = -1))) (tgt := 57) hx hb dX1_would_52 (by decide) (fun c_13 => ?_) (fun c_13 => ?_)
          · have c_13 := of_decide_eq_true (bI_n0 c_13)
            refine lv_aload_n hx hb dX1_would_57 rfl (lv_at hl 0 rfl) ?_
            refine xm_V (b := b 0) (As := []) (rest := []) (wr := []) ⟨hx, hb, hml, hown, hts⟩ aoT (c_X1_ways l D t b 0 tc rc F T L Z _ (by omega) (by omega) hF) (cwV 0 hts gX1_would_X1_ways rfl rfl rfl hd_X1_ways ⟨Nat.le_of_ble_eq_true rfl, Nat.le_of_ble_eq_true rfl⟩) hK hP hD hS hA (fun U hW _ => va_AOA.moved hW.alike hXX) (va_recv hK hP (ci := 1) (q0 := 0) rfl rfl) [0, 1] [] rfl rfl (by decide) (by decide) (by decide) rfl hl.1 rfl (Nat.le_of_ble_eq_true rfl) dX1_would_58 ⟨(Nat.le_of_ble_eq_true rfl), (Nat.le_of_ble_eq_true rfl)⟩ (fun u_14 H locs hu hP hD hS hz => ?_)
            have hP : va_P D vwCl ([xMod b 0 tc rc, xArr (t 0) (b 1) 120 (mkM F T L Z), xGo (t 3) u_14.1 u_14.2] ++ xGr (t 0) u_14.2 (wayM F T L Z tc rc)) H := hP
            have hD : va_D _ ([xMod b 0 tc rc, xArr (t 0) (b 1) 120 (mkM F T L Z), xGo (t 3) u_14.1 u_14.2] ++ xGr (t 0) u_14.2 (wayM F T L Z tc rc)) := hD
            refine lv_iload_n hx hb dX1_would_61 rfl (lv_at hl 2 rfl) ?_
            refine x_aald (v := u_14.2 k_5) hx hb hK hP 2 3 rfl rfl (k := k_5) (by omega) (Nat.le_of_ble_eq_true rfl) (if_pos (by omega)) dX1_would_62 ?_
            refine lv_iload_n hx hb dX1_would_63 rfl (lv_at hl 1 rfl) ?_
            refine x_gld (M := wayM F T L Z tc rc) (i := k_5) (j := k_3) hx hb hK hP 0 rfl (by omega) (by omega) dX1_would_64 ?_
            refine lv_istore (lv' := [(4, .int ((wayM F T L Z tc rc) k_5 k_3)), (0, .ref (b 0)), (1, .int (nI k_3)), (2, .int (nI k_5)), (3, .int p2)]) hx hb dX1_would_65 hl (by decide) rfl (fun ls hl => ?_)
            refine lv_iload hx hb dX1_would_67 (lv_at hl 0 rfl) ?_
            refine lv_ldc (v := 99999) hx hb hown kc_50 dX1_would_69 ?_
            refine lv_icmp_eq (x := (wayM F T L Z tc rc) k_5 k_3) (y := 99999) (tgt := 81) hx hb dX1_would_71 (by decide) (fun c_15 => ?_) (fun c_15 => ?_)
            · refine lv_iconst (v := 1) hx hb dX1_would_81 (by decide) ?_
              refine lv_goto (tgt := 86) hx hb dX1_would_82 (by decide) ?_
              have hP : va_P D vwCl ([xMod b 0 tc rc, xArr (t 0) (b 1) 120 (mkM F T L Z)]) H := hP.sub [0, 1] rfl
              have hD : va_D _ ([xMod b 0 tc rc, xArr (t 0) (b 1) 120 (mkM F T L Z)]) := hD.sub [0, 1] (by decide) rfl
              have hk9 : kWould tc p0 p1 p2 = 0 := by simp [kWould, c_1, eik_3, c_4, eik_5, hpn_9, c_10, c_13, c_15]
              have hP9 : va_P D vwCl ([xMod b (nI (kWould tc p0 p1 p2)) tc rc, xArr (t 0) (b 1) 120 (mkM F T L Z)]) H := by rw [hk9]; exact hP
              have hD9 : va_D A ([xMod b (nI (kWould tc p0 p1 p2)) tc rc, xArr (t 0) (b 1) 120 (mkM F T L Z)]) := by rw [hk9]; exact hD
              subst hAe
              obtain ⟨hq9, hf9⟩ := xm_end (S := Unit) (pu := (fun u : Unit => True)) (r := (fun u : Unit => some (.int (bI (if kWould tc p0 p1 p2 = 0 then (decide (¬ earM F T L Z tc rc 12 = -1) && (decide (wayM F T L Z tc rc (ix p1) (ix p0) = 99999) || !(decide (wayM F T L Z tc rc (ix p1) (ix p0) + p2 < 0)))) else false))))) (wc := [xMod b th tc rc, xArr (t 0) (b 1) 120 (mkM F T L Z)]) (w1 := (fun u : Unit => [xMod b (nI (kWould tc p0 p1 p2)) tc rc, xArr (t 0) (b 1) 120 (mkM F T L Z)])) (o := some (.int 1)) (args := ([.ref (b 0), .int p0, .int p1, .int p2] : List Value).toArray) () rfl trivial (by first | (rw [hk9]; rfl) | (simp only [hk9]; done) | (simp [hk9, c_1, eik_3, c_4, eik_5, hpn_9, c_10, c_13, c_15, bI]; done)) hP9 hD9 hS
              exact W.zret hx hb hr (narrow_b1) hq9 hf9 dX1_would_86 hlocks
            · refine lv_iload hx hb dX1_would_74 (lv_at hl 0 rfl) ?_
              refine lv_iload_n hx hb dX1_would_76 rfl (lv_at hl 4 rfl) ?_
              refine lv_iadd (x := (wayM F T L Z tc rc) k_5 k_3) (y := p2) hx hb dX1_would_77 ?_
              refine lv_if_lt (x := ((wayM F T L Z tc rc) k_5 k_3) + p2) (tgt := 85) hx hb dX1_would_78 (by decide) (fun c_16 => ?_) (fun c_16 => ?_)
              · refine lv_iconst (v := 0) hx hb dX1_would_85 (by decide) ?_
                have hP : va_P D vwCl ([xMod b 0 tc rc, xArr (t 0) (b 1) 120 (mkM F T L Z)]) H := hP.sub [0, 1] rfl
                have hD : va_D _ ([xMod b 0 tc rc, xArr (t 0) (b 1) 120 (mkM F T L Z)]) := hD.sub [0, 1] (by decide) rfl
                have hk9 : kWould tc p0 p1 p2 = 0 := by simp [kWould, c_1, eik_3, c_4, eik_5, hpn_9, c_10, c_13, c_15, c_16]
                have hP9 : va_P D vwCl ([xMod b (nI (kWould tc p0 p1 p2)) tc rc, xArr (t 0) (b 1) 120 (mkM F T L Z)]) H := by rw [hk9]; exact hP
                have hD9 : va_D A ([xMod b (nI (kWould tc p0 p1 p2)) tc rc, xArr (t 0) (b 1) 120 (mkM F T L Z)]) := by rw [hk9]; exact hD
                subst hAe
                obtain ⟨hq9, hf9⟩ := xm_end (S := Unit) (pu := (fun u : Unit => True)) (r := (fun u : Unit => some (.int (bI (if kWould tc p0 p1 p2 = 0 then (decide (¬ earM F T L Z tc rc 12 = -1) && (decide (wayM F T L Z tc rc (ix p1) (ix p0) = 99999) || !(decide (wayM F T L Z tc rc (ix p1) (ix p0) + p2 < 0)))) else false))))) (wc := [xMod b th tc rc, xArr (t 0) (b 1) 120 (mkM F T L Z)]) (w1 := (fun u : Unit => [xMod b (nI (kWould tc p0 p1 p2)) tc rc, xArr (t 0) (b 1) 120 (mkM F T L Z)])) (o := some (.int 0)) (args := ([.ref (b 0), .int p0, .int p1, .int p2] : List Value).toArray) () rfl trivial (by first | (rw [hk9]; rfl) | (simp only [hk9]; done) | (simp [hk9, c_1, eik_3, c_4, eik_5, hpn_9, c_10, c_13, c_15, c_16, bI]; done)) hP9 hD9 hS
                exact W.zret hx hb hr (narrow_b0) hq9 hf9 dX1_would_86 hlocks
              · refine lv_iconst (v := 1) hx hb dX1_would_81 (by decide) ?_
                refine lv_goto (tgt := 86) hx hb dX1_would_82 (by decide) ?_
                have hP : va_P D vwCl ([xMod b 0 tc rc, xArr (t 0) (b 1) 120 (mkM F T L Z)]) H := hP.sub [0, 1] rfl
                have hD : va_D _ ([xMod b 0 tc rc, xArr (t 0) (b 1) 120 (mkM F T L Z)]) := hD.sub [0, 1] (by decide) rfl
                have hk9 : kWould tc p0 p1 p2 = 0 := by simp [kWould, c_1, eik_3, c_4, eik_5, hpn_9, c_10, c_13, c_15, c_16]
                have hP9 : va_P D vwCl ([xMod b (nI (kWould tc p0 p1 p2)) tc rc, xArr (t 0) (b 1) 120 (mkM F T L Z)]) H := by rw [hk9]; exact hP
                have hD9 : va_D A ([xMod b (nI (kWould tc p0 p1 p2)) tc rc, xArr (t 0) (b 1) 120 (mkM F T L Z)]) := by rw [hk9]; exact hD
                subst hAe
                obtain ⟨hq9, hf9⟩ := xm_end (S := Unit) (pu := (fun u : Unit => True)) (r := (fun u : Unit => some (.int (bI (if kWould tc p0 p1 p2 = 0 then (decide (¬ earM F T L Z tc rc 12 = -1) && (decide (wayM F T L Z tc rc (ix p1) (ix p0) = 99999) || !(decide (wayM F T L Z tc rc (ix p1) (ix p0) + p2 < 0)))) else false))))) (wc := [xMod b th tc rc, xArr (t 0) (b 1) 120 (mkM F T L Z)]) (w1 := (fun u : Unit => [xMod b (nI (kWould tc p0 p1 p2)) tc rc, xArr (t 0) (b 1) 120 (mkM F T L Z)])) (o := some (.int 1)) (args := ([.ref (b 0), .int p0, .int p1, .int p2] : List Value).toArray) () rfl trivial (by first | (rw [hk9]; rfl) | (simp only [hk9]; done) | (simp [hk9, c_1, eik_3, c_4, eik_5, hpn_9, c_10, c_13, c_15, c_16, bI]; done)) hP9 hD9 hS
                exact W.zret hx hb hr (narrow_b1) hq9 hf9 dX1_would_86 hlocks
          · have c_13 := Classical.not_not.mp (of_decide_eq_false (bI_0 c_13))
            refine lv_iconst (v := 0) hx hb dX1_would_55 (by decide) ?_
            have hk9 : kWould tc p0 p1 p2 = 0 := by simp [kWould, c_1, eik_3, c_4, eik_5, hpn_9, c_10, c_13]
            have hP9 : va_P D vwCl ([xMod b (nI (kWould tc p0 p1 p2)) tc rc, xArr (t 0) (b 1) 120 (mkM F T L Z)]) H := by rw [hk9]; exact hP
            have hD9 : va_D A ([xMod b (nI (kWould tc p0 p1 p2)) tc rc, xArr (t 0) (b 1) 120 (mkM F T L Z)]) := by rw [hk9]; exact hD
            subst hAe
            refine W.widen (k := 14) (n := 169) (Nat.le_of_ble_eq_true rfl) (Nat.le_of_ble_eq_true rfl) ?_
            obtain ⟨hq9, hf9⟩ := xm_end (S := Unit) (pu := (fun u : Unit => True)) (r := (fun u : Unit => some (.int (bI (if kWould tc p0 p1 p2 = 0 then (decide (¬ earM F T L Z tc rc 12 = -1) && (decide (wayM F T L Z tc rc (ix p1) (ix p0) = 99999) || !(decide (wayM F T L Z tc rc (ix p1) (ix p0) + p2 < 0)))) else false))))) (wc := [xMod b th tc rc, xArr (t 0) (b 1) 120 (mkM F T L Z)]) (w1 := (fun u : Unit => [xMod b (nI (kWould tc p0 p1 p2)) tc rc, xArr (t 0) (b 1) 120 (mkM F T L Z)])) (o := some (.int 0)) (args := ([.ref (b 0), .int p0, .int p1, .int p2] : List Value).toArray) () rfl trivial (by first | (rw [hk9]; rfl) | (simp only [hk9]; done) | (simp [hk9, c_1, eik_3, c_4, eik_5, hpn_9, c_10, c_13, bI]; done)) hP9 hD9 hS
            exact W.zret hx hb hr (narrow_b0) hq9 hf9 dX1_would_56 hlocks
        · have c_10 := bI_0 c_10
          refine lv_iconst (v := 2) hx hb dX1_would_33 (by decide) ?_
          refine lv_goto (tgt := 38) hx hb dX1_would_34 (by decide) ?_
          refine x1_put (x := 2) hx hb hts hin hown hK hP hD hS 0 ([xMod b 2 tc rc, xArr (t 0) (b 1) 120 (mkM F T L Z)]) rfl 0 (by decide) fl_13 rfl rfl (Nat.le_of_ble_eq_true rfl) rfl dX1_would_38 rfl (fun H locs hP hD hS => ?_)
          refine lv_aload_n hx hb dX1_would_41 rfl (lv_at hl 0 rfl) ?_
          refine x1_get (v := .int 2) hx hb hts hin hown hK hP 0 rfl 0 (by decide) fl_13 rfl dX1_would_42 rfl ?_
          refine lv_if_ne (tgt := 55) hx hb dX1_would_45 (by decide) (fun c_17 => ?_) (fun c_17 => ?_)
          rotate_left
          · exact False.elim (by revert c_17; decide)
          refine lv_iconst (v := 0) hx hb dX1_would_55 (by decide) ?_
          have hk9 : kWould tc p0 p1 p2 = 2 := by simp [kWould, c_1, eik_3, c_4, eik_5, hpn_9, c_10]
          have hP9 : va_P D vwCl ([xMod b (nI (kWould tc p0 p1 p2)) tc rc, xArr (t 0) (b 1) 120 (mkM F T L Z)]) H := by rw [hk9]; exact hP
          have hD9 : va_D A ([xMod b (nI (kWould tc p0 p1 p2)) tc rc, xArr (t 0) (b 1) 120 (mkM F T L Z)]) := by rw [hk9]; exact hD
          subst hAe
          refine W.widen (k := 14) (n := 169) (Nat.le_of_ble_eq_true rfl) (Nat.le_of_ble_eq_true rfl) ?_
          obtain ⟨hq9, hf9⟩ := xm_end (S := Unit) (pu := (fun u : Unit => True)) (r := (fun u : Unit => some (.int (bI (if kWould tc p0 p1 p2 = 0 then (decide (¬ earM F T L Z tc rc 12 = -1) && (decide (wayM F T L Z tc rc (ix p1) (ix p0) = 99999) || !(decide (wayM F T L Z tc rc (ix p1) (ix p0) + p2 < 0)))) else false))))) (wc := [xMod b th tc rc, xArr (t 0) (b 1) 120 (mkM F T L Z)]) (w1 := (fun u : Unit => [xMod b (nI (kWould tc p0 p1 p2)) tc rc, xArr (t 0) (b 1) 120 (mkM F T L Z)])) (o := some (.int 0)) (args := ([.ref (b 0), .int p0, .int p1, .int p2] : List Value).toArray) () rfl trivial (by first | (rw [hk9]; rfl) | (simp only [hk9]; done) | (simp [hk9, c_1, eik_3, c_4, eik_5, hpn_9, c_10, bI]; done)) hP9 hD9 hS
          exact W.zret hx hb hr (narrow_b0) hq9 hf9 dX1_would_56 hlocks
    · have c_4 := bI_0 c_4
      refine lv_iconst (v := 1) hx hb dX1_would_17 (by decide) ?_
      refine lv_goto (tgt := 38) hx hb dX1_would_18 (by decide) ?_
      refine x1_put (x := 1) hx hb hts hin hown hK hP hD hS 0 ([xMod b 1 tc rc, xArr (t 0) (b 1) 120 (mkM F T L Z)]) rfl 0 (by decide) fl_13 rfl rfl (Nat.le_of_ble_eq_true rfl) rfl dX1_would_38 rfl (fun H locs hP hD hS => ?_)
      refine lv_aload_n hx hb dX1_would_41 rfl (lv_at hl 0 rfl) ?_
      refine x1_get (v := .int 1) hx hb hts hin hown hK hP 0 rfl 0 (by decide) fl_13 rfl dX1_would_42 rfl ?_
      refine lv_if_ne (tgt := 55) hx hb dX1_would_45 (by decide) (fun c_18 => ?_) (fun c_18 => ?_)
      rotate_left
      · exact False.elim (by revert c_18; decide)
      refine lv_iconst (v := 0) hx hb dX1_would_55 (by decide) ?_
      have hk9 : kWould tc p0 p1 p2 = 1 := by simp [kWould, c_1, eik_3, c_4]
      have hP9 : va_P D vwCl ([xMod b (nI (kWould tc p0 p1 p2)) tc rc, xArr (t 0) (b 1) 120 (mkM F T L Z)]) H := by rw [hk9]; exact hP
      have hD9 : va_D A ([xMod b (nI (kWould tc p0 p1 p2)) tc rc, xArr (t 0) (b 1) 120 (mkM F T L Z)]) := by rw [hk9]; exact hD
      subst hAe
      refine W.widen (k := 14) (n := 169) (Nat.le_of_ble_eq_true rfl) (Nat.le_of_ble_eq_true rfl) ?_
      obtain ⟨hq9, hf9⟩ := xm_end (S := Unit) (pu := (fun u : Unit => True)) (r := (fun u : Unit => some (.int (bI (if kWould tc p0 p1 p2 = 0 then (decide (¬ earM F T L Z tc rc 12 = -1) && (decide (wayM F T L Z tc rc (ix p1) (ix p0) = 99999) || !(decide (wayM F T L Z tc rc (ix p1) (ix p0) + p2 < 0)))) else false))))) (wc := [xMod b th tc rc, xArr (t 0) (b 1) 120 (mkM F T L Z)]) (w1 := (fun u : Unit => [xMod b (nI (kWould tc p0 p1 p2)) tc rc, xArr (t 0) (b 1) 120 (mkM F T L Z)])) (o := some (.int 0)) (args := ([.ref (b 0), .int p0, .int p1, .int p2] : List Value).toArray) () rfl trivial (by first | (rw [hk9]; rfl) | (simp only [hk9]; done) | (simp [hk9, c_1, eik_3, c_4, bI]; done)) hP9 hD9 hS
      exact W.zret hx hb hr (narrow_b0) hq9 hf9 dX1_would_56 hlocks
set_option maxHeartbeats 4000000 in
set_option maxRecDepth 100000 in
theorem c_X1_holds (l : Launch) (D : va_G) (t : Nat → ClassId) (b : Nat → Nat) (th : Int32) (tc rc : Nat) (F T : Nat → Nat) (L : Nat → Int32) (Z : Nat → Bool) (sz : Nat) (htc : tc ≤ 12) (hrc : rc ≤ 30) (hF : ∀ r, r < rc → F r < tc ∧ T r < tc) : Met l yX1_holds wsX1_holds ({ frames := 4, cells := 1, slots := 13, locals := 88 }) (xMu D (xTy t) (va_AOA .int) [.ref (b 0)] [xMod b th tc rc, xArr (t 0) (b 1) 120 (mkM F T L Z)] sz) (xQm D (fun u : Unit => True) (fun u : Unit => some (.int (bI (decide (¬ earM F T L Z tc rc 12 = -1))))) [xMod b th tc rc, xArr (t 0) (b 1) 120 (mkM F T L Z)] (fun u : Unit => [xMod b 0 tc rc, xArr (t 0) (b 1) 120 (mkM F T L Z)]) sz) 1 13 (va_A [xMod b th tc rc, xArr (t 0) (b 1) 120 (mkM F T L Z)] sz) := by
  refine Met.ofW (cc := cX1_holds) (maxL := 1) (ret := (some .boolean)) (by decide) rfl ?_
  intro p e s m args below meth c s₁ hB9 hml hv
  obtain ⟨rfl, hsz, hP, hK, hD0, hXX⟩ := hv
  have hx := hB9.exec
  have hb := hB9.bytes
  have hr := hB9.returns
  have hts := atoms_spec (ws := wsX1_holds) hB9.pre
  have hown : s.vm.findClass RX1 = some m.cls := findClass_of_methodNamed hB9.named
  have hlocks := hB9.notSynchronized
  have hin : ∀ w ∈ wsX10, w ∈ wsX1_holds := fun _ h => List.mem_cons_of_mem _ (List.mem_append_right _ h)
  have fl_13 := hts (.fieldLink RX1 13 "RopeTimesModel" "thrown" "I") (by decide +kernel)
  subst hsz
  have hD := hD0.self (sz := s.heap.size)
  generalize hAe : va_A ([xMod b th tc rc, xArr (t 0) (b 1) 120 (mkM F T L Z)]) s.heap.size = A at hD ⊢
  have hA : ∀ q : Nat, s.heap.size ≤ q → A q := fun q h => by rw [← hAe]; exact Or.inr h
  have hS : va_S A s.heap s.heap [] := va_S.rf
  have hP : va_P D vwCl ([xMod b th tc rc, xArr (t 0) (b 1) 120 (mkM F T L Z)]) s.heap := hP
  have hD : va_D A ([xMod b th tc rc, xArr (t 0) (b 1) 120 (mkM F T L Z)]) := hD
  have hl := lv_entry ([.ref (b 0)]) (n := 1) (Nat.le_of_ble_eq_true rfl)
  rw [lg_entry_eq]
  generalize (lg_sl ([.ref (b 0)]) ++ List.replicate (1 - (lg_sl ([.ref (b 0)])).length) Slot.unset).toArray = ls at hl ⊢
  have hl : lv_has ls 1 [(0, .ref (b 0))] := hl
  refine lv_aload_n hx hb dX1_holds_0 rfl (lv_at hl 0 rfl) ?_
  refine lv_iconst (v := 0) hx hb dX1_holds_1 (by decide) ?_
  refine x1_put (x := 0) hx hb hts hin hown hK hP hD hS 0 ([xMod b 0 tc rc, xArr (t 0) (b 1) 120 (mkM F T L Z)]) rfl 0 (by decide) fl_13 rfl rfl (Nat.le_of_ble_eq_true rfl) rfl dX1_holds_2 rfl (fun H locs hP hD hS => ?_)
  refine lv_aload_n hx hb dX1_holds_5 rfl (lv_at hl 0 rfl) ?_
  refine xm_V (b := b 0) (As := []) (rest := []) (wr := []) ⟨hx, hb, hml, hown, hts⟩ aoT (c_X1_isHeld l D t b 0 tc rc F T L Z _ (by omega) (by omega) hF) (cwV 0 hts gX1_holds_X1_isHeld rfl rfl rfl hd_X1_isHeld ⟨Nat.le_of_ble_eq_true rfl, Nat.le_of_ble_eq_true rfl⟩) hK hP hD hS hA (fun U hW _ => va_AOA.moved hW.alike hXX) (va_recv hK hP (ci := 1) (q0 := 0) rfl rfl) [0, 1] [] rfl rfl (by decide) (by decide) (by decide) rfl hl.1 rfl (Nat.le_of_ble_eq_true rfl) dX1_holds_6 ⟨(Nat.le_of_ble_eq_true rfl), (Nat.le_of_ble_eq_true rfl)⟩ (fun u_1 H locs hu hP hD hS hz => ?_)
  have hP : va_P D vwCl ([xMod b 0 tc rc, xArr (t 0) (b 1) 120 (mkM F T L Z)]) H := hP
  have hD : va_D _ ([xMod b 0 tc rc, xArr (t 0) (b 1) 120 (mkM F T L Z)]) := hD
  subst hAe
  obtain ⟨hq9, hf9⟩ := xm_end (S := Unit) (pu := (fun u : Unit => True)) (r := (fun u : Unit => some (.int (bI (decide (¬ earM F T L Z tc rc 12 = -1)))))) (wc := [xMod b th tc rc, xArr (t 0) (b 1) 120 (mkM F T L Z)]) (w1 := (fun u : Unit => [xMod b 0 tc rc, xArr (t 0) (b 1) 120 (mkM F T L Z)])) (o := some (.int (bI (decide (¬ earM F T L Z tc rc 12 = -1))))) (args := ([.ref (b 0)] : List Value).toArray) () rfl trivial rfl hP hD hS
  exact W.zret hx hb hr (x_narB _) hq9 hf9 dX1_holds_9 hlocks
set_option maxHeartbeats 4000000 in
set_option maxRecDepth 100000 in
theorem c_X1_advise (l : Launch) (D : va_G) (t : Nat → ClassId) (b : Nat → Nat) (th : Int32) (tc rc : Nat) (F T : Nat → Nat) (L : Nat → Int32) (Z : Nat → Bool) (sz : Nat) (htc : tc ≤ 12) (hrc : rc ≤ 30) (hF : ∀ r, r < rc → F r < tc ∧ T r < tc) : Met l yX1_advise wsX1_advise ({ frames := 3, cells := 31, slots := 403, locals := 68 }) (xMu D (xTy t) (va_AOA .int) [.ref (b 0)] [xMod b th tc rc, xArr (t 0) (b 1) 120 (mkM F T L Z)] sz) (xQm D (fun u : Unit => True) (fun u : Unit => some (.int (advM F T L Z tc rc))) [xMod b th tc rc, xArr (t 0) (b 1) 120 (mkM F T L Z)] (fun u : Unit => [xMod b 0 tc rc, xArr (t 0) (b 1) 120 (mkM F T L Z)]) sz) 31 403 (va_A [xMod b th tc rc, xArr (t 0) (b 1) 120 (mkM F T L Z)] sz) := by
  refine Met.ofW (cc := cX1_advise) (maxL := 6) (ret := (some .int)) (by decide) rfl ?_
  intro p e s m args below meth c s₁ hB9 hml hv
  obtain ⟨rfl, hsz, hP, hK, hD0, hXX⟩ := hv
  have hx := hB9.exec
  have hb := hB9.bytes
  have hr := hB9.returns
  have hts := atoms_spec (ws := wsX1_advise) hB9.pre
  have hown : s.vm.findClass RX1 = some m.cls := findClass_of_methodNamed hB9.named
  have hlocks := hB9.notSynchronized
  have hin : ∀ w ∈ wsX10, w ∈ wsX1_advise := fun _ h => List.mem_cons_of_mem _ (List.mem_append_right _ h)
  have fl_13 := hts (.fieldLink RX1 13 "RopeTimesModel" "thrown" "I") (by decide +kernel)
  have kc_109 := hts (.constant RX1 109 (2147483647)) (by decide +kernel)
  have fl_24 := hts (.fieldLink RX1 24 "RopeTimesModel" "ropes" "I") (by decide +kernel)
  have fl_9 := hts (.fieldLink RX1 9 "RopeTimesModel" "rows" "[I") (by decide +kernel)
  subst hsz
  have hD := hD0.self (sz := s.heap.size)
  generalize hAe : va_A ([xMod b th tc rc, xArr (t 0) (b 1) 120 (mkM F T L Z)]) s.heap.size = A at hD ⊢
  have hA : ∀ q : Nat, s.heap.size ≤ q → A q := fun q h => by rw [← hAe]; exact Or.inr h
  have hS : va_S A s.heap s.heap [] := va_S.rf
  have hP : va_P D vwCl ([xMod b th tc rc, xArr (t 0) (b 1) 120 (mkM F T L Z)]) s.heap := hP
  have hD : va_D A ([xMod b th tc rc, xArr (t 0) (b 1) 120 (mkM F T L Z)]) := hD
  have hl := lv_entry ([.ref (b 0)]) (n := 6) (Nat.le_of_ble_eq_true rfl)
  rw [lg_entry_eq]
  generalize (lg_sl ([.ref (b 0)]) ++ List.replicate (6 - (lg_sl ([.ref (b 0)])).length) Slot.unset).toArray = ls at hl ⊢
  have hl : lv_has ls 6 [(0, .ref (b 0))] := hl
  refine lv_aload_n hx hb dX1_advise_0 rfl (lv_at hl 0 rfl) ?_
  refine lv_iconst (v := 0) hx hb dX1_advise_1 (by decide) ?_
  refine x1_put (x := 0) hx hb hts hin hown hK hP hD hS 0 ([xMod b 0 tc rc, xArr (t 0) (b 1) 120 (mkM F T L Z)]) rfl 0 (by decide) fl_13 rfl rfl (Nat.le_of_ble_eq_true rfl) rfl dX1_advise_2 rfl (fun H locs hP hD hS => ?_)
  refine lv_aload_n hx hb dX1_advise_5 rfl (lv_at hl 0 rfl) ?_
  refine xm_V (b := b 0) (As := []) (rest := []) (wr := []) ⟨hx, hb, hml, hown, hts⟩ aoT (c_X1_earliest l D t b 0 tc rc F T L Z _ (by omega) (by omega) hF) (cwV 0 hts gX1_advise_X1_earliest rfl rfl rfl hd_X1_earliest ⟨Nat.le_of_ble_eq_true rfl, Nat.le_of_ble_eq_true rfl⟩) hK hP hD hS hA (fun U hW _ => va_AOA.moved hW.alike hXX) (va_recv hK hP (ci := 1) (q0 := 0) rfl rfl) [0, 1] [] rfl rfl (by decide) (by decide) (by decide) rfl hl.1 rfl (Nat.le_of_ble_eq_true rfl) dX1_advise_6 ⟨(Nat.le_of_ble_eq_true rfl), (Nat.le_of_ble_eq_true rfl)⟩ (fun u_1 H locs hu hP hD hS hz => ?_)
  have hP : va_P D vwCl ([xMod b 0 tc rc, xArr (t 0) (b 1) 120 (mkM F T L Z), xArr (t 0) u_1 13 (earM F T L Z tc rc)]) H := hP
  have hD : va_D _ ([xMod b 0 tc rc, xArr (t 0) (b 1) 120 (mkM F T L Z), xArr (t 0) u_1 13 (earM F T L Z tc rc)]) := hD
  refine lv_astore_n (lv' := [(1, .ref u_1), (0, .ref (b 0))]) hx hb dX1_advise_9 rfl hl (by decide) rfl (fun ls hl => ?_)
  refine lv_aload_n hx hb dX1_advise_10 rfl (lv_at hl 1 rfl) ?_
  refine lv_aload_n hx hb dX1_advise_11 rfl (lv_at hl 0 rfl) ?_
  refine xr_V (b := b 0) (As := [.ref u_1]) (rest := []) ⟨hx, hb, hml, hown, hts⟩ (c_X1_isFound l D t b 0 tc rc u_1 (earM F T L Z tc rc)) (cwV 1 hts gX1_advise_X1_isFound rfl rfl rfl hd_X1_isFound ⟨Nat.le_of_ble_eq_true rfl, Nat.le_of_ble_eq_true rfl⟩) hK hP (va_recv hK hP (ci := 1) (q0 := 0) rfl rfl) [0, 2] rfl rfl hl.1 rfl (Nat.le_of_ble_eq_true rfl) dX1_advise_12 ⟨(Nat.le_of_ble_eq_true rfl), (Nat.le_of_ble_eq_true rfl)⟩ ?_
  refine lv_if_eq (x := bI (decide (¬ (earM F T L Z tc rc) 12 = -1))) (tgt := 26) hx hb dX1_advise_15 (by decide) (fun c_2 => ?_) (fun c_2 => ?_)
  · have c_2 := Classical.not_not.mp (of_decide_eq_false (bI_0 c_2))
    refine lv_ldc (v := 2147483647) hx hb hown kc_109 dX1_advise_26 ?_
    refine lv_istore_n (lv' := [(2, .int 2147483647), (1, .ref u_1), (0, .ref (b 0))]) hx hb dX1_advise_28 rfl hl (by decide) rfl (fun ls hl => ?_)
    have hP : va_P D vwCl ([xMod b 0 tc rc, xArr (t 0) (b 1) 120 (mkM F T L Z)]) H := hP.sub [0, 1] rfl
    have hD : va_D _ ([xMod b 0 tc rc, xArr (t 0) (b 1) 120 (mkM F T L Z)]) := hD.sub [0, 1] (by decide) rfl
    refine lv_iconst (v := (-1)) hx hb dX1_advise_29 (by decide) ?_
    refine lv_istore_n (lv' := [(3, .int (-1)), (2, .int 2147483647), (1, .ref u_1), (0, .ref (b 0))]) hx hb dX1_advise_30 rfl hl (by decide) rfl (fun ls hl => ?_)
    refine lv_iconst (v := 0) hx hb dX1_advise_31 (by decide) ?_
    refine lv_istore (lv' := [(4, .int 0), (3, .int (-1)), (2, .int 2147483647), (1, .ref u_1), (0, .ref (b 0))]) hx hb dX1_advise_32 hl (by decide) rfl (fun ls hl => ?_)
    have lp_34 : ∀ (n34 : Nat) (r : Nat) (best : Int32) (least : Int32), r + n34 = rc → adM F T L Z tc rc n34 r best least = adM F T L Z tc rc rc 0 (-1) 2147483647 → ∀ (H : Heap) (locs : List Loc), va_P D vwCl ([xMod b 0 tc rc, xArr (t 0) (b 1) 120 (mkM F T L Z)]) H → va_D A ([xMod b 0 tc rc, xArr (t 0) (b 1) 120 (mkM F T L Z)]) → va_S A s.heap H locs → ∀ ls : Array Slot, lv_has ls 6 [(4, .int (nI r)), (3, .int best), (2, .int least), (0, .ref (b 0))] → W p l e (headSpec wsX1_advise ({ frames := 3, cells := 31, slots := 403, locals := 68 } : Jvm.Room)).room s m (([.ref (b 0)] : List Value).toArray) below meth c H locs (1 + r) (13 + 13 * r) (MQ below (xQm D (fun u : Unit => True) (fun u : Unit => some (.int (advM F T L Z tc rc))) [xMod b th tc rc, xArr (t 0) (b 1) 120 (mkM F T L Z)] (fun u : Unit => [xMod b 0 tc rc, xArr (t 0) (b 1) 120 (mkM F T L Z)]) s.heap.size) (([.ref (b 0)] : List Value).toArray) s 31 403 A) (F0 m 34 ls []) := by
      intro n34
      induction n34 using Nat.strongRecOn with
      | _ n34 ih_34 =>
        intro r best least hm_34 hfin_34 H locs hP hD hS ls hl
        refine lv_iload hx hb dX1_advise_34 (lv_at hl 0 rfl) ?_
        refine lv_aload_n hx hb dX1_advise_36 rfl (lv_at hl 3 rfl) ?_
        refine x1_get (v := .int (nI rc)) hx hb hts hin hown hK hP 0 rfl 2 (by decide) fl_24 rfl dX1_advise_37 rfl ?_
        refine lv_icmp_ge (x := nI r) (y := nI rc) (tgt := 123) hx hb dX1_advise_40 (by decide) (fun c_3 => ?_) (fun c_3 => ?_)
        · have c_3 := (nI_leI (a := rc) (b := r) (by omega) (by omega)).mp c_3
          have hn0_34 : n34 = 0 := by omega
          subst hn0_34
          obtain rfl : best = adM F T L Z tc rc rc 0 (-1) 2147483647 := hfin_34
          refine lv_iload_n hx hb dX1_advise_123 rfl (lv_at hl 1 rfl) ?_
          subst hAe
          refine W.widen (k := 31) (n := 403) (by omega) (by omega) ?_
          obtain ⟨hq9, hf9⟩ := xm_end (S := Unit) (pu := (fun u : Unit => True)) (r := (fun u : Unit => some (.int (advM F T L Z tc rc)))) (wc := [xMod b th tc rc, xArr (t 0) (b 1) 120 (mkM F T L Z)]) (w1 := (fun u : Unit => [xMod b 0 tc rc, xArr (t 0) (b 1) 120 (mkM F T L Z)])) (o := some (.int (adM F T L Z tc rc rc 0 (-1) 2147483647))) (args := ([.ref (b 0)] : List Value).toArray) () rfl trivial (by simp [advM, c_2, c_3, Nat.not_lt.mpr c_3]) hP hD hS
          exact W.iret hx hb hr hq9 hf9 dX1_advise_124 hlocks
        · have c_3 : r < rc := Nat.lt_of_not_le (fun z9 => c_3 ((nI_leI (a := rc) (b := r) (by omega) (by omega)).mpr z9))
          obtain ⟨n349, rfl⟩ : ∃ z, n34 = z + 1 := ⟨n34 - 1, by omega⟩
          refine lv_aload_n hx hb dX1_advise_43 rfl (lv_at hl 3 rfl) ?_
          refine lv_iload hx hb dX1_advise_44 (lv_at hl 0 rfl) ?_
          refine xr_V (b := b 0) (As := [.int (nI r)]) (rest := []) ⟨hx, hb, hml, hown, hts⟩ (c_X1_isTied l D t b 0 tc rc F T L Z r (by omega)) (cwV 1 hts gX1_advise_X1_isTied rfl rfl rfl hd_X1_isTied ⟨Nat.le_of_ble_eq_true rfl, Nat.le_of_ble_eq_true rfl⟩) hK hP (va_recv hK hP (ci := 1) (q0 := 0) rfl rfl) [0, 1] rfl rfl hl.1 rfl (Nat.le_of_ble_eq_true rfl) dX1_advise_46 ⟨(by show _ ≤ 31; omega), (by show _ ≤ 403; omega)⟩ ?_
          refine lv_if_ne (x := bI (Z r)) (tgt := 55) hx hb dX1_advise_49 (by decide) (fun c_4 => ?_) (fun c_4 => ?_)
          · have c_4 := bI_n0 c_4
            refine lv_aload_n hx hb dX1_advise_55 rfl (lv_at hl 3 rfl) ?_
            refine x1_get (v := .ref (b 1)) hx hb hts hin hown hK hP 0 rfl 3 (by decide) fl_9 rfl dX1_advise_56 rfl ?_
            refine lv_iconst (v := 4) hx hb dX1_advise_59 (by decide) ?_
            refine lv_iload hx hb dX1_advise_60 (lv_at hl 0 rfl) ?_
            refine lv_imul (x := 4) (y := nI r) hx hb dX1_advise_62 ?_
            refine x_top (w := nI (4 * r)) (pk_mul 4 r) ?_
            refine lv_iconst (v := 3) hx hb dX1_advise_63 (by decide) ?_
            refine lv_iadd (x := nI (4 * r)) (y := 3) hx hb dX1_advise_64 ?_
            refine x_top (w := nI (4 * r + 3)) (nI_add (4 * r) 3) ?_
            refine lv_iconst (v := 0) hx hb dX1_advise_65 (by decide) ?_
            refine x_iast (x := 0) (f := mkM F T L Z) hx hb hK hP hD hS 1 0 ([xMod b 0 tc rc, xArr (t 0) (b 1) 120 (mkM F T L (updB Z r false))]) rfl rfl (k := 4 * r + 3) (by rw [← mkM_Z F T L Z r false]; rfl) (by omega) (Nat.le_of_ble_eq_true rfl) dX1_advise_66 (fun H locs hP hD hS => ?_)
            refine lv_aload_n hx hb dX1_advise_67 rfl (lv_at hl 3 rfl) ?_
            refine xm_V (b := b 0) (As := []) (rest := []) (wr := []) ⟨hx, hb, hml, hown, hts⟩ aoT (c_X1_earliest l D t b 0 tc rc F T L (updB Z r false) _ (by omega) (by omega) hF) (cwV 0 hts gX1_advise_X1_earliest rfl rfl rfl hd_X1_earliest ⟨Nat.le_of_ble_eq_true rfl, Nat.le_of_ble_eq_true rfl⟩) hK hP hD hS hA (fun U hW _ => va_AOA.moved hW.alike hXX) (va_recv hK hP (ci := 1) (q0 := 0) rfl rfl) [0, 1] [] rfl rfl (by decide) (by decide) (by decide) rfl hl.1 rfl (Nat.le_of_ble_eq_true rfl) dX1_advise_68 ⟨(by show _ ≤ 31; omega), (by show _ ≤ 403; omega)⟩ (fun u_5 H locs hu hP hD hS hz => ?_)
            have hP : va_P D vwCl ([xMod b 0 tc rc, xArr (t 0) (b 1) 120 (mkM F T L (updB Z r false)), xArr (t 0) u_5 13 (earM F T L (updB Z r false) tc rc)]) H := hP
            have hD : va_D _ ([xMod b 0 tc rc, xArr (t 0) (b 1) 120 (mkM F T L (updB Z r false)), xArr (t 0) u_5 13 (earM F T L (updB Z r false) tc rc)]) := hD
            refine lv_astore (lv' := [(5, .ref u_5), (4, .int (nI r)), (3, .int best), (2, .int least), (0, .ref (b 0))]) hx hb dX1_advise_71 hl (by decide) rfl (fun ls hl => ?_)
            refine lv_aload_n hx hb dX1_advise_73 rfl (lv_at hl 4 rfl) ?_
            refine x1_get (v := .ref (b 1)) hx hb hts hin hown hK hP 0 rfl 3 (by decide) fl_9 rfl dX1_advise_74 rfl ?_
            refine lv_iconst (v := 4) hx hb dX1_advise_77 (by decide) ?_
            refine lv_iload hx hb dX1_advise_78 (lv_at hl 1 rfl) ?_
            refine lv_imul (x := 4) (y := nI r) hx hb dX1_advise_80 ?_
            refine x_top (w := nI (4 * r)) (pk_mul 4 r) ?_
            refine lv_iconst (v := 3) hx hb dX1_advise_81 (by decide) ?_
            refine lv_iadd (x := nI (4 * r)) (y := 3) hx hb dX1_advise_82 ?_
            refine x_top (w := nI (4 * r + 3)) (nI_add (4 * r) 3) ?_
            refine lv_iconst (v := 1) hx hb dX1_advise_83 (by decide) ?_
            refine x_iast (x := 1) (f := mkM F T L (updB Z r false)) hx hb hK hP hD hS 1 0 ([xMod b 0 tc rc, xArr (t 0) (b 1) 120 (mkM F T L (updB (updB Z r false) r true)), xArr (t 0) u_5 13 (earM F T L (updB Z r false) tc rc)]) rfl rfl (k := 4 * r + 3) (by rw [← mkM_Z F T L (updB Z r false) r true]; rfl) (by omega) (Nat.le_of_ble_eq_true rfl) dX1_advise_84 (fun H locs hP hD hS => ?_)
            rw [updB_same false c_4] at hP hD
            have hP : va_P D vwCl ([xMod b 0 tc rc, xArr (t 0) (b 1) 120 (mkM F T L Z), xArr (t 0) u_5 13 (earM F T L (updB Z r false) tc rc)]) H := hP
            have hD : va_D _ ([xMod b 0 tc rc, xArr (t 0) (b 1) 120 (mkM F T L Z), xArr (t 0) u_5 13 (earM F T L (updB Z r false) tc rc)]) := hD
            refine lv_aload_n hx hb dX1_advise_85 rfl (lv_at hl 4 rfl) ?_
            refine lv_aload hx hb dX1_advise_86 (lv_at hl 0 rfl) ?_
            refine xr_V (b := b 0) (As := [.ref u_5]) (rest := []) ⟨hx, hb, hml, hown, hts⟩ (c_X1_isFound l D t b 0 tc rc u_5 (earM F T L (updB Z r false) tc rc)) (cwV 1 hts gX1_advise_X1_isFound rfl rfl rfl hd_X1_isFound ⟨Nat.le_of_ble_eq_true rfl, Nat.le_of_ble_eq_true rfl⟩) hK hP (va_recv hK hP (ci := 1) (q0 := 0) rfl rfl) [0, 2] rfl rfl hl.1 rfl (Nat.le_of_ble_eq_true rfl) dX1_advise_88 ⟨(by show _ ≤ 31; omega), (by show _ ≤ 403; omega)⟩ ?_
            refine lv_if_eq (x := bI (decide (¬ (earM F T L (updB Z r false) tc rc) 12 = -1))) (tgt := 117) hx hb dX1_advise_91 (by decide) (fun c_6 => ?_) (fun c_6 => ?_)
            · have c_6 := Classical.not_not.mp (of_decide_eq_false (bI_0 c_6))
              have hP : va_P D vwCl ([xMod b 0 tc rc, xArr (t 0) (b 1) 120 (mkM F T L Z)]) H := hP.sub [0, 1] rfl
              have hD : va_D _ ([xMod b 0 tc rc, xArr (t 0) (b 1) 120 (mkM F T L Z)]) := hD.sub [0, 1] (by decide) rfl
              refine lv_iinc (v := nI (r + 1)) (lv' := [(4, .int (nI (r + 1))), (5, .ref u_5), (3, .int best), (2, .int least), (0, .ref (b 0))]) hx hb dX1_advise_117 hl (k := 1) rfl (x_inc _) (by decide) rfl (fun ls hl => ?_)
              refine lv_goto (tgt := 34) hx hb dX1_advise_120 (by decide) ?_
              refine W.widen (k := 1 + (r + 1)) (n := 13 + 13 * (r + 1)) (by omega) (by omega) ?_
              exact ih_34 n349 (by omega) (r + 1) best least (by omega) (by rw [← hfin_34]; simp [adM, c_2, c_3, c_4, c_6]) _ _ hP hD hS _ (lv_sub hl [0, 2, 3, 4] rfl)
            · have c_6 := of_decide_eq_true (bI_n0 c_6)
              refine lv_aload_n hx hb dX1_advise_94 rfl (lv_at hl 4 rfl) ?_
              refine lv_aload hx hb dX1_advise_95 (lv_at hl 0 rfl) ?_
              refine xr_V (b := b 0) (As := [.ref u_5]) (rest := []) ⟨hx, hb, hml, hown, hts⟩ (c_X1_last l D t b 0 tc rc u_5 (earM F T L (updB Z r false) tc rc) (by omega)) (cwV 1 hts gX1_advise_X1_last rfl rfl rfl hd_X1_last ⟨Nat.le_of_ble_eq_true rfl, Nat.le_of_ble_eq_true rfl⟩) hK hP (va_recv hK hP (ci := 1) (q0 := 0) rfl rfl) [0, 2] rfl rfl hl.1 rfl (Nat.le_of_ble_eq_true rfl) dX1_advise_97 ⟨(by show _ ≤ 31; omega), (by show _ ≤ 403; omega)⟩ ?_
              refine lv_iload_n hx hb dX1_advise_100 rfl (lv_at hl 3 rfl) ?_
              refine lv_icmp_lt (x := lastF (earM F T L (updB Z r false) tc rc) tc 0 0) (y := least) (tgt := 107) hx hb dX1_advise_101 (by decide) (fun c_7 => ?_) (fun c_7 => ?_)
              · refine lv_iload hx hb dX1_advise_107 (lv_at hl 1 rfl) ?_
                refine lv_istore_n (lv' := [(3, .int (nI r)), (5, .ref u_5), (4, .int (nI r)), (2, .int least), (0, .ref (b 0))]) hx hb dX1_advise_109 rfl hl (by decide) rfl (fun ls hl => ?_)
                refine lv_aload_n hx hb dX1_advise_110 rfl (lv_at hl 4 rfl) ?_
                refine lv_aload hx hb dX1_advise_111 (lv_at hl 1 rfl) ?_
                refine xr_V (b := b 0) (As := [.ref u_5]) (rest := []) ⟨hx, hb, hml, hown, hts⟩ (c_X1_last l D t b 0 tc rc u_5 (earM F T L (updB Z r false) tc rc) (by omega)) (cwV 1 hts gX1_advise_X1_last rfl rfl rfl hd_X1_last ⟨Nat.le_of_ble_eq_true rfl, Nat.le_of_ble_eq_true rfl⟩) hK hP (va_recv hK hP (ci := 1) (q0 := 0) rfl rfl) [0, 2] rfl rfl hl.1 rfl (Nat.le_of_ble_eq_true rfl) dX1_advise_113 ⟨(by show _ ≤ 31; omega), (by show _ ≤ 403; omega)⟩ ?_
                refine lv_istore_n (lv' := [(2, .int (lastF (earM F T L (updB Z r false) tc rc) tc 0 0)), (3, .int (nI r)), (5, .ref u_5), (4, .int (nI r)), (0, .ref (b 0))]) hx hb dX1_advise_116 rfl hl (by decide) rfl (fun ls hl => ?_)
                have hP : va_P D vwCl ([xMod b 0 tc rc, xArr (t 0) (b 1) 120 (mkM F T L Z)]) H := hP.sub [0, 1] rfl
                have hD : va_D _ ([xMod b 0 tc rc, xArr (t 0) (b 1) 120 (mkM F T L Z)]) := hD.sub [0, 1] (by decide) rfl
                refine lv_iinc (v := nI (r + 1)) (lv' := [(4, .int (nI (r + 1))), (2, .int (lastF (earM F T L (updB Z r false) tc rc) tc 0 0)), (3, .int (nI r)), (5, .ref u_5), (0, .ref (b 0))]) hx hb dX1_advise_117 hl (k := 3) rfl (x_inc _) (by decide) rfl (fun ls hl => ?_)
                refine lv_goto (tgt := 34) hx hb dX1_advise_120 (by decide) ?_
                refine W.widen (k := 1 + (r + 1)) (n := 13 + 13 * (r + 1)) (by omega) (by omega) ?_
                exact ih_34 n349 (by omega) (r + 1) (nI r) (lastF (earM F T L (updB Z r false) tc rc) tc 0 0) (by omega) (by rw [← hfin_34]; simp [adM, c_2, c_3, c_4, c_6, c_7]) _ _ hP hD hS _ (lv_sub hl [0, 2, 1, 4] rfl)
              · refine lv_goto (tgt := 117) hx hb dX1_advise_104 (by decide) ?_
                have hP : va_P D vwCl ([xMod b 0 tc rc, xArr (t 0) (b 1) 120 (mkM F T L Z)]) H := hP.sub [0, 1] rfl
                have hD : va_D _ ([xMod b 0 tc rc, xArr (t 0) (b 1) 120 (mkM F T L Z)]) := hD.sub [0, 1] (by decide) rfl
                refine lv_iinc (v := nI (r + 1)) (lv' := [(4, .int (nI (r + 1))), (5, .ref u_5), (3, .int best), (2, .int least), (0, .ref (b 0))]) hx hb dX1_advise_117 hl (k := 1) rfl (x_inc _) (by decide) rfl (fun ls hl => ?_)
                refine lv_goto (tgt := 34) hx hb dX1_advise_120 (by decide) ?_
                refine W.widen (k := 1 + (r + 1)) (n := 13 + 13 * (r + 1)) (by omega) (by omega) ?_
                exact ih_34 n349 (by omega) (r + 1) best least (by omega) (by rw [← hfin_34]; simp [adM, c_2, c_3, c_4, c_6, c_7]) _ _ hP hD hS _ (lv_sub hl [0, 2, 3, 4] rfl)
          · have c_4 := bI_0 c_4
            refine lv_goto (tgt := 117) hx hb dX1_advise_52 (by decide) ?_
            refine lv_iinc (v := nI (r + 1)) (lv' := [(4, .int (nI (r + 1))), (3, .int best), (2, .int least), (0, .ref (b 0))]) hx hb dX1_advise_117 hl (k := 0) rfl (x_inc _) (by decide) rfl (fun ls hl => ?_)
            refine lv_goto (tgt := 34) hx hb dX1_advise_120 (by decide) ?_
            refine W.widen (k := 1 + (r + 1)) (n := 13 + 13 * (r + 1)) (by omega) (by omega) ?_
            exact ih_34 n349 (by omega) (r + 1) best least (by omega) (by rw [← hfin_34]; simp [adM, c_2, c_3, c_4]) _ _ hP hD hS _ (lv_sub hl [0, 1, 2, 3] rfl)
    refine W.widen (k := 1 + 0) (n := 13 + 13 * 0) (by omega) (by omega) ?_
    exact lp_34 rc 0 (-1) 2147483647 (by omega) rfl _ _ hP hD hS _ (lv_sub hl [0, 1, 2, 4] rfl)
  · have c_2 := of_decide_eq_true (bI_n0 c_2)
    refine lv_aload_n hx hb dX1_advise_18 rfl (lv_at hl 1 rfl) ?_
    refine lv_aload_n hx hb dX1_advise_19 rfl (lv_at hl 0 rfl) ?_
    refine xr_V (b := b 0) (As := [.ref u_1]) (rest := []) ⟨hx, hb, hml, hown, hts⟩ (c_X1_last l D t b 0 tc rc u_1 (earM F T L Z tc rc) (by omega)) (cwV 1 hts gX1_advise_X1_last rfl rfl rfl hd_X1_last ⟨Nat.le_of_ble_eq_true rfl, Nat.le_of_ble_eq_true rfl⟩) hK hP (va_recv hK hP (ci := 1) (q0 := 0) rfl rfl) [0, 2] rfl rfl hl.1 rfl (Nat.le_of_ble_eq_true rfl) dX1_advise_20 ⟨(Nat.le_of_ble_eq_true rfl), (Nat.le_of_ble_eq_true rfl)⟩ ?_
    refine lv_goto (tgt := 28) hx hb dX1_advise_23 (by decide) ?_
    refine lv_istore_n (lv' := [(2, .int (lastF (earM F T L Z tc rc) tc 0 0)), (1, .ref u_1), (0, .ref (b 0))]) hx hb dX1_advise_28 rfl hl (by decide) rfl (fun ls hl => ?_)
    have hP : va_P D vwCl ([xMod b 0 tc rc, xArr (t 0) (b 1) 120 (mkM F T L Z)]) H := hP.sub [0, 1] rfl
    have hD : va_D _ ([xMod b 0 tc rc, xArr (t 0) (b 1) 120 (mkM F T L Z)]) := hD.sub [0, 1] (by decide) rfl
    refine lv_iconst (v := (-1)) hx hb dX1_advise_29 (by decide) ?_
    refine lv_istore_n (lv' := [(3, .int (-1)), (2, .int (lastF (earM F T L Z tc rc) tc 0 0)), (1, .ref u_1), (0, .ref (b 0))]) hx hb dX1_advise_30 rfl hl (by decide) rfl (fun ls hl => ?_)
    refine lv_iconst (v := 0) hx hb dX1_advise_31 (by decide) ?_
    refine lv_istore (lv' := [(4, .int 0), (3, .int (-1)), (2, .int (lastF (earM F T L Z tc rc) tc 0 0)), (1, .ref u_1), (0, .ref (b 0))]) hx hb dX1_advise_32 hl (by decide) rfl (fun ls hl => ?_)
    have lp_34 : ∀ (n34 : Nat) (r : Nat) (best : Int32) (least : Int32), r + n34 = rc → adM F T L Z tc rc n34 r best least = adM F T L Z tc rc rc 0 (-1) (lastF (earM F T L Z tc rc) tc 0 0) → ∀ (H : Heap) (locs : List Loc), va_P D vwCl ([xMod b 0 tc rc, xArr (t 0) (b 1) 120 (mkM F T L Z)]) H → va_D A ([xMod b 0 tc rc, xArr (t 0) (b 1) 120 (mkM F T L Z)]) → va_S A s.heap H locs → ∀ ls : Array Slot, lv_has ls 6 [(4, .int (nI r)), (3, .int best), (2, .int least), (0, .ref (b 0))] → W p l e (headSpec wsX1_advise ({ frames := 3, cells := 31, slots := 403, locals := 68 } : Jvm.Room)).room s m (([.ref (b 0)] : List Value).toArray) below meth c H locs (1 + r) (13 + 13 * r) (MQ below (xQm D (fun u : Unit => True) (fun u : Unit => some (.int (advM F T L Z tc rc))) [xMod b th tc rc, xArr (t 0) (b 1) 120 (mkM F T L Z)] (fun u : Unit => [xMod b 0 tc rc, xArr (t 0) (b 1) 120 (mkM F T L Z)]) s.heap.size) (([.ref (b 0)] : List Value).toArray) s 31 403 A) (F0 m 34 ls []) := by
      intro n34
      induction n34 using Nat.strongRecOn with
      | _ n34 ih_34 =>
        intro r best least hm_34 hfin_34 H locs hP hD hS ls hl
        refine lv_iload hx hb dX1_advise_34 (lv_at hl 0 rfl) ?_
        refine lv_aload_n hx hb dX1_advise_36 rfl (lv_at hl 3 rfl) ?_
        refine x1_get (v := .int (nI rc)) hx hb hts hin hown hK hP 0 rfl 2 (by decide) fl_24 rfl dX1_advise_37 rfl ?_
        refine lv_icmp_ge (x := nI r) (y := nI rc) (tgt := 123) hx hb dX1_advise_40 (by decide) (fun c_8 => ?_) (fun c_8 => ?_)
        · have c_8 := (nI_leI (a := rc) (b := r) (by omega) (by omega)).mp c_8
          have hn0_34 : n34 = 0 := by omega
          subst hn0_34
          obtain rfl : best = adM F T L Z tc rc rc 0 (-1) (lastF (earM F T L Z tc rc) tc 0 0) := hfin_34
          refine lv_iload_n hx hb dX1_advise_123 rfl (lv_at hl 1 rfl) ?_
          subst hAe
          refine W.widen (k := 31) (n := 403) (by omega) (by omega) ?_
          obtain ⟨hq9, hf9⟩ := xm_end (S := Unit) (pu := (fun u : Unit => True)) (r := (fun u : Unit => some (.int (advM F T L Z tc rc)))) (wc := [xMod b th tc rc, xArr (t 0) (b 1) 120 (mkM F T L Z)]) (w1 := (fun u : Unit => [xMod b 0 tc rc, xArr (t 0) (b 1) 120 (mkM F T L Z)])) (o := some (.int (adM F T L Z tc rc rc 0 (-1) (lastF (earM F T L Z tc rc) tc 0 0)))) (args := ([.ref (b 0)] : List Value).toArray) () rfl trivial (by simp [advM, c_2, c_8, Nat.not_lt.mpr c_8]) hP hD hS
          exact W.iret hx hb hr hq9 hf9 dX1_advise_124 hlocks
        · have c_8 : r < rc := Nat.lt_of_not_le (fun z9 => c_8 ((nI_leI (a := rc) (b := r) (by omega) (by omega)).mpr z9))
          obtain ⟨n349, rfl⟩ : ∃ z, n34 = z + 1 := ⟨n34 - 1, by omega⟩
          refine lv_aload_n hx hb dX1_advise_43 rfl (lv_at hl 3 rfl) ?_
          refine lv_iload hx hb dX1_advise_44 (lv_at hl 0 rfl) ?_
          refine xr_V (b := b 0) (As := [.int (nI r)]) (rest := []) ⟨hx, hb, hml, hown, hts⟩ (c_X1_isTied l D t b 0 tc rc F T L Z r (by omega)) (cwV 1 hts gX1_advise_X1_isTied rfl rfl rfl hd_X1_isTied ⟨Nat.le_of_ble_eq_true rfl, Nat.le_of_ble_eq_true rfl⟩) hK hP (va_recv hK hP (ci := 1) (q0 := 0) rfl rfl) [0, 1] rfl rfl hl.1 rfl (Nat.le_of_ble_eq_true rfl) dX1_advise_46 ⟨(by show _ ≤ 31; omega), (by show _ ≤ 403; omega)⟩ ?_
          refine lv_if_ne (x := bI (Z r)) (tgt := 55) hx hb dX1_advise_49 (by decide) (fun c_9 => ?_) (fun c_9 => ?_)
          · have c_9 := bI_n0 c_9
            refine lv_aload_n hx hb dX1_advise_55 rfl (lv_at hl 3 rfl) ?_
            refine x1_get (v := .ref (b 1)) hx hb hts hin hown hK hP 0 rfl 3 (by decide) fl_9 rfl dX1_advise_56 rfl ?_
            refine lv_iconst (v := 4) hx hb dX1_advise_59 (by decide) ?_
            refine lv_iload hx hb dX1_advise_60 (lv_at hl 0 rfl) ?_
            refine lv_imul (x := 4) (y := nI r) hx hb dX1_advise_62 ?_
            refine x_top (w := nI (4 * r)) (pk_mul 4 r) ?_
            refine lv_iconst (v := 3) hx hb dX1_advise_63 (by decide) ?_
            refine lv_iadd (x := nI (4 * r)) (y := 3) hx hb dX1_advise_64 ?_
            refine x_top (w := nI (4 * r + 3)) (nI_add (4 * r) 3) ?_
            refine lv_iconst (v := 0) hx hb dX1_advise_65 (by decide) ?_
            refine x_iast (x := 0) (f := mkM F T L Z) hx hb hK hP hD hS 1 0 ([xMod b 0 tc rc, xArr (t 0) (b 1) 120 (mkM F T L (updB Z r false))]) rfl rfl (k := 4 * r + 3) (by rw [← mkM_Z F T L Z r false]; rfl) (by omega) (Nat.le_of_ble_eq_true rfl) dX1_advise_66 (fun H locs hP hD hS => ?_)
            refine lv_aload_n hx hb dX1_advise_67 rfl (lv_at hl 3 rfl) ?_
            refine xm_V (b := b 0) (As := []) (rest := []) (wr := []) ⟨hx, hb, hml, hown, hts⟩ aoT (c_X1_earliest l D t b 0 tc rc F T L (updB Z r false) _ (by omega) (by omega) hF) (cwV 0 hts gX1_advise_X1_earliest rfl rfl rfl hd_X1_earliest ⟨Nat.le_of_ble_eq_true rfl, Nat.le_of_ble_eq_true rfl⟩) hK hP hD hS hA (fun U hW _ => va_AOA.moved hW.alike hXX) (va_recv hK hP (ci := 1) (q0 := 0) rfl rfl) [0, 1] [] rfl rfl (by decide) (by decide) (by decide) rfl hl.1 rfl (Nat.le_of_ble_eq_true rfl) dX1_advise_68 ⟨(by show _ ≤ 31; omega), (by show _ ≤ 403; omega)⟩ (fun u_10 H locs hu hP hD hS hz => ?_)
            have hP : va_P D vwCl ([xMod b 0 tc rc, xArr (t 0) (b 1) 120 (mkM F T L (updB Z r false)), xArr (t 0) u_10 13 (earM F T L (updB Z r false) tc rc)]) H := hP
            have hD : va_D _ ([xMod b 0 tc rc, xArr (t 0) (b 1) 120 (mkM F T L (updB Z r false)), xArr (t 0) u_10 13 (earM F T L (updB Z r false) tc rc)]) := hD
            refine lv_astore (lv' := [(5, .ref u_10), (4, .int (nI r)), (3, .int best), (2, .int least), (0, .ref (b 0))]) hx hb dX1_advise_71 hl (by decide) rfl (fun ls hl => ?_)
            refine lv_aload_n hx hb dX1_advise_73 rfl (lv_at hl 4 rfl) ?_
            refine x1_get (v := .ref (b 1)) hx hb hts hin hown hK hP 0 rfl 3 (by decide) fl_9 rfl dX1_advise_74 rfl ?_
            refine lv_iconst (v := 4) hx hb dX1_advise_77 (by decide) ?_
            refine lv_iload hx hb dX1_advise_78 (lv_at hl 1 rfl) ?_
            refine lv_imul (x := 4) (y := nI r) hx hb dX1_advise_80 ?_
            refine x_top (w := nI (4 * r)) (pk_mul 4 r) ?_
            refine lv_iconst (v := 3) hx hb dX1_advise_81 (by decide) ?_
            refine lv_iadd (x := nI (4 * r)) (y := 3) hx hb dX1_advise_82 ?_
            refine x_top (w := nI (4 * r + 3)) (nI_add (4 * r) 3) ?_
            refine lv_iconst (v := 1) hx hb dX1_advise_83 (by decide) ?_
            refine x_iast (x := 1) (f := mkM F T L (updB Z r false)) hx hb hK hP hD hS 1 0 ([xMod b 0 tc rc, xArr (t 0) (b 1) 120 (mkM F T L (updB (updB Z r false) r true)), xArr (t 0) u_10 13 (earM F T L (updB Z r false) tc rc)]) rfl rfl (k := 4 * r + 3) (by rw [← mkM_Z F T L (updB Z r false) r true]; rfl) (by omega) (Nat.le_of_ble_eq_true rfl) dX1_advise_84 (fun H locs hP hD hS => ?_)
            rw [updB_same false c_9] at hP hD
            have hP : va_P D vwCl ([xMod b 0 tc rc, xArr (t 0) (b 1) 120 (mkM F T L Z), xArr (t 0) u_10 13 (earM F T L (updB Z r false) tc rc)]) H := hP
            have hD : va_D _ ([xMod b 0 tc rc, xArr (t 0) (b 1) 120 (mkM F T L Z), xArr (t 0) u_10 13 (earM F T L (updB Z r false) tc rc)]) := hD
            refine lv_aload_n hx hb dX1_advise_85 rfl (lv_at hl 4 rfl) ?_
            refine lv_aload hx hb dX1_advise_86 (lv_at hl 0 rfl) ?_
            refine xr_V (b := b 0) (As := [.ref u_10]) (rest := []) ⟨hx, hb, hml, hown, hts⟩ (c_X1_isFound l D t b 0 tc rc u_10 (earM F T L (updB Z r false) tc rc)) (cwV 1 hts gX1_advise_X1_isFound rfl rfl rfl hd_X1_isFound ⟨Nat.le_of_ble_eq_true rfl, Nat.le_of_ble_eq_true rfl⟩) hK hP (va_recv hK hP (ci := 1) (q0 := 0) rfl rfl) [0, 2] rfl rfl hl.1 rfl (Nat.le_of_ble_eq_true rfl) dX1_advise_88 ⟨(by show _ ≤ 31; omega), (by show _ ≤ 403; omega)⟩ ?_
            refine lv_if_eq (x := bI (decide (¬ (earM F T L (updB Z r false) tc rc) 12 = -1))) (tgt := 117) hx hb dX1_advise_91 (by decide) (fun c_11 => ?_) (fun c_11 => ?_)
            · have c_11 := Classical.not_not.mp (of_decide_eq_false (bI_0 c_11))
              have hP : va_P D vwCl ([xMod b 0 tc rc, xArr (t 0) (b 1) 120 (mkM F T L Z)]) H := hP.sub [0, 1] rfl
              have hD : va_D _ ([xMod b 0 tc rc, xArr (t 0) (b 1) 120 (mkM F T L Z)]) := hD.sub [0, 1] (by decide) rfl
              refine lv_iinc (v := nI (r + 1)) (lv' := [(4, .int (nI (r + 1))), (5, .ref u_10), (3, .int best), (2, .int least), (0, .ref (b 0))]) hx hb dX1_advise_117 hl (k := 1) rfl (x_inc _) (by decide) rfl (fun ls hl => ?_)
              refine lv_goto (tgt := 34) hx hb dX1_advise_120 (by decide) ?_
              refine W.widen (k := 1 + (r + 1)) (n := 13 + 13 * (r + 1)) (by omega) (by omega) ?_
              exact ih_34 n349 (by omega) (r + 1) best least (by omega) (by rw [← hfin_34]; simp [adM, c_2, c_8, c_9, c_11]) _ _ hP hD hS _ (lv_sub hl [0, 2, 3, 4] rfl)
            · have c_11 := of_decide_eq_true (bI_n0 c_11)
              refine lv_aload_n hx hb dX1_advise_94 rfl (lv_at hl 4 rfl) ?_
              refine lv_aload hx hb dX1_advise_95 (lv_at hl 0 rfl) ?_
              refine xr_V (b := b 0) (As := [.ref u_10]) (rest := []) ⟨hx, hb, hml, hown, hts⟩ (c_X1_last l D t b 0 tc rc u_10 (earM F T L (updB Z r false) tc rc) (by omega)) (cwV 1 hts gX1_advise_X1_last rfl rfl rfl hd_X1_last ⟨Nat.le_of_ble_eq_true rfl, Nat.le_of_ble_eq_true rfl⟩) hK hP (va_recv hK hP (ci := 1) (q0 := 0) rfl rfl) [0, 2] rfl rfl hl.1 rfl (Nat.le_of_ble_eq_true rfl) dX1_advise_97 ⟨(by show _ ≤ 31; omega), (by show _ ≤ 403; omega)⟩ ?_
              refine lv_iload_n hx hb dX1_advise_100 rfl (lv_at hl 3 rfl) ?_
              refine lv_icmp_lt (x := lastF (earM F T L (updB Z r false) tc rc) tc 0 0) (y := least) (tgt := 107) hx hb dX1_advise_101 (by decide) (fun c_12 => ?_) (fun c_12 => ?_)
              · refine lv_iload hx hb dX1_advise_107 (lv_at hl 1 rfl) ?_
                refine lv_istore_n (lv' := [(3, .int (nI r)), (5, .ref u_10), (4, .int (nI r)), (2, .int least), (0, .ref (b 0))]) hx hb dX1_advise_109 rfl hl (by decide) rfl (fun ls hl => ?_)
                refine lv_aload_n hx hb dX1_advise_110 rfl (lv_at hl 4 rfl) ?_
                refine lv_aload hx hb dX1_advise_111 (lv_at hl 1 rfl) ?_
                refine xr_V (b := b 0) (As := [.ref u_10]) (rest := []) ⟨hx, hb, hml, hown, hts⟩ (c_X1_last l D t b 0 tc rc u_10 (earM F T L (updB Z r false) tc rc) (by omega)) (cwV 1 hts gX1_advise_X1_last rfl rfl rfl hd_X1_last ⟨Nat.le_of_ble_eq_true rfl, Nat.le_of_ble_eq_true rfl⟩) hK hP (va_recv hK hP (ci := 1) (q0 := 0) rfl rfl) [0, 2] rfl rfl hl.1 rfl (Nat.le_of_ble_eq_true rfl) dX1_advise_113 ⟨(by show _ ≤ 31; omega), (by show _ ≤ 403; omega)⟩ ?_
                refine lv_istore_n (lv' := [(2, .int (lastF (earM F T L (updB Z r false) tc rc) tc 0 0)), (3, .int (nI r)), (5, .ref u_10), (4, .int (nI r)), (0, .ref (b 0))]) hx hb dX1_advise_116 rfl hl (by decide) rfl (fun ls hl => ?_)
                have hP : va_P D vwCl ([xMod b 0 tc rc, xArr (t 0) (b 1) 120 (mkM F T L Z)]) H := hP.sub [0, 1] rfl
                have hD : va_D _ ([xMod b 0 tc rc, xArr (t 0) (b 1) 120 (mkM F T L Z)]) := hD.sub [0, 1] (by decide) rfl
                refine lv_iinc (v := nI (r + 1)) (lv' := [(4, .int (nI (r + 1))), (2, .int (lastF (earM F T L (updB Z r false) tc rc) tc 0 0)), (3, .int (nI r)), (5, .ref u_10), (0, .ref (b 0))]) hx hb dX1_advise_117 hl (k := 3) rfl (x_inc _) (by decide) rfl (fun ls hl => ?_)
                refine lv_goto (tgt := 34) hx hb dX1_advise_120 (by decide) ?_
                refine W.widen (k := 1 + (r + 1)) (n := 13 + 13 * (r + 1)) (by omega) (by omega) ?_
                exact ih_34 n349 (by omega) (r + 1) (nI r) (lastF (earM F T L (updB Z r false) tc rc) tc 0 0) (by omega) (by rw [← hfin_34]; simp [adM, c_2, c_8, c_9, c_11, c_12]) _ _ hP hD hS _ (lv_sub hl [0, 2, 1, 4] rfl)
              · refine lv_goto (tgt := 117) hx hb dX1_advise_104 (by decide) ?_
                have hP : va_P D vwCl ([xMod b 0 tc rc, xArr (t 0) (b 1) 120 (mkM F T L Z)]) H := hP.sub [0, 1] rfl
                have hD : va_D _ ([xMod b 0 tc rc, xArr (t 0) (b 1) 120 (mkM F T L Z)]) := hD.sub [0, 1] (by decide) rfl
                refine lv_iinc (v := nI (r + 1)) (lv' := [(4, .int (nI (r + 1))), (5, .ref u_10), (3, .int best), (2, .int least), (0, .ref (b 0))]) hx hb dX1_advise_117 hl (k := 1) rfl (x_inc _) (by decide) rfl (fun ls hl => ?_)
                refine lv_goto (tgt := 34) hx hb dX1_advise_120 (by decide) ?_
                refine W.widen (k := 1 + (r + 1)) (n := 13 + 13 * (r + 1)) (by omega) (by omega) ?_
                exact ih_34 n349 (by omega) (r + 1) best least (by omega) (by rw [← hfin_34]; simp [adM, c_2, c_8, c_9, c_11, c_12]) _ _ hP hD hS _ (lv_sub hl [0, 2, 3, 4] rfl)
          · have c_9 := bI_0 c_9
            refine lv_goto (tgt := 117) hx hb dX1_advise_52 (by decide) ?_
            refine lv_iinc (v := nI (r + 1)) (lv' := [(4, .int (nI (r + 1))), (3, .int best), (2, .int least), (0, .ref (b 0))]) hx hb dX1_advise_117 hl (k := 0) rfl (x_inc _) (by decide) rfl (fun ls hl => ?_)
            refine lv_goto (tgt := 34) hx hb dX1_advise_120 (by decide) ?_
            refine W.widen (k := 1 + (r + 1)) (n := 13 + 13 * (r + 1)) (by omega) (by omega) ?_
            exact ih_34 n349 (by omega) (r + 1) best least (by omega) (by rw [← hfin_34]; simp [adM, c_2, c_8, c_9]) _ _ hP hD hS _ (lv_sub hl [0, 1, 2, 3] rfl)
    refine W.widen (k := 1 + 0) (n := 13 + 13 * 0) (by omega) (by omega) ?_
    exact lp_34 rc 0 (-1) (lastF (earM F T L Z tc rc) tc 0 0) (by omega) rfl _ _ hP hD hS _ (lv_sub hl [0, 1, 2, 4] rfl)
set_option maxHeartbeats 4000000 in
set_option maxRecDepth 100000 in
theorem c_X1_mean (l : Launch) (D : va_G) (t : Nat → ClassId) (b : Nat → Nat) (th : Int32) (tc rc : Nat) (F T : Nat → Nat) (L : Nat → Int32) (Z : Nat → Bool) (sz : Nat) (htc : tc ≤ 12) (hrc : rc ≤ 30) (hF : ∀ r, r < rc → F r < tc ∧ T r < tc) : MetD lw_cs l yX1_mean wsX1_mean ({ frames := 3, cells := 1, slots := 13, locals := 68 }) (xMu D (xTy t) (va_AOA .int) [.ref (b 0)] [xMod b th tc rc, xArr (t 0) (b 1) 120 (mkM F T L Z)] sz) (xQmd D (meanF (earM F T L Z tc rc 12) (earM F T L Z tc rc) tc) [xMod b th tc rc, xArr (t 0) (b 1) 120 (mkM F T L Z)] ([xMod b 0 tc rc, xArr (t 0) (b 1) 120 (mkM F T L Z)]) sz) 1 13 (va_A [xMod b th tc rc, xArr (t 0) (b 1) 120 (mkM F T L Z)] sz) := by
  refine MetD.ofW (cc := cX1_mean) (maxL := 4) (ret := (some .double)) (by decide) rfl ?_
  intro p e s m args below meth c s₁ hB9 hml hv hd0
  obtain ⟨rfl, hsz, hP, hK, hD0, hXX⟩ := hv
  have hx := hB9.exec
  have hb := hB9.bytes
  have hr := hB9.returns
  have hts := atoms_spec (ws := wsX1_mean) hB9.pre
  have hown : s.vm.findClass RX1 = some m.cls := findClass_of_methodNamed hB9.named
  have hlocks := hB9.notSynchronized
  have hts := dr_words hts s.drawn
  have hown : (s.setDrawn s.drawn).vm.findClass RX1 = some m.cls := hown
  have hK : va_K D vwCl (xTy t) (s.setDrawn s.drawn) := hK
  have hXX : (va_AOA .int) (s.setDrawn s.drawn) := aoT s (s.setDrawn s.drawn) rfl rfl hXX
  have hin : ∀ w ∈ wsX10, w ∈ wsX1_mean := fun _ h => List.mem_cons_of_mem _ (List.mem_append_right _ h)
  have fl_13 := hts (.fieldLink RX1 13 "RopeTimesModel" "thrown" "I") (by decide +kernel)
  have fl_17 := hts (.fieldLink RX1 17 "RopeTimesModel" "turns" "I") (by decide +kernel)
  subst hsz
  have hD := hD0.self (sz := s.heap.size)
  generalize hAe : va_A ([xMod b th tc rc, xArr (t 0) (b 1) 120 (mkM F T L Z)]) s.heap.size = A at hD ⊢
  have hA : ∀ q : Nat, s.heap.size ≤ q → A q := fun q h => by rw [← hAe]; exact Or.inr h
  have hS : va_S A s.heap s.heap [] := va_S.rf
  have hP : va_P D vwCl ([xMod b th tc rc, xArr (t 0) (b 1) 120 (mkM F T L Z)]) s.heap := hP
  have hD : va_D A ([xMod b th tc rc, xArr (t 0) (b 1) 120 (mkM F T L Z)]) := hD
  have hl := lv_entry ([.ref (b 0)]) (n := 4) (Nat.le_of_ble_eq_true rfl)
  rw [lg_entry_eq]
  generalize (lg_sl ([.ref (b 0)]) ++ List.replicate (4 - (lg_sl ([.ref (b 0)])).length) Slot.unset).toArray = ls at hl ⊢
  have hl : lv_has ls 4 [(0, .ref (b 0))] := hl
  refine lv_aload_n hx hb dX1_mean_0 rfl (lv_at hl 0 rfl) ?_
  refine lv_iconst (v := 0) hx hb dX1_mean_1 (by decide) ?_
  refine x1_put (x := 0) hx hb hts hin hown hK hP hD hS 0 ([xMod b 0 tc rc, xArr (t 0) (b 1) 120 (mkM F T L Z)]) rfl 0 (by decide) fl_13 rfl rfl (Nat.le_of_ble_eq_true rfl) rfl dX1_mean_2 rfl (fun H locs hP hD hS => ?_)
  refine lv_aload_n hx hb dX1_mean_5 rfl (lv_at hl 0 rfl) ?_
  refine xm_V (b := b 0) (As := []) (rest := []) (wr := []) ⟨hx, hb, hml, hown, hts⟩ aoT (c_X1_earliest l D t b 0 tc rc F T L Z _ (by omega) (by omega) hF) (cwV 0 hts gX1_mean_X1_earliest rfl rfl rfl hd_X1_earliest ⟨Nat.le_of_ble_eq_true rfl, Nat.le_of_ble_eq_true rfl⟩) hK hP hD hS hA (fun U hW _ => va_AOA.moved hW.alike hXX) (va_recv hK hP (ci := 1) (q0 := 0) rfl rfl) [0, 1] [] rfl rfl (by decide) (by decide) (by decide) rfl hl.1 rfl (Nat.le_of_ble_eq_true rfl) dX1_mean_6 ⟨(Nat.le_of_ble_eq_true rfl), (Nat.le_of_ble_eq_true rfl)⟩ (fun u_1 H locs hu hP hD hS hz => ?_)
  have hP : va_P D vwCl ([xMod b 0 tc rc, xArr (t 0) (b 1) 120 (mkM F T L Z), xArr (t 0) u_1 13 (earM F T L Z tc rc)]) H := hP
  have hD : va_D _ ([xMod b 0 tc rc, xArr (t 0) (b 1) 120 (mkM F T L Z), xArr (t 0) u_1 13 (earM F T L Z tc rc)]) := hD
  refine lv_astore_n (lv' := [(1, .ref u_1), (0, .ref (b 0))]) hx hb dX1_mean_9 rfl hl (by decide) rfl (fun ls hl => ?_)
  refine lv_iconst (v := 0) hx hb dX1_mean_10 (by decide) ?_
  refine lv_istore_n (lv' := [(2, .int 0), (1, .ref u_1), (0, .ref (b 0))]) hx hb dX1_mean_11 rfl hl (by decide) rfl (fun ls hl => ?_)
  refine lv_iconst (v := 0) hx hb dX1_mean_12 (by decide) ?_
  refine lv_istore_n (lv' := [(3, .int 0), (2, .int 0), (1, .ref u_1), (0, .ref (b 0))]) hx hb dX1_mean_13 rfl hl (by decide) rfl (fun ls hl => ?_)
  have lp_14 : ∀ (n14 : Nat) (i : Nat) (sm : Int32), i + n14 = tc → sumF (earM F T L Z tc rc) n14 i sm = sumF (earM F T L Z tc rc) tc 0 0 → ∀ (H : Heap) (locs : List Loc), va_P D vwCl ([xMod b 0 tc rc, xArr (t 0) (b 1) 120 (mkM F T L Z), xArr (t 0) u_1 13 (earM F T L Z tc rc)]) H → va_D A ([xMod b 0 tc rc, xArr (t 0) (b 1) 120 (mkM F T L Z), xArr (t 0) u_1 13 (earM F T L Z tc rc)]) → va_S A s.heap H locs → ∀ ls : Array Slot, lv_has ls 4 [(3, .int (nI i)), (2, .int sm), (1, .ref u_1), (0, .ref (b 0))] → W p l e (headSpec wsX1_mean ({ frames := 3, cells := 1, slots := 13, locals := 68 } : Jvm.Room)).room (s.setDrawn s.drawn) m (([.ref (b 0)] : List Value).toArray) below meth c H locs 1 13 (MQD lw_cs below (xQmd D (meanF (earM F T L Z tc rc 12) (earM F T L Z tc rc) tc) [xMod b th tc rc, xArr (t 0) (b 1) 120 (mkM F T L Z)] ([xMod b 0 tc rc, xArr (t 0) (b 1) 120 (mkM F T L Z)]) s.heap.size) (([.ref (b 0)] : List Value).toArray) s 1 13 A) (F0 m 14 ls []) := by
    intro n14
    induction n14 using Nat.strongRecOn with
    | _ n14 ih_14 =>
      intro i sm hm_14 hfin_14 H locs hP hD hS ls hl
      refine lv_iload_n hx hb dX1_mean_14 rfl (lv_at hl 0 rfl) ?_
      refine lv_aload_n hx hb dX1_mean_15 rfl (lv_at hl 3 rfl) ?_
      refine x1_get (v := .int (nI tc)) hx hb hts hin hown hK hP 0 rfl 1 (by decide) fl_17 rfl dX1_mean_16 rfl ?_
      refine lv_icmp_ge (x := nI i) (y := nI tc) (tgt := 34) hx hb dX1_mean_19 (by decide) (fun c_2 => ?_) (fun c_2 => ?_)
      · have c_2 := (nI_leI (a := tc) (b := i) (by omega) (by omega)).mp c_2
        have hn0_14 : n14 = 0 := by omega
        subst hn0_14
        obtain rfl : sm = sumF (earM F T L Z tc rc) tc 0 0 := hfin_14
        refine lv_aload_n hx hb dX1_mean_34 rfl (lv_at hl 3 rfl) ?_
        refine x1_get (v := .int (nI tc)) hx hb hts hin hown hK hP 0 rfl 1 (by decide) fl_17 rfl dX1_mean_35 rfl ?_
        refine lv_if_eq (x := nI tc) (tgt := 49) hx hb dX1_mean_38 (by decide) (fun c_3 => ?_) (fun c_3 => ?_)
        · have c_3 := (nI_eq (a := tc) (b := 0) (by omega) (by omega)).mp c_3
          refine lv_dconst0 hx hb dX1_mean_49 ?_
          refine lv_goto (tgt := 61) hx hb dX1_mean_50 (by decide) ?_
          subst hAe
          have hP : va_P D vwCl ([xMod b 0 tc rc, xArr (t 0) (b 1) 120 (mkM F T L Z)]) H := hP.sub [0, 1] rfl
          have hD : va_D _ ([xMod b 0 tc rc, xArr (t 0) (b 1) 120 (mkM F T L Z)]) := hD.sub [0, 1] (by decide) rfl
          have hP9 := hP
          have hD9 := hD
          refine W.endD hd0 ?_
          exact W.dret hx hb hr (fun t9 ht9 _ => ⟨FP.dconst0, (by simp [meanF, alike64, c_2, Nat.not_lt.mpr c_2, c_3]), rfl, by rw [ht9]; exact hP9, hD9, hS.F ht9⟩) hS.2.2 dX1_mean_61 hlocks
        · have c_3 : ¬ tc = 0 := fun z9 => c_3 ((nI_eq (a := tc) (b := 0) (by omega) (by omega)).mpr z9)
          refine lv_aload_n hx hb dX1_mean_41 rfl (lv_at hl 3 rfl) ?_
          refine lv_aload_n hx hb dX1_mean_42 rfl (lv_at hl 2 rfl) ?_
          refine xr_V (b := b 0) (As := [.ref u_1]) (rest := []) ⟨hx, hb, hml, hown, hts⟩ (c_X1_isFound l D t b 0 tc rc u_1 (earM F T L Z tc rc)) (cwV 1 hts gX1_mean_X1_isFound rfl rfl rfl hd_X1_isFound ⟨Nat.le_of_ble_eq_true rfl, Nat.le_of_ble_eq_true rfl⟩) hK hP (va_recv hK hP (ci := 1) (q0 := 0) rfl rfl) [0, 2] rfl rfl hl.1 rfl (Nat.le_of_ble_eq_true rfl) dX1_mean_43 ⟨(Nat.le_of_ble_eq_true rfl), (Nat.le_of_ble_eq_true rfl)⟩ ?_
          refine lv_if_ne (x := bI (decide (¬ (earM F T L Z tc rc) 12 = -1))) (tgt := 53) hx hb dX1_mean_46 (by decide) (fun c_4 => ?_) (fun c_4 => ?_)
          · have c_4 := of_decide_eq_true (bI_n0 c_4)
            refine lv_iload_n hx hb dX1_mean_53 rfl (lv_at hl 1 rfl) ?_
            refine lv_i2d hx hb dX1_mean_54 ?_
            refine lv_aload_n hx hb dX1_mean_55 rfl (lv_at hl 3 rfl) ?_
            refine x1_get (v := .int (nI tc)) hx hb hts hin hown hK hP 0 rfl 1 (by decide) fl_17 rfl dX1_mean_56 rfl ?_
            refine lv_i2d hx hb dX1_mean_59 ?_
            refine lv_ddiv_any hd0 lw_bits hx hb dX1_mean_60 (fun r9 d9 hal9 hd9 => ?_)
            subst hAe
            have hP : va_P D vwCl ([xMod b 0 tc rc, xArr (t 0) (b 1) 120 (mkM F T L Z)]) H := hP.sub [0, 1] rfl
            have hD : va_D _ ([xMod b 0 tc rc, xArr (t 0) (b 1) 120 (mkM F T L Z)]) := hD.sub [0, 1] (by decide) rfl
            have hP9 := hP
            have hD9 := hD
            refine W.endD hd9 ?_
            exact W.dret hx hb hr (fun t9 ht9 _ => ⟨r9, (by rw [meanF, if_neg (by simp [c_2, Nat.not_lt.mpr c_2, c_3, c_4])]; exact hal9), rfl, by rw [ht9]; exact hP9, hD9, hS.F ht9⟩) hS.2.2 dX1_mean_61 hlocks
          · have c_4 := Classical.not_not.mp (of_decide_eq_false (bI_0 c_4))
            refine lv_dconst0 hx hb dX1_mean_49 ?_
            refine lv_goto (tgt := 61) hx hb dX1_mean_50 (by decide) ?_
            subst hAe
            have hP : va_P D vwCl ([xMod b 0 tc rc, xArr (t 0) (b 1) 120 (mkM F T L Z)]) H := hP.sub [0, 1] rfl
            have hD : va_D _ ([xMod b 0 tc rc, xArr (t 0) (b 1) 120 (mkM F T L Z)]) := hD.sub [0, 1] (by decide) rfl
            have hP9 := hP
            have hD9 := hD
            refine W.endD hd0 ?_
            exact W.dret hx hb hr (fun t9 ht9 _ => ⟨FP.dconst0, (by simp [meanF, alike64, c_2, Nat.not_lt.mpr c_2, c_3, c_4]), rfl, by rw [ht9]; exact hP9, hD9, hS.F ht9⟩) hS.2.2 dX1_mean_61 hlocks
      · have c_2 : i < tc := Nat.lt_of_not_le (fun z9 => c_2 ((nI_leI (a := tc) (b := i) (by omega) (by omega)).mpr z9))
        obtain ⟨n149, rfl⟩ : ∃ z, n14 = z + 1 := ⟨n14 - 1, by omega⟩
        refine lv_iload_n hx hb dX1_mean_22 rfl (lv_at hl 1 rfl) ?_
        refine lv_aload_n hx hb dX1_mean_23 rfl (lv_at hl 2 rfl) ?_
        refine lv_iload_n hx hb dX1_mean_24 rfl (lv_at hl 0 rfl) ?_
        refine x_iald (f := earM F T L Z tc rc) hx hb hK hP 2 0 rfl rfl (k := i) (by omega) (Nat.le_of_ble_eq_true rfl) dX1_mean_25 ?_
        refine lv_iadd (x := sm) (y := (earM F T L Z tc rc) i) hx hb dX1_mean_26 ?_
        refine lv_istore_n (lv' := [(2, .int (sm + ((earM F T L Z tc rc) i))), (3, .int (nI i)), (1, .ref u_1), (0, .ref (b 0))]) hx hb dX1_mean_27 rfl hl (by decide) rfl (fun ls hl => ?_)
        refine lv_iinc (v := nI (i + 1)) (lv' := [(3, .int (nI (i + 1))), (2, .int (sm + ((earM F T L Z tc rc) i))), (1, .ref u_1), (0, .ref (b 0))]) hx hb dX1_mean_28 hl (k := 1) rfl (x_inc _) (by decide) rfl (fun ls hl => ?_)
        refine lv_goto (tgt := 14) hx hb dX1_mean_31 (by decide) ?_
        exact ih_14 n149 (by omega) (i + 1) (sm + ((earM F T L Z tc rc) i)) (by omega) (by rw [← hfin_14]; rfl) _ _ hP hD hS _ (lv_sub hl [0, 1, 2, 3] rfl)
  exact lp_14 tc 0 0 (by omega) rfl _ _ hP hD hS _ (lv_sub hl [0, 1, 2, 3] rfl)
set_option maxHeartbeats 4000000 in
set_option maxRecDepth 100000 in
theorem c_X1_digest (l : Launch) (D : va_G) (t : Nat → ClassId) (b : Nat → Nat) (th : Int32) (tc rc : Nat) (F T : Nat → Nat) (L : Nat → Int32) (Z : Nat → Bool) (sz : Nat) (htc : tc ≤ 12) (hrc : rc ≤ 30) (hF : ∀ r, r < rc → F r < tc ∧ T r < tc) : Met l yX1_digest wsX1_digest ({ frames := 4, cells := 170, slots := 2041, locals := 93 }) (xMu D (xTy t) (va_AOA .int) [.ref (b 0)] [xMod b th tc rc, xArr (t 0) (b 1) 120 (mkM F T L Z)] sz) (xQm D (fun u : Unit => True) (fun u : Unit => some (.long (dgMF F T L Z tc rc))) [xMod b th tc rc, xArr (t 0) (b 1) 120 (mkM F T L Z)] (fun u : Unit => [xMod b 0 tc rc, xArr (t 0) (b 1) 120 (mkM F T L Z)]) sz) 170 2041 (va_A [xMod b th tc rc, xArr (t 0) (b 1) 120 (mkM F T L Z)] sz) := by
  refine Met.ofW (cc := cX1_digest) (maxL := 7) (ret := (some .long)) (by decide) rfl ?_
  intro p e s m args below meth c s₁ hB9 hml hv
  obtain ⟨rfl, hsz, hP, hK, hD0, hXX⟩ := hv
  have hx := hB9.exec
  have hb := hB9.bytes
  have hr := hB9.returns
  have hts := atoms_spec (ws := wsX1_digest) hB9.pre
  have hown : s.vm.findClass RX1 = some m.cls := findClass_of_methodNamed hB9.named
  have hlocks := hB9.notSynchronized
  have hin : ∀ w ∈ wsX10, w ∈ wsX1_digest := fun _ h => List.mem_cons_of_mem _ (List.mem_append_right _ h)
  have fl_13 := hts (.fieldLink RX1 13 "RopeTimesModel" "thrown" "I") (by decide +kernel)
  have kl_110 := hts (.constantLong RX1 110 (1553)) (by decide +kernel)
  have kl_112 := hts (.constantLong RX1 112 (31)) (by decide +kernel)
  have fl_17 := hts (.fieldLink RX1 17 "RopeTimesModel" "turns" "I") (by decide +kernel)
  have fl_24 := hts (.fieldLink RX1 24 "RopeTimesModel" "ropes" "I") (by decide +kernel)
  subst hsz
  have hD := hD0.self (sz := s.heap.size)
  generalize hAe : va_A ([xMod b th tc rc, xArr (t 0) (b 1) 120 (mkM F T L Z)]) s.heap.size = A at hD ⊢
  have hA : ∀ q : Nat, s.heap.size ≤ q → A q := fun q h => by rw [← hAe]; exact Or.inr h
  have hS : va_S A s.heap s.heap [] := va_S.rf
  have hP : va_P D vwCl ([xMod b th tc rc, xArr (t 0) (b 1) 120 (mkM F T L Z)]) s.heap := hP
  have hD : va_D A ([xMod b th tc rc, xArr (t 0) (b 1) 120 (mkM F T L Z)]) := hD
  have hl := lv_entry ([.ref (b 0)]) (n := 7) (Nat.le_of_ble_eq_true rfl)
  rw [lg_entry_eq]
  generalize (lg_sl ([.ref (b 0)]) ++ List.replicate (7 - (lg_sl ([.ref (b 0)])).length) Slot.unset).toArray = ls at hl ⊢
  have hl : lv_has ls 7 [(0, .ref (b 0))] := hl
  refine lv_aload_n hx hb dX1_digest_0 rfl (lv_at hl 0 rfl) ?_
  refine lv_iconst (v := 0) hx hb dX1_digest_1 (by decide) ?_
  refine x1_put (x := 0) hx hb hts hin hown hK hP hD hS 0 ([xMod b 0 tc rc, xArr (t 0) (b 1) 120 (mkM F T L Z)]) rfl 0 (by decide) fl_13 rfl rfl (Nat.le_of_ble_eq_true rfl) rfl dX1_digest_2 rfl (fun H locs hP hD hS => ?_)
  refine lv_aload_n hx hb dX1_digest_5 rfl (lv_at hl 0 rfl) ?_
  refine xm_V (b := b 0) (As := []) (rest := []) (wr := []) ⟨hx, hb, hml, hown, hts⟩ aoT (c_X1_earliest l D t b 0 tc rc F T L Z _ (by omega) (by omega) hF) (cwV 0 hts gX1_digest_X1_earliest rfl rfl rfl hd_X1_earliest ⟨Nat.le_of_ble_eq_true rfl, Nat.le_of_ble_eq_true rfl⟩) hK hP hD hS hA (fun U hW _ => va_AOA.moved hW.alike hXX) (va_recv hK hP (ci := 1) (q0 := 0) rfl rfl) [0, 1] [] rfl rfl (by decide) (by decide) (by decide) rfl hl.1 rfl (Nat.le_of_ble_eq_true rfl) dX1_digest_6 ⟨(Nat.le_of_ble_eq_true rfl), (Nat.le_of_ble_eq_true rfl)⟩ (fun u_1 H locs hu hP hD hS hz => ?_)
  have hP : va_P D vwCl ([xMod b 0 tc rc, xArr (t 0) (b 1) 120 (mkM F T L Z), xArr (t 0) u_1 13 (earM F T L Z tc rc)]) H := hP
  have hD : va_D _ ([xMod b 0 tc rc, xArr (t 0) (b 1) 120 (mkM F T L Z), xArr (t 0) u_1 13 (earM F T L Z tc rc)]) := hD
  refine lv_astore_n (lv' := [(1, .ref u_1), (0, .ref (b 0))]) hx hb dX1_digest_9 rfl hl (by decide) rfl (fun ls hl => ?_)
  refine lv_ldc2 (v := 1553) hx hb hown kl_110 dX1_digest_10 ?_
  refine lv_lstore_n (lv' := [(2, .long 1553), (1, .ref u_1), (0, .ref (b 0))]) hx hb dX1_digest_13 rfl hl (by decide) rfl (fun ls hl => ?_)
  refine lv_iconst (v := 0) hx hb dX1_digest_14 (by decide) ?_
  refine lv_istore (lv' := [(4, .int 0), (2, .long 1553), (1, .ref u_1), (0, .ref (b 0))]) hx hb dX1_digest_15 hl (by decide) rfl (fun ls hl => ?_)
  have lp_17 : ∀ (n17 : Nat) (w : Nat) (d : Int64), w + n17 = 7 → dgS (cntM (earM F T L Z tc rc) F T L Z tc rc) n17 w d = dgS (cntM (earM F T L Z tc rc) F T L Z tc rc) 7 0 1553 → ∀ (H : Heap) (locs : List Loc), va_P D vwCl ([xMod b 0 tc rc, xArr (t 0) (b 1) 120 (mkM F T L Z), xArr (t 0) u_1 13 (earM F T L Z tc rc)]) H → va_D A ([xMod b 0 tc rc, xArr (t 0) (b 1) 120 (mkM F T L Z), xArr (t 0) u_1 13 (earM F T L Z tc rc)]) → va_S A s.heap H locs → ∀ ls : Array Slot, lv_has ls 7 [(4, .int (nI w)), (2, .long d), (1, .ref u_1), (0, .ref (b 0))] → W p l e (headSpec wsX1_digest ({ frames := 4, cells := 170, slots := 2041, locals := 93 } : Jvm.Room)).room s m (([.ref (b 0)] : List Value).toArray) below meth c H locs (1 + 156 * (w / 7)) (13 + 1872 * (w / 7)) (MQ below (xQm D (fun u : Unit => True) (fun u : Unit => some (.long (dgMF F T L Z tc rc))) [xMod b th tc rc, xArr (t 0) (b 1) 120 (mkM F T L Z)] (fun u : Unit => [xMod b 0 tc rc, xArr (t 0) (b 1) 120 (mkM F T L Z)]) s.heap.size) (([.ref (b 0)] : List Value).toArray) s 170 2041 A) (F0 m 17 ls []) := by
    intro n17
    induction n17 using Nat.strongRecOn with
    | _ n17 ih_17 =>
      intro w d hm_17 hfin_17 H locs hP hD hS ls hl
      refine lv_iload hx hb dX1_digest_17 (lv_at hl 0 rfl) ?_
      refine lv_bipush (v := 7) hx hb dX1_digest_19 (by decide) ?_
      refine lv_icmp_ge (x := nI w) (y := 7) (tgt := 45) hx hb dX1_digest_21 (by decide) (fun c_2 => ?_) (fun c_2 => ?_)
      · have c_2 := (nI_leI (a := 7) (b := w) (by omega) (by omega)).mp c_2
        have hn0_17 : n17 = 0 := by omega
        subst hn0_17
        obtain rfl : d = dgS (cntM (earM F T L Z tc rc) F T L Z tc rc) 7 0 1553 := hfin_17
        refine W.widen (k := 157) (n := 1885) (by omega) (by omega) ?_
        refine lv_iconst (v := 0) hx hb dX1_digest_45 (by decide) ?_
        refine lv_istore (lv' := [(4, .int 0), (2, .long (dgS (cntM (earM F T L Z tc rc) F T L Z tc rc) 7 0 1553)), (1, .ref u_1), (0, .ref (b 0))]) hx hb dX1_digest_46 hl (by decide) rfl (fun ls hl => ?_)
        have lp_48 : ∀ (n48 : Nat) (v : Nat) (d : Int64), v + n48 = tc → dgD (aboutF (earM F T L Z tc rc 12) (earM F T L Z tc rc) F T Z rc) 3 n48 v d = dgD (aboutF (earM F T L Z tc rc 12) (earM F T L Z tc rc) F T Z rc) 3 tc 0 (dgS (cntM (earM F T L Z tc rc) F T L Z tc rc) 7 0 1553) → ∀ (H : Heap) (locs : List Loc), va_P D vwCl ([xMod b 0 tc rc, xArr (t 0) (b 1) 120 (mkM F T L Z), xArr (t 0) u_1 13 (earM F T L Z tc rc)]) H → va_D A ([xMod b 0 tc rc, xArr (t 0) (b 1) 120 (mkM F T L Z), xArr (t 0) u_1 13 (earM F T L Z tc rc)]) → va_S A s.heap H locs → ∀ ls : Array Slot, lv_has ls 7 [(4, .int (nI v)), (2, .long d), (1, .ref u_1), (0, .ref (b 0))] → W p l e (headSpec wsX1_digest ({ frames := 4, cells := 170, slots := 2041, locals := 93 } : Jvm.Room)).room s m (([.ref (b 0)] : List Value).toArray) below meth c H locs 157 1885 (MQ below (xQm D (fun u : Unit => True) (fun u : Unit => some (.long (dgMF F T L Z tc rc))) [xMod b th tc rc, xArr (t 0) (b 1) 120 (mkM F T L Z)] (fun u : Unit => [xMod b 0 tc rc, xArr (t 0) (b 1) 120 (mkM F T L Z)]) s.heap.size) (([.ref (b 0)] : List Value).toArray) s 170 2041 A) (F0 m 48 ls []) := by
          intro n48
          induction n48 using Nat.strongRecOn with
          | _ n48 ih_48 =>
            intro v d hm_48 hfin_48 H locs hP hD hS ls hl
            refine lv_iload hx hb dX1_digest_48 (lv_at hl 0 rfl) ?_
            refine lv_aload_n hx hb dX1_digest_50 rfl (lv_at hl 3 rfl) ?_
            refine x1_get (v := .int (nI tc)) hx hb hts hin hown hK hP 0 rfl 1 (by decide) fl_17 rfl dX1_digest_51 rfl ?_
            refine lv_icmp_ge (x := nI v) (y := nI tc) (tgt := 95) hx hb dX1_digest_54 (by decide) (fun c_3 => ?_) (fun c_3 => ?_)
            · have c_3 := (nI_leI (a := tc) (b := v) (by omega) (by omega)).mp c_3
              have hn0_48 : n48 = 0 := by omega
              subst hn0_48
              obtain rfl : d = dgD (aboutF (earM F T L Z tc rc 12) (earM F T L Z tc rc) F T Z rc) 3 tc 0 (dgS (cntM (earM F T L Z tc rc) F T L Z tc rc) 7 0 1553) := hfin_48
              refine lv_iconst (v := 0) hx hb dX1_digest_95 (by decide) ?_
              refine lv_istore (lv' := [(4, .int 0), (2, .long (dgD (aboutF (earM F T L Z tc rc 12) (earM F T L Z tc rc) F T Z rc) 3 tc 0 (dgS (cntM (earM F T L Z tc rc) F T L Z tc rc) 7 0 1553))), (1, .ref u_1), (0, .ref (b 0))]) hx hb dX1_digest_96 hl (by decide) rfl (fun ls hl => ?_)
              have lp_98 : ∀ (n98 : Nat) (r : Nat) (d : Int64), r + n98 = rc → dgD (toldF (earM F T L Z tc rc 12) (earM F T L Z tc rc) F T L Z) 5 n98 r d = dgD (toldF (earM F T L Z tc rc 12) (earM F T L Z tc rc) F T L Z) 5 rc 0 (dgD (aboutF (earM F T L Z tc rc 12) (earM F T L Z tc rc) F T Z rc) 3 tc 0 (dgS (cntM (earM F T L Z tc rc) F T L Z tc rc) 7 0 1553)) → ∀ (H : Heap) (locs : List Loc), va_P D vwCl ([xMod b 0 tc rc, xArr (t 0) (b 1) 120 (mkM F T L Z), xArr (t 0) u_1 13 (earM F T L Z tc rc)]) H → va_D A ([xMod b 0 tc rc, xArr (t 0) (b 1) 120 (mkM F T L Z), xArr (t 0) u_1 13 (earM F T L Z tc rc)]) → va_S A s.heap H locs → ∀ ls : Array Slot, lv_has ls 7 [(4, .int (nI r)), (2, .long d), (1, .ref u_1), (0, .ref (b 0))] → W p l e (headSpec wsX1_digest ({ frames := 4, cells := 170, slots := 2041, locals := 93 } : Jvm.Room)).room s m (([.ref (b 0)] : List Value).toArray) below meth c H locs 157 1885 (MQ below (xQm D (fun u : Unit => True) (fun u : Unit => some (.long (dgMF F T L Z tc rc))) [xMod b th tc rc, xArr (t 0) (b 1) 120 (mkM F T L Z)] (fun u : Unit => [xMod b 0 tc rc, xArr (t 0) (b 1) 120 (mkM F T L Z)]) s.heap.size) (([.ref (b 0)] : List Value).toArray) s 170 2041 A) (F0 m 98 ls []) := by
                intro n98
                induction n98 using Nat.strongRecOn with
                | _ n98 ih_98 =>
                  intro r d hm_98 hfin_98 H locs hP hD hS ls hl
                  refine lv_iload hx hb dX1_digest_98 (lv_at hl 0 rfl) ?_
                  refine lv_aload_n hx hb dX1_digest_100 rfl (lv_at hl 3 rfl) ?_
                  refine x1_get (v := .int (nI rc)) hx hb hts hin hown hK hP 0 rfl 2 (by decide) fl_24 rfl dX1_digest_101 rfl ?_
                  refine lv_icmp_ge (x := nI r) (y := nI rc) (tgt := 145) hx hb dX1_digest_104 (by decide) (fun c_4 => ?_) (fun c_4 => ?_)
                  · have c_4 := (nI_leI (a := rc) (b := r) (by omega) (by omega)).mp c_4
                    have hn0_98 : n98 = 0 := by omega
                    subst hn0_98
                    obtain rfl : d = dgD (toldF (earM F T L Z tc rc 12) (earM F T L Z tc rc) F T L Z) 5 rc 0 (dgD (aboutF (earM F T L Z tc rc 12) (earM F T L Z tc rc) F T Z rc) 3 tc 0 (dgS (cntM (earM F T L Z tc rc) F T L Z tc rc) 7 0 1553)) := hfin_98
                    refine lv_aload_n hx hb dX1_digest_145 rfl (lv_at hl 3 rfl) ?_
                    refine lv_aload_n hx hb dX1_digest_146 rfl (lv_at hl 2 rfl) ?_
                    refine xr_V (b := b 0) (As := [.ref u_1]) (rest := []) ⟨hx, hb, hml, hown, hts⟩ (c_X1_isFound l D t b 0 tc rc u_1 (earM F T L Z tc rc)) (cwV 1 hts gX1_digest_X1_isFound rfl rfl rfl hd_X1_isFound ⟨Nat.le_of_ble_eq_true rfl, Nat.le_of_ble_eq_true rfl⟩) hK hP (va_recv hK hP (ci := 1) (q0 := 0) rfl rfl) [0, 2] rfl rfl hl.1 rfl (Nat.le_of_ble_eq_true rfl) dX1_digest_147 ⟨(Nat.le_of_ble_eq_true rfl), (Nat.le_of_ble_eq_true rfl)⟩ ?_
                    refine lv_if_ne (x := bI (decide (¬ (earM F T L Z tc rc) 12 = -1))) (tgt := 155) hx hb dX1_digest_150 (by decide) (fun c_5 => ?_) (fun c_5 => ?_)
                    · have c_5 := of_decide_eq_true (bI_n0 c_5)
                      have hP : va_P D vwCl ([xMod b 0 tc rc, xArr (t 0) (b 1) 120 (mkM F T L Z)]) H := hP.sub [0, 1] rfl
                      have hD : va_D _ ([xMod b 0 tc rc, xArr (t 0) (b 1) 120 (mkM F T L Z)]) := hD.sub [0, 1] (by decide) rfl
                      refine lv_aload_n hx hb dX1_digest_155 rfl (lv_at hl 3 rfl) ?_
                      refine xm_V (b := b 0) (As := []) (rest := []) (wr := []) ⟨hx, hb, hml, hown, hts⟩ aoT (c_X1_ways l D t b 0 tc rc F T L Z _ (by omega) (by omega) hF) (cwV 0 hts gX1_digest_X1_ways rfl rfl rfl hd_X1_ways ⟨Nat.le_of_ble_eq_true rfl, Nat.le_of_ble_eq_true rfl⟩) hK hP hD hS hA (fun U hW _ => va_AOA.moved hW.alike hXX) (va_recv hK hP (ci := 1) (q0 := 0) rfl rfl) [0, 1] [] rfl rfl (by decide) (by decide) (by decide) rfl hl.1 rfl (Nat.le_of_ble_eq_true rfl) dX1_digest_156 ⟨(Nat.le_of_ble_eq_true rfl), (Nat.le_of_ble_eq_true rfl)⟩ (fun u_6 H locs hu hP hD hS hz => ?_)
                      have hP : va_P D vwCl ([xMod b 0 tc rc, xArr (t 0) (b 1) 120 (mkM F T L Z), xGo (t 3) u_6.1 u_6.2] ++ xGr (t 0) u_6.2 (wayM F T L Z tc rc)) H := hP
                      have hD : va_D _ ([xMod b 0 tc rc, xArr (t 0) (b 1) 120 (mkM F T L Z), xGo (t 3) u_6.1 u_6.2] ++ xGr (t 0) u_6.2 (wayM F T L Z tc rc)) := hD
                      refine lv_astore (lv' := [(4, .ref u_6.1), (2, .long (dgD (toldF (earM F T L Z tc rc 12) (earM F T L Z tc rc) F T L Z) 5 rc 0 (dgD (aboutF (earM F T L Z tc rc 12) (earM F T L Z tc rc) F T Z rc) 3 tc 0 (dgS (cntM (earM F T L Z tc rc) F T L Z tc rc) 7 0 1553)))), (1, .ref u_1), (0, .ref (b 0))]) hx hb dX1_digest_159 hl (by decide) rfl (fun ls hl => ?_)
                      refine lv_iconst (v := 0) hx hb dX1_digest_161 (by decide) ?_
                      refine lv_istore (lv' := [(5, .int 0), (4, .ref u_6.1), (2, .long (dgD (toldF (earM F T L Z tc rc 12) (earM F T L Z tc rc) F T L Z) 5 rc 0 (dgD (aboutF (earM F T L Z tc rc 12) (earM F T L Z tc rc) F T Z rc) 3 tc 0 (dgS (cntM (earM F T L Z tc rc) F T L Z tc rc) 7 0 1553)))), (1, .ref u_1), (0, .ref (b 0))]) hx hb dX1_digest_162 hl (by decide) rfl (fun ls hl => ?_)
                      have lp_164 : ∀ (n164 : Nat) (i : Nat) (d : Int64), i + n164 = tc → dgD (fun a b => wayM F T L Z tc rc a b) tc n164 i d = dgD (fun a b => wayM F T L Z tc rc a b) tc tc 0 (dgD (toldF (earM F T L Z tc rc 12) (earM F T L Z tc rc) F T L Z) 5 rc 0 (dgD (aboutF (earM F T L Z tc rc 12) (earM F T L Z tc rc) F T Z rc) 3 tc 0 (dgS (cntM (earM F T L Z tc rc) F T L Z tc rc) 7 0 1553))) → ∀ (H : Heap) (locs : List Loc), va_P D vwCl ([xMod b 0 tc rc, xArr (t 0) (b 1) 120 (mkM F T L Z), xGo (t 3) u_6.1 u_6.2] ++ xGr (t 0) u_6.2 (wayM F T L Z tc rc)) H → va_D A ([xMod b 0 tc rc, xArr (t 0) (b 1) 120 (mkM F T L Z), xGo (t 3) u_6.1 u_6.2] ++ xGr (t 0) u_6.2 (wayM F T L Z tc rc)) → va_S A s.heap H locs → ∀ ls : Array Slot, lv_has ls 7 [(5, .int (nI i)), (4, .ref u_6.1), (2, .long d), (0, .ref (b 0))] → W p l e (headSpec wsX1_digest ({ frames := 4, cells := 170, slots := 2041, locals := 93 } : Jvm.Room)).room s m (([.ref (b 0)] : List Value).toArray) below meth c H locs 170 2041 (MQ below (xQm D (fun u : Unit => True) (fun u : Unit => some (.long (dgMF F T L Z tc rc))) [xMod b th tc rc, xArr (t 0) (b 1) 120 (mkM F T L Z)] (fun u : Unit => [xMod b 0 tc rc, xArr (t 0) (b 1) 120 (mkM F T L Z)]) s.heap.size) (([.ref (b 0)] : List Value).toArray) s 170 2041 A) (F0 m 164 ls []) := by
                        intro n164
                        induction n164 using Nat.strongRecOn with
                        | _ n164 ih_164 =>
                          intro i d hm_164 hfin_164 H locs hP hD hS ls hl
                          refine lv_iload hx hb dX1_digest_164 (lv_at hl 0 rfl) ?_
                          refine lv_aload_n hx hb dX1_digest_166 rfl (lv_at hl 3 rfl) ?_
                          refine x1_get (v := .int (nI tc)) hx hb hts hin hown hK hP 0 rfl 1 (by decide) fl_17 rfl dX1_digest_167 rfl ?_
                          refine lv_icmp_ge (x := nI i) (y := nI tc) (tgt := 213) hx hb dX1_digest_170 (by decide) (fun c_7 => ?_) (fun c_7 => ?_)
                          · have c_7 := (nI_leI (a := tc) (b := i) (by omega) (by omega)).mp c_7
                            have hn0_164 : n164 = 0 := by omega
                            subst hn0_164
                            obtain rfl : d = dgD (fun a b => wayM F T L Z tc rc a b) tc tc 0 (dgD (toldF (earM F T L Z tc rc 12) (earM F T L Z tc rc) F T L Z) 5 rc 0 (dgD (aboutF (earM F T L Z tc rc 12) (earM F T L Z tc rc) F T Z rc) 3 tc 0 (dgS (cntM (earM F T L Z tc rc) F T L Z tc rc) 7 0 1553))) := hfin_164
                            refine lv_lload_n hx hb dX1_digest_213 rfl (lv_at hl 2 rfl) ?_
                            have hP : va_P D vwCl ([xMod b 0 tc rc, xArr (t 0) (b 1) 120 (mkM F T L Z)]) H := hP.sub [0, 1] rfl
                            have hD : va_D _ ([xMod b 0 tc rc, xArr (t 0) (b 1) 120 (mkM F T L Z)]) := hD.sub [0, 1] (by decide) rfl
                            subst hAe
                            obtain ⟨hq9, hf9⟩ := xm_end (S := Unit) (pu := (fun u : Unit => True)) (r := (fun u : Unit => some (.long (dgMF F T L Z tc rc)))) (wc := [xMod b th tc rc, xArr (t 0) (b 1) 120 (mkM F T L Z)]) (w1 := (fun u : Unit => [xMod b 0 tc rc, xArr (t 0) (b 1) 120 (mkM F T L Z)])) (o := some (.long (dgD (fun a b => wayM F T L Z tc rc a b) tc tc 0 (dgD (toldF (earM F T L Z tc rc 12) (earM F T L Z tc rc) F T L Z) 5 rc 0 (dgD (aboutF (earM F T L Z tc rc 12) (earM F T L Z tc rc) F T Z rc) 3 tc 0 (dgS (cntM (earM F T L Z tc rc) F T L Z tc rc) 7 0 1553)))))) (args := ([.ref (b 0)] : List Value).toArray) () rfl trivial (by simp [dgMF, dgM, c_2, Nat.not_lt.mpr c_2, c_3, Nat.not_lt.mpr c_3, c_4, Nat.not_lt.mpr c_4, c_5, c_7, Nat.not_lt.mpr c_7]) hP hD hS
                            exact W.lret hx hb hr hq9 hf9 dX1_digest_214 hlocks
                          · have c_7 : i < tc := Nat.lt_of_not_le (fun z9 => c_7 ((nI_leI (a := tc) (b := i) (by omega) (by omega)).mpr z9))
                            obtain ⟨n1649, rfl⟩ : ∃ z, n164 = z + 1 := ⟨n164 - 1, by omega⟩
                            refine lv_iconst (v := 0) hx hb dX1_digest_173 (by decide) ?_
                            refine lv_istore (lv' := [(6, .int 0), (5, .int (nI i)), (4, .ref u_6.1), (2, .long d), (0, .ref (b 0))]) hx hb dX1_digest_174 hl (by decide) rfl (fun ls hl => ?_)
                            have lp_176 : ∀ (n176 : Nat) (j : Nat) (d2 : Int64), j + n176 = tc → dgS (fun b => wayM F T L Z tc rc i b) n176 j d2 = dgS (fun b => wayM F T L Z tc rc i b) tc 0 d → ∀ (H : Heap) (locs : List Loc), va_P D vwCl ([xMod b 0 tc rc, xArr (t 0) (b 1) 120 (mkM F T L Z), xGo (t 3) u_6.1 u_6.2] ++ xGr (t 0) u_6.2 (wayM F T L Z tc rc)) H → va_D A ([xMod b 0 tc rc, xArr (t 0) (b 1) 120 (mkM F T L Z), xGo (t 3) u_6.1 u_6.2] ++ xGr (t 0) u_6.2 (wayM F T L Z tc rc)) → va_S A s.heap H locs → ∀ ls : Array Slot, lv_has ls 7 [(6, .int (nI j)), (5, .int (nI i)), (4, .ref u_6.1), (2, .long d2), (0, .ref (b 0))] → W p l e (headSpec wsX1_digest ({ frames := 4, cells := 170, slots := 2041, locals := 93 } : Jvm.Room)).room s m (([.ref (b 0)] : List Value).toArray) below meth c H locs 170 2041 (MQ below (xQm D (fun u : Unit => True) (fun u : Unit => some (.long (dgMF F T L Z tc rc))) [xMod b th tc rc, xArr (t 0) (b 1) 120 (mkM F T L Z)] (fun u : Unit => [xMod b 0 tc rc, xArr (t 0) (b 1) 120 (mkM F T L Z)]) s.heap.size) (([.ref (b 0)] : List Value).toArray) s 170 2041 A) (F0 m 176 ls []) := by
                              intro n176
                              induction n176 using Nat.strongRecOn with
                              | _ n176 ih_176 =>
                                intro j d2 hm_176 hfin_176 H locs hP hD hS ls hl
                                refine lv_iload hx hb dX1_digest_176 (lv_at hl 0 rfl) ?_
                                refine lv_aload_n hx hb dX1_digest_178 rfl (lv_at hl 4 rfl) ?_
                                refine x1_get (v := .int (nI tc)) hx hb hts hin hown hK hP 0 rfl 1 (by decide) fl_17 rfl dX1_digest_179 rfl ?_
                                refine lv_icmp_ge (x := nI j) (y := nI tc) (tgt := 207) hx hb dX1_digest_182 (by decide) (fun c_8 => ?_) (fun c_8 => ?_)
                                · have c_8 := (nI_leI (a := tc) (b := j) (by omega) (by omega)).mp c_8
                                  have hn0_176 : n176 = 0 := by omega
                                  subst hn0_176
                                  obtain rfl : d2 = dgS (fun b => wayM F T L Z tc rc i b) tc 0 d := hfin_176
                                  refine lv_iinc (v := nI (i + 1)) (lv' := [(5, .int (nI (i + 1))), (6, .int (nI j)), (4, .ref u_6.1), (2, .long (dgS (fun b => wayM F T L Z tc rc i b) tc 0 d)), (0, .ref (b 0))]) hx hb dX1_digest_207 hl (k := 1) rfl (x_inc _) (by decide) rfl (fun ls hl => ?_)
                                  refine lv_goto (tgt := 164) hx hb dX1_digest_210 (by decide) ?_
                                  exact ih_164 n1649 (by omega) (i + 1) (dgS (fun b => wayM F T L Z tc rc i b) tc 0 d) (by omega) (by rw [← hfin_164]; rfl) _ _ hP hD hS _ (lv_sub hl [0, 2, 3, 4] rfl)
                                · have c_8 : j < tc := Nat.lt_of_not_le (fun z9 => c_8 ((nI_leI (a := tc) (b := j) (by omega) (by omega)).mpr z9))
                                  obtain ⟨n1769, rfl⟩ : ∃ z, n176 = z + 1 := ⟨n176 - 1, by omega⟩
                                  refine lv_lload_n hx hb dX1_digest_185 rfl (lv_at hl 3 rfl) ?_
                                  refine lv_ldc2 (v := 31) hx hb hown kl_112 dX1_digest_186 ?_
                                  refine lv_lmul hx hb dX1_digest_189 ?_
                                  refine lv_aload hx hb dX1_digest_190 (lv_at hl 2 rfl) ?_
                                  refine lv_iload hx hb dX1_digest_192 (lv_at hl 1 rfl) ?_
                                  refine x_aald (v := u_6.2 i) hx hb hK hP 2 3 rfl rfl (k := i) (by omega) (Nat.le_of_ble_eq_true rfl) (if_pos (by omega)) dX1_digest_194 ?_
                                  refine lv_iload hx hb dX1_digest_195 (lv_at hl 0 rfl) ?_
                                  refine x_gld (M := wayM F T L Z tc rc) (i := i) (j := j) hx hb hK hP 0 rfl (by omega) (by omega) dX1_digest_197 ?_
                                  refine lv_i2l (x := (wayM F T L Z tc rc) i j) (v := Int32.toInt64 ((wayM F T L Z tc rc) i j)) hx hb dX1_digest_198 rfl ?_
                                  refine lv_ladd hx hb dX1_digest_199 ?_
                                  refine lv_lstore_n (lv' := [(2, .long ((d2 * 31) + (Int32.toInt64 ((wayM F T L Z tc rc) i j)))), (6, .int (nI j)), (5, .int (nI i)), (4, .ref u_6.1), (0, .ref (b 0))]) hx hb dX1_digest_200 rfl hl (by decide) rfl (fun ls hl => ?_)
                                  refine lv_iinc (v := nI (j + 1)) (lv' := [(6, .int (nI (j + 1))), (2, .long ((d2 * 31) + (Int32.toInt64 ((wayM F T L Z tc rc) i j)))), (5, .int (nI i)), (4, .ref u_6.1), (0, .ref (b 0))]) hx hb dX1_digest_201 hl (k := 1) rfl (x_inc _) (by decide) rfl (fun ls hl => ?_)
                                  refine lv_goto (tgt := 176) hx hb dX1_digest_204 (by decide) ?_
                                  exact ih_176 n1769 (by omega) (j + 1) ((d2 * 31) + (Int32.toInt64 ((wayM F T L Z tc rc) i j))) (by omega) (by rw [← hfin_176]; rfl) _ _ hP hD hS _ (lv_sub hl [0, 2, 3, 1, 4] rfl)
                            exact lp_176 tc 0 d (by omega) rfl _ _ hP hD hS _ (lv_sub hl [0, 1, 2, 3, 4] rfl)
                      exact lp_164 tc 0 (dgD (toldF (earM F T L Z tc rc 12) (earM F T L Z tc rc) F T L Z) 5 rc 0 (dgD (aboutF (earM F T L Z tc rc 12) (earM F T L Z tc rc) F T Z rc) 3 tc 0 (dgS (cntM (earM F T L Z tc rc) F T L Z tc rc) 7 0 1553))) (by omega) rfl _ _ hP hD hS _ (lv_sub hl [0, 1, 2, 4] rfl)
                    · have c_5 := Classical.not_not.mp (of_decide_eq_false (bI_0 c_5))
                      refine lv_lload_n hx hb dX1_digest_153 rfl (lv_at hl 1 rfl) ?_
                      have hP : va_P D vwCl ([xMod b 0 tc rc, xArr (t 0) (b 1) 120 (mkM F T L Z)]) H := hP.sub [0, 1] rfl
                      have hD : va_D _ ([xMod b 0 tc rc, xArr (t 0) (b 1) 120 (mkM F T L Z)]) := hD.sub [0, 1] (by decide) rfl
                      subst hAe
                      refine W.widen (k := 170) (n := 2041) (Nat.le_of_ble_eq_true rfl) (Nat.le_of_ble_eq_true rfl) ?_
                      obtain ⟨hq9, hf9⟩ := xm_end (S := Unit) (pu := (fun u : Unit => True)) (r := (fun u : Unit => some (.long (dgMF F T L Z tc rc)))) (wc := [xMod b th tc rc, xArr (t 0) (b 1) 120 (mkM F T L Z)]) (w1 := (fun u : Unit => [xMod b 0 tc rc, xArr (t 0) (b 1) 120 (mkM F T L Z)])) (o := some (.long (dgD (toldF (earM F T L Z tc rc 12) (earM F T L Z tc rc) F T L Z) 5 rc 0 (dgD (aboutF (earM F T L Z tc rc 12) (earM F T L Z tc rc) F T Z rc) 3 tc 0 (dgS (cntM (earM F T L Z tc rc) F T L Z tc rc) 7 0 1553))))) (args := ([.ref (b 0)] : List Value).toArray) () rfl trivial (by simp [dgMF, dgM, c_2, Nat.not_lt.mpr c_2, c_3, Nat.not_lt.mpr c_3, c_4, Nat.not_lt.mpr c_4, c_5]) hP hD hS
                      exact W.lret hx hb hr hq9 hf9 dX1_digest_154 hlocks
                  · have c_4 : r < rc := Nat.lt_of_not_le (fun z9 => c_4 ((nI_leI (a := rc) (b := r) (by omega) (by omega)).mpr z9))
                    obtain ⟨n989, rfl⟩ : ∃ z, n98 = z + 1 := ⟨n98 - 1, by omega⟩
                    refine lv_iconst (v := 0) hx hb dX1_digest_107 (by decide) ?_
                    refine lv_istore (lv' := [(5, .int 0), (4, .int (nI r)), (2, .long d), (1, .ref u_1), (0, .ref (b 0))]) hx hb dX1_digest_108 hl (by decide) rfl (fun ls hl => ?_)
                    have lp_110 : ∀ (n110 : Nat) (w : Nat) (d2 : Int64), w + n110 = 5 → dgS (toldF (earM F T L Z tc rc 12) (earM F T L Z tc rc) F T L Z r) n110 w d2 = dgS (toldF (earM F T L Z tc rc 12) (earM F T L Z tc rc) F T L Z r) 5 0 d → ∀ (H : Heap) (locs : List Loc), va_P D vwCl ([xMod b 0 tc rc, xArr (t 0) (b 1) 120 (mkM F T L Z), xArr (t 0) u_1 13 (earM F T L Z tc rc)]) H → va_D A ([xMod b 0 tc rc, xArr (t 0) (b 1) 120 (mkM F T L Z), xArr (t 0) u_1 13 (earM F T L Z tc rc)]) → va_S A s.heap H locs → ∀ ls : Array Slot, lv_has ls 7 [(5, .int (nI w)), (4, .int (nI r)), (2, .long d2), (1, .ref u_1), (0, .ref (b 0))] → W p l e (headSpec wsX1_digest ({ frames := 4, cells := 170, slots := 2041, locals := 93 } : Jvm.Room)).room s m (([.ref (b 0)] : List Value).toArray) below meth c H locs 157 1885 (MQ below (xQm D (fun u : Unit => True) (fun u : Unit => some (.long (dgMF F T L Z tc rc))) [xMod b th tc rc, xArr (t 0) (b 1) 120 (mkM F T L Z)] (fun u : Unit => [xMod b 0 tc rc, xArr (t 0) (b 1) 120 (mkM F T L Z)]) s.heap.size) (([.ref (b 0)] : List Value).toArray) s 170 2041 A) (F0 m 110 ls []) := by
                      intro n110
                      induction n110 using Nat.strongRecOn with
                      | _ n110 ih_110 =>
                        intro w d2 hm_110 hfin_110 H locs hP hD hS ls hl
                        refine lv_iload hx hb dX1_digest_110 (lv_at hl 0 rfl) ?_
                        refine lv_iconst (v := 5) hx hb dX1_digest_112 (by decide) ?_
                        refine lv_icmp_ge (x := nI w) (y := 5) (tgt := 139) hx hb dX1_digest_113 (by decide) (fun c_9 => ?_) (fun c_9 => ?_)
                        · have c_9 := (nI_leI (a := 5) (b := w) (by omega) (by omega)).mp c_9
                          have hn0_110 : n110 = 0 := by omega
                          subst hn0_110
                          obtain rfl : d2 = dgS (toldF (earM F T L Z tc rc 12) (earM F T L Z tc rc) F T L Z r) 5 0 d := hfin_110
                          refine lv_iinc (v := nI (r + 1)) (lv' := [(4, .int (nI (r + 1))), (5, .int (nI w)), (2, .long (dgS (toldF (earM F T L Z tc rc 12) (earM F T L Z tc rc) F T L Z r) 5 0 d)), (1, .ref u_1), (0, .ref (b 0))]) hx hb dX1_digest_139 hl (k := 1) rfl (x_inc _) (by decide) rfl (fun ls hl => ?_)
                          refine lv_goto (tgt := 98) hx hb dX1_digest_142 (by decide) ?_
                          exact ih_98 n989 (by omega) (r + 1) (dgS (toldF (earM F T L Z tc rc 12) (earM F T L Z tc rc) F T L Z r) 5 0 d) (by omega) (by rw [← hfin_98]; rfl) _ _ hP hD hS _ (lv_sub hl [0, 2, 3, 4] rfl)
                        · have c_9 : w < 5 := Nat.lt_of_not_le (fun z9 => c_9 ((nI_leI (a := 5) (b := w) (by omega) (by omega)).mpr z9))
                          obtain ⟨n1109, rfl⟩ : ∃ z, n110 = z + 1 := ⟨n110 - 1, by omega⟩
                          refine lv_lload_n hx hb dX1_digest_116 rfl (lv_at hl 2 rfl) ?_
                          refine lv_ldc2 (v := 31) hx hb hown kl_112 dX1_digest_117 ?_
                          refine lv_lmul hx hb dX1_digest_120 ?_
                          refine lv_aload_n hx hb dX1_digest_121 rfl (lv_at hl 4 rfl) ?_
                          refine lv_iload hx hb dX1_digest_122 (lv_at hl 1 rfl) ?_
                          refine lv_iload hx hb dX1_digest_124 (lv_at hl 0 rfl) ?_
                          refine lv_aload_n hx hb dX1_digest_126 rfl (lv_at hl 3 rfl) ?_
                          refine xr_V (b := b 0) (As := [.int (nI r), .int (nI w), .ref u_1]) (rest := [.long (d2 * 31)]) ⟨hx, hb, hml, hown, hts⟩ (c_X1_ropeTold l D t b 0 tc rc F T L Z u_1 (earM F T L Z tc rc) r w (by omega) (by omega) hF (by omega) (by omega)) (cwV 3 hts gX1_digest_X1_ropeTold rfl rfl rfl hd_X1_ropeTold ⟨Nat.le_of_ble_eq_true rfl, Nat.le_of_ble_eq_true rfl⟩) hK hP (va_recv hK hP (ci := 1) (q0 := 0) rfl rfl) [0, 1, 2] rfl rfl hl.1 rfl (Nat.le_of_ble_eq_true rfl) dX1_digest_127 ⟨(Nat.le_of_ble_eq_true rfl), (Nat.le_of_ble_eq_true rfl)⟩ ?_
                          refine lv_i2l (x := toldF ((earM F T L Z tc rc) 12) (earM F T L Z tc rc) F T L Z r w) (v := Int32.toInt64 (toldF ((earM F T L Z tc rc) 12) (earM F T L Z tc rc) F T L Z r w)) hx hb dX1_digest_130 rfl ?_
                          refine lv_ladd hx hb dX1_digest_131 ?_
                          refine lv_lstore_n (lv' := [(2, .long ((d2 * 31) + (Int32.toInt64 (toldF ((earM F T L Z tc rc) 12) (earM F T L Z tc rc) F T L Z r w)))), (5, .int (nI w)), (4, .int (nI r)), (1, .ref u_1), (0, .ref (b 0))]) hx hb dX1_digest_132 rfl hl (by decide) rfl (fun ls hl => ?_)
                          refine lv_iinc (v := nI (w + 1)) (lv' := [(5, .int (nI (w + 1))), (2, .long ((d2 * 31) + (Int32.toInt64 (toldF ((earM F T L Z tc rc) 12) (earM F T L Z tc rc) F T L Z r w)))), (4, .int (nI r)), (1, .ref u_1), (0, .ref (b 0))]) hx hb dX1_digest_133 hl (k := 1) rfl (x_inc _) (by decide) rfl (fun ls hl => ?_)
                          refine lv_goto (tgt := 110) hx hb dX1_digest_136 (by decide) ?_
                          exact ih_110 n1109 (by omega) (w + 1) ((d2 * 31) + (Int32.toInt64 (toldF ((earM F T L Z tc rc) 12) (earM F T L Z tc rc) F T L Z r w))) (by omega) (by rw [← hfin_110]; rfl) _ _ hP hD hS _ (lv_sub hl [0, 2, 1, 3, 4] rfl)
                    exact lp_110 5 0 d (by omega) rfl _ _ hP hD hS _ (lv_sub hl [0, 1, 2, 3, 4] rfl)
              exact lp_98 rc 0 (dgD (aboutF (earM F T L Z tc rc 12) (earM F T L Z tc rc) F T Z rc) 3 tc 0 (dgS (cntM (earM F T L Z tc rc) F T L Z tc rc) 7 0 1553)) (by omega) rfl _ _ hP hD hS _ (lv_sub hl [0, 1, 2, 3] rfl)
            · have c_3 : v < tc := Nat.lt_of_not_le (fun z9 => c_3 ((nI_leI (a := tc) (b := v) (by omega) (by omega)).mpr z9))
              obtain ⟨n489, rfl⟩ : ∃ z, n48 = z + 1 := ⟨n48 - 1, by omega⟩
              refine lv_iconst (v := 0) hx hb dX1_digest_57 (by decide) ?_
              refine lv_istore (lv' := [(5, .int 0), (4, .int (nI v)), (2, .long d), (1, .ref u_1), (0, .ref (b 0))]) hx hb dX1_digest_58 hl (by decide) rfl (fun ls hl => ?_)
              have lp_60 : ∀ (n60 : Nat) (w : Nat) (d2 : Int64), w + n60 = 3 → dgS (aboutF (earM F T L Z tc rc 12) (earM F T L Z tc rc) F T Z rc v) n60 w d2 = dgS (aboutF (earM F T L Z tc rc 12) (earM F T L Z tc rc) F T Z rc v) 3 0 d → ∀ (H : Heap) (locs : List Loc), va_P D vwCl ([xMod b 0 tc rc, xArr (t 0) (b 1) 120 (mkM F T L Z), xArr (t 0) u_1 13 (earM F T L Z tc rc)]) H → va_D A ([xMod b 0 tc rc, xArr (t 0) (b 1) 120 (mkM F T L Z), xArr (t 0) u_1 13 (earM F T L Z tc rc)]) → va_S A s.heap H locs → ∀ ls : Array Slot, lv_has ls 7 [(5, .int (nI w)), (4, .int (nI v)), (2, .long d2), (1, .ref u_1), (0, .ref (b 0))] → W p l e (headSpec wsX1_digest ({ frames := 4, cells := 170, slots := 2041, locals := 93 } : Jvm.Room)).room s m (([.ref (b 0)] : List Value).toArray) below meth c H locs 157 1885 (MQ below (xQm D (fun u : Unit => True) (fun u : Unit => some (.long (dgMF F T L Z tc rc))) [xMod b th tc rc, xArr (t 0) (b 1) 120 (mkM F T L Z)] (fun u : Unit => [xMod b 0 tc rc, xArr (t 0) (b 1) 120 (mkM F T L Z)]) s.heap.size) (([.ref (b 0)] : List Value).toArray) s 170 2041 A) (F0 m 60 ls []) := by
                intro n60
                induction n60 using Nat.strongRecOn with
                | _ n60 ih_60 =>
                  intro w d2 hm_60 hfin_60 H locs hP hD hS ls hl
                  refine lv_iload hx hb dX1_digest_60 (lv_at hl 0 rfl) ?_
                  refine lv_iconst (v := 3) hx hb dX1_digest_62 (by decide) ?_
                  refine lv_icmp_ge (x := nI w) (y := 3) (tgt := 89) hx hb dX1_digest_63 (by decide) (fun c_10 => ?_) (fun c_10 => ?_)
                  · have c_10 := (nI_leI (a := 3) (b := w) (by omega) (by omega)).mp c_10
                    have hn0_60 : n60 = 0 := by omega
                    subst hn0_60
                    obtain rfl : d2 = dgS (aboutF (earM F T L Z tc rc 12) (earM F T L Z tc rc) F T Z rc v) 3 0 d := hfin_60
                    refine lv_iinc (v := nI (v + 1)) (lv' := [(4, .int (nI (v + 1))), (5, .int (nI w)), (2, .long (dgS (aboutF (earM F T L Z tc rc 12) (earM F T L Z tc rc) F T Z rc v) 3 0 d)), (1, .ref u_1), (0, .ref (b 0))]) hx hb dX1_digest_89 hl (k := 1) rfl (x_inc _) (by decide) rfl (fun ls hl => ?_)
                    refine lv_goto (tgt := 48) hx hb dX1_digest_92 (by decide) ?_
                    exact ih_48 n489 (by omega) (v + 1) (dgS (aboutF (earM F T L Z tc rc 12) (earM F T L Z tc rc) F T Z rc v) 3 0 d) (by omega) (by rw [← hfin_48]; rfl) _ _ hP hD hS _ (lv_sub hl [0, 2, 3, 4] rfl)
                  · have c_10 : w < 3 := Nat.lt_of_not_le (fun z9 => c_10 ((nI_leI (a := 3) (b := w) (by omega) (by omega)).mpr z9))
                    obtain ⟨n609, rfl⟩ : ∃ z, n60 = z + 1 := ⟨n60 - 1, by omega⟩
                    refine lv_lload_n hx hb dX1_digest_66 rfl (lv_at hl 2 rfl) ?_
                    refine lv_ldc2 (v := 31) hx hb hown kl_112 dX1_digest_67 ?_
                    refine lv_lmul hx hb dX1_digest_70 ?_
                    refine lv_aload_n hx hb dX1_digest_71 rfl (lv_at hl 4 rfl) ?_
                    refine lv_iload hx hb dX1_digest_72 (lv_at hl 1 rfl) ?_
                    refine lv_iload hx hb dX1_digest_74 (lv_at hl 0 rfl) ?_
                    refine lv_aload_n hx hb dX1_digest_76 rfl (lv_at hl 3 rfl) ?_
                    refine xr_V (b := b 0) (As := [.int (nI v), .int (nI w), .ref u_1]) (rest := [.long (d2 * 31)]) ⟨hx, hb, hml, hown, hts⟩ (c_X1_turnTold l D t b 0 tc rc F T L Z u_1 (earM F T L Z tc rc) v w (by omega) (by omega) hF (by omega) (by omega)) (cwV 3 hts gX1_digest_X1_turnTold rfl rfl rfl hd_X1_turnTold ⟨Nat.le_of_ble_eq_true rfl, Nat.le_of_ble_eq_true rfl⟩) hK hP (va_recv hK hP (ci := 1) (q0 := 0) rfl rfl) [0, 1, 2] rfl rfl hl.1 rfl (Nat.le_of_ble_eq_true rfl) dX1_digest_77 ⟨(Nat.le_of_ble_eq_true rfl), (Nat.le_of_ble_eq_true rfl)⟩ ?_
                    refine lv_i2l (x := aboutF ((earM F T L Z tc rc) 12) (earM F T L Z tc rc) F T Z rc v w) (v := Int32.toInt64 (aboutF ((earM F T L Z tc rc) 12) (earM F T L Z tc rc) F T Z rc v w)) hx hb dX1_digest_80 rfl ?_
                    refine lv_ladd hx hb dX1_digest_81 ?_
                    refine lv_lstore_n (lv' := [(2, .long ((d2 * 31) + (Int32.toInt64 (aboutF ((earM F T L Z tc rc) 12) (earM F T L Z tc rc) F T Z rc v w)))), (5, .int (nI w)), (4, .int (nI v)), (1, .ref u_1), (0, .ref (b 0))]) hx hb dX1_digest_82 rfl hl (by decide) rfl (fun ls hl => ?_)
                    refine lv_iinc (v := nI (w + 1)) (lv' := [(5, .int (nI (w + 1))), (2, .long ((d2 * 31) + (Int32.toInt64 (aboutF ((earM F T L Z tc rc) 12) (earM F T L Z tc rc) F T Z rc v w)))), (4, .int (nI v)), (1, .ref u_1), (0, .ref (b 0))]) hx hb dX1_digest_83 hl (k := 1) rfl (x_inc _) (by decide) rfl (fun ls hl => ?_)
                    refine lv_goto (tgt := 60) hx hb dX1_digest_86 (by decide) ?_
                    exact ih_60 n609 (by omega) (w + 1) ((d2 * 31) + (Int32.toInt64 (aboutF ((earM F T L Z tc rc) 12) (earM F T L Z tc rc) F T Z rc v w))) (by omega) (by rw [← hfin_60]; rfl) _ _ hP hD hS _ (lv_sub hl [0, 2, 1, 3, 4] rfl)
              exact lp_60 3 0 d (by omega) rfl _ _ hP hD hS _ (lv_sub hl [0, 1, 2, 3, 4] rfl)
        exact lp_48 tc 0 (dgS (cntM (earM F T L Z tc rc) F T L Z tc rc) 7 0 1553) (by omega) rfl _ _ hP hD hS _ (lv_sub hl [0, 1, 2, 3] rfl)
      · have c_2 : w < 7 := Nat.lt_of_not_le (fun z9 => c_2 ((nI_leI (a := 7) (b := w) (by omega) (by omega)).mpr z9))
        obtain ⟨n179, rfl⟩ : ∃ z, n17 = z + 1 := ⟨n17 - 1, by omega⟩
        refine lv_lload_n hx hb dX1_digest_24 rfl (lv_at hl 1 rfl) ?_
        refine lv_ldc2 (v := 31) hx hb hown kl_112 dX1_digest_25 ?_
        refine lv_lmul hx hb dX1_digest_28 ?_
        refine lv_aload_n hx hb dX1_digest_29 rfl (lv_at hl 3 rfl) ?_
        refine lv_iload hx hb dX1_digest_30 (lv_at hl 0 rfl) ?_
        refine lv_aload_n hx hb dX1_digest_32 rfl (lv_at hl 2 rfl) ?_
        rcases Nat.lt_or_ge w 6 with h69 | h69
        · refine xr_V (b := b 0) (As := [.int (nI w), .ref u_1]) (rest := [.long (d * 31)]) ⟨hx, hb, hml, hown, hts⟩ (c_X1_countedL l D t b 0 tc rc F T L Z u_1 (earM F T L Z tc rc) w (by omega) (by omega) hF (by omega)) (cwV 2 hts gX1_digest_X1_counted rfl rfl rfl hd_X1_counted ⟨Nat.le_of_ble_eq_true rfl, Nat.le_of_ble_eq_true rfl⟩) hK hP (va_recv hK hP (ci := 1) (q0 := 0) rfl rfl) [0, 1, 2] rfl rfl hl.1 rfl (Nat.le_of_ble_eq_true rfl) dX1_digest_33 ⟨(by show _ ≤ 170; omega), (by show _ ≤ 2041; omega)⟩ ?_
          refine lv_i2l (x := cntM (earM F T L Z tc rc) F T L Z tc rc w) (v := Int32.toInt64 (cntM (earM F T L Z tc rc) F T L Z tc rc w)) hx hb dX1_digest_36 rfl ?_
          refine lv_ladd hx hb dX1_digest_37 ?_
          refine lv_lstore_n (lv' := [(2, .long ((d * 31) + (Int32.toInt64 (cntM (earM F T L Z tc rc) F T L Z tc rc w)))), (4, .int (nI w)), (1, .ref u_1), (0, .ref (b 0))]) hx hb dX1_digest_38 rfl hl (by decide) rfl (fun ls hl => ?_)
          refine lv_iinc (v := nI (w + 1)) (lv' := [(4, .int (nI (w + 1))), (2, .long ((d * 31) + (Int32.toInt64 (cntM (earM F T L Z tc rc) F T L Z tc rc w)))), (1, .ref u_1), (0, .ref (b 0))]) hx hb dX1_digest_39 hl (k := 1) rfl (x_inc _) (by decide) rfl (fun ls hl => ?_)
          refine lv_goto (tgt := 17) hx hb dX1_digest_42 (by decide) ?_
          refine W.widen (k := 1 + 156 * ((w + 1) / 7)) (n := 13 + 1872 * ((w + 1) / 7)) (by omega) (by omega) ?_
          exact ih_17 n179 (by omega) (w + 1) ((d * 31) + (Int32.toInt64 (cntM (earM F T L Z tc rc) F T L Z tc rc w))) (by omega) (by rw [← hfin_17]; rfl) _ _ hP hD hS _ (lv_sub hl [0, 1, 2, 3] rfl)
        · obtain rfl : w = 6 := by omega
          refine xm_V (b := b 0) (As := [.int (nI 6), .ref u_1]) (rest := [.long (d * 31)]) (wr := []) ⟨hx, hb, hml, hown, hts⟩ aoT (c_X1_countedH l D t b 0 tc rc F T L Z u_1 (earM F T L Z tc rc) _ (by omega) (by omega) hF) (cwV 2 hts gX1_digest_X1_counted rfl rfl rfl hd_X1_counted ⟨Nat.le_of_ble_eq_true rfl, Nat.le_of_ble_eq_true rfl⟩) hK hP hD hS hA (fun U hW _ => va_AOA.moved hW.alike hXX) (va_recv hK hP (ci := 1) (q0 := 0) rfl rfl) [0, 1, 2] [] rfl rfl (by decide) (by decide) (by decide) rfl hl.1 rfl (Nat.le_of_ble_eq_true rfl) dX1_digest_33 ⟨(by show _ ≤ 170; omega), (by show _ ≤ 2041; omega)⟩ (fun u_11 H locs hu hP hD hS hz => ?_)
          have hP : va_P D vwCl ([xMod b 0 tc rc, xArr (t 0) (b 1) 120 (mkM F T L Z), xArr (t 0) u_1 13 (earM F T L Z tc rc)]) H := hP
          have hD : va_D _ ([xMod b 0 tc rc, xArr (t 0) (b 1) 120 (mkM F T L Z), xArr (t 0) u_1 13 (earM F T L Z tc rc)]) := hD
          refine lv_i2l (x := cntM (earM F T L Z tc rc) F T L Z tc rc 6) (v := Int32.toInt64 (cntM (earM F T L Z tc rc) F T L Z tc rc 6)) hx hb dX1_digest_36 rfl ?_
          refine lv_ladd hx hb dX1_digest_37 ?_
          refine lv_lstore_n (lv' := [(2, .long ((d * 31) + (Int32.toInt64 (cntM (earM F T L Z tc rc) F T L Z tc rc 6)))), (4, .int (nI 6)), (1, .ref u_1), (0, .ref (b 0))]) hx hb dX1_digest_38 rfl hl (by decide) rfl (fun ls hl => ?_)
          refine lv_iinc (v := nI (6 + 1)) (lv' := [(4, .int (nI (6 + 1))), (2, .long ((d * 31) + (Int32.toInt64 (cntM (earM F T L Z tc rc) F T L Z tc rc 6)))), (1, .ref u_1), (0, .ref (b 0))]) hx hb dX1_digest_39 hl (k := 1) rfl (x_inc _) (by decide) rfl (fun ls hl => ?_)
          refine lv_goto (tgt := 17) hx hb dX1_digest_42 (by decide) ?_
          refine W.widen (k := 1 + 156 * ((6 + 1) / 7)) (n := 13 + 1872 * ((6 + 1) / 7)) (by omega) (by omega) ?_
          exact ih_17 n179 (by omega) (6 + 1) ((d * 31) + (Int32.toInt64 (cntM (earM F T L Z tc rc) F T L Z tc rc 6))) (by omega) (by rw [← hfin_17]; rfl) _ _ hP hD hS _ (lv_sub hl [0, 1, 2, 3] rfl)
  refine W.widen (k := 1 + 156 * (0 / 7)) (n := 13 + 1872 * (0 / 7)) (by omega) (by omega) ?_
  exact lp_17 7 0 1553 (by omega) rfl _ _ hP hD hS _ (lv_sub hl [0, 1, 2, 3] rfl)
set_option maxHeartbeats 4000000 in
set_option maxRecDepth 100000 in
theorem c_X1_init (l : Launch) (D : va_G) (t : Nat → ClassId) (h0 : Nat) (sz : Nat) : Met l yX1_init wsX1_init ({ frames := 1, cells := 1, slots := 120, locals := 12 }) (xMu D (xTy t) (fun _ => True) [.ref h0] [(h0, .inr (1, [.int 0, .int 0, .int 0, .null]))] sz) (xQm D (fun u : Nat → Nat => u 0 = h0) (fun u : Nat → Nat => none) [(h0, .inr (1, [.int 0, .int 0, .int 0, .null]))] (fun u : Nat → Nat => [xMod u 0 0 0, xArr (t 0) (u 1) 120 (mkM (fun _ => 0) (fun _ => 0) (fun _ => 0) (fun _ => false))]) sz) 1 120 (va_A [(h0, .inr (1, [.int 0, .int 0, .int 0, .null]))] sz) := by
  refine Met.ofW (cc := cX1_init) (maxL := 1) (ret := none) (by decide) rfl ?_
  intro p e s m args below meth c s₁ hB9 hml hv
  obtain ⟨rfl, hsz, hP, hK, hD0, hXX⟩ := hv
  have hx := hB9.exec
  have hb := hB9.bytes
  have hr := hB9.returns
  have hts := atoms_spec (ws := wsX1_init) hB9.pre
  have hown : s.vm.findClass RX1 = some m.cls := findClass_of_methodNamed hB9.named
  have hlocks := hB9.notSynchronized
  have hin : ∀ w ∈ wsX10, w ∈ wsX1_init := fun _ h => List.mem_cons_of_mem _ (List.mem_append_right _ h)
  have fl_9 := hts (.fieldLink RX1 9 "RopeTimesModel" "rows" "[I") (by decide +kernel)
  subst hsz
  have hD := hD0.self (sz := s.heap.size)
  generalize hAe : va_A ([(h0, .inr (1, [.int 0, .int 0, .int 0, .null]))]) s.heap.size = A at hD ⊢
  have hA : ∀ q : Nat, s.heap.size ≤ q → A q := fun q h => by rw [← hAe]; exact Or.inr h
  have hS : va_S A s.heap s.heap [] := va_S.rf
  have hP : va_P D vwCl ([(h0, .inr (1, [.int 0, .int 0, .int 0, .null]))]) s.heap := hP
  have hD : va_D A ([(h0, .inr (1, [.int 0, .int 0, .int 0, .null]))]) := hD
  have hl := lv_entry ([.ref h0]) (n := 1) (Nat.le_of_ble_eq_true rfl)
  rw [lg_entry_eq]
  generalize (lg_sl ([.ref h0]) ++ List.replicate (1 - (lg_sl ([.ref h0])).length) Slot.unset).toArray = ls at hl ⊢
  have hl : lv_has ls 1 [(0, .ref h0)] := hl
  have hini9 : meth.name = "<init>" := (name_of_methodNamed hB9.named hB9.method).1
  refine lv_aload_n hx hb dX1_init_0 rfl (lv_at hl 0 rfl) ?_
  refine W.objInit hx hb hown (hts (.methodLink RX1 1 objectInit) (by decide +kernel)) (hts (.instanceMethod objectInit) (by decide +kernel)) (hts (.code objectInit ⟨#[0xb1]⟩ 1 none) (by decide +kernel)) rfl (hl.1.trans hml.symm) rfl dX1_init_1 (Nat.le_of_ble_eq_true rfl) (Nat.le_of_ble_eq_true rfl) ?_
  refine W.eq (g2 := F0 m 4 ls []) rfl ?_
  refine lv_aload_n hx hb dX1_init_4 rfl (lv_at hl 0 rfl) ?_
  refine lv_bipush (v := 120) hx hb dX1_init_5 (by decide) ?_
  refine x_newa (atype := .int) (ty := .int) (a0 := (120, .inl (fun _ => 0))) (n := 120) (N' := 120) (cT := t 0) hx hb (hts (.arrayClass .int) (by decide +kernel)) rfl 0 rfl (by intro C h; cases h) hK hP hD hS hA (fun _ => rfl) (by decide) (by decide) (Nat.le_of_ble_eq_true rfl) (Nat.le_of_ble_eq_true rfl) (Nat.le_of_ble_eq_true rfl) dX1_init_7 (fun q_1 H hP hD hS => ?_)
  have hP : va_P D vwCl ([(h0, .inr (1, [.int 0, .int 0, .int 0, .null])), xArr (t 0) q_1 120 (fun _ => 0)]) H := hP
  have hD : va_D _ ([(h0, .inr (1, [.int 0, .int 0, .int 0, .null])), xArr (t 0) q_1 120 (fun _ => 0)]) := hD
  refine x1_putF (ty := .array .int) (v := .ref q_1) hx hb hts hin hown hK hP hD hS 0 ([(h0, .inr (1, [.int 0, .int 0, .int 0, .ref q_1])), xArr (t 0) q_1 120 (fun _ => 0)]) rfl 3 (by decide) fl_9 rfl hini9 (by decide +kernel) rfl rfl (Nat.le_of_ble_eq_true rfl) rfl dX1_init_9 rfl (fun H locs hP hD hS => ?_)
  obtain ⟨b, hb9⟩ : ∃ b : Nat → Nat, b = xAd h0 q_1 q_1 q_1 q_1 q_1 q_1 q_1 q_1 q_1 := ⟨_, rfl⟩
  have hb0 : b 0 = h0 := by rw [hb9]; rfl
  have hP : va_P D vwCl ([xMod b 0 0 0, xArr (t 0) (b 1) 120 (mkM (fun _ => 0) (fun _ => 0) (fun _ => 0) (fun _ => false))]) H := by rw [← mkM_new, hb9]; exact hP
  have hD : va_D A ([xMod b 0 0 0, xArr (t 0) (b 1) 120 (mkM (fun _ => 0) (fun _ => 0) (fun _ => 0) (fun _ => false))]) := by rw [← mkM_new, hb9]; exact hD
  subst hAe
  obtain ⟨hq9, hf9⟩ := xm_end (S := Nat → Nat) (pu := (fun u : Nat → Nat => u 0 = h0)) (r := (fun u : Nat → Nat => none)) (wc := [(h0, .inr (1, [.int 0, .int 0, .int 0, .null]))]) (w1 := (fun u : Nat → Nat => [xMod u 0 0 0, xArr (t 0) (u 1) 120 (mkM (fun _ => 0) (fun _ => 0) (fun _ => 0) (fun _ => false))])) (o := none) (args := ([.ref h0] : List Value).toArray) b rfl hb0 rfl hP hD hS
  exact W.vret hx hb hr hq9 hf9 dX1_init_12 hlocks
