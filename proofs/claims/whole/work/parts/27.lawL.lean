theorem hd_L_turn : yL_turn.cls ≠ "java/lang/invoke/MethodHandle" ∧ yL_turn.cls ≠ "java/lang/invoke/VarHandle" ∧ (parseMethodDescriptor yL_turn.desc).map (fun d => d.parameters.length) = some 2 := by decide +kernel
theorem hd_L_tie : yL_tie.cls ≠ "java/lang/invoke/MethodHandle" ∧ yL_tie.cls ≠ "java/lang/invoke/VarHandle" ∧ (parseMethodDescriptor yL_tie.desc).map (fun d => d.parameters.length) = some 5 := by decide +kernel
theorem hd_L_cut : yL_cut.cls ≠ "java/lang/invoke/MethodHandle" ∧ yL_cut.cls ≠ "java/lang/invoke/VarHandle" ∧ (parseMethodDescriptor yL_cut.desc).map (fun d => d.parameters.length) = some 4 := by decide +kernel
theorem hd_L_knot : yL_knot.cls ≠ "java/lang/invoke/MethodHandle" ∧ yL_knot.cls ≠ "java/lang/invoke/VarHandle" ∧ (parseMethodDescriptor yL_knot.desc).map (fun d => d.parameters.length) = some 3 := by decide +kernel
theorem hd_L_told : yL_told.cls ≠ "java/lang/invoke/MethodHandle" ∧ yL_told.cls ≠ "java/lang/invoke/VarHandle" ∧ (parseMethodDescriptor yL_told.desc).map (fun d => d.parameters.length) = some 4 := by decide +kernel
theorem hd_L_about : yL_about.cls ≠ "java/lang/invoke/MethodHandle" ∧ yL_about.cls ≠ "java/lang/invoke/VarHandle" ∧ (parseMethodDescriptor yL_about.desc).map (fun d => d.parameters.length) = some 4 := by decide +kernel
theorem hd_L_count : yL_count.cls ≠ "java/lang/invoke/MethodHandle" ∧ yL_count.cls ≠ "java/lang/invoke/VarHandle" ∧ (parseMethodDescriptor yL_count.desc).map (fun d => d.parameters.length) = some 3 := by decide +kernel
theorem hd_L_late : yL_late.cls ≠ "java/lang/invoke/MethodHandle" ∧ yL_late.cls ≠ "java/lang/invoke/VarHandle" ∧ (parseMethodDescriptor yL_late.desc).map (fun d => d.parameters.length) = some 4 := by decide +kernel
theorem hd_L_most : yL_most.cls ≠ "java/lang/invoke/MethodHandle" ∧ yL_most.cls ≠ "java/lang/invoke/VarHandle" ∧ (parseMethodDescriptor yL_most.desc).map (fun d => d.parameters.length) = some 4 := by decide +kernel
theorem hd_L_room : yL_room.cls ≠ "java/lang/invoke/MethodHandle" ∧ yL_room.cls ≠ "java/lang/invoke/VarHandle" ∧ (parseMethodDescriptor yL_room.desc).map (fun d => d.parameters.length) = some 3 := by decide +kernel
theorem hd_L_would : yL_would.cls ≠ "java/lang/invoke/MethodHandle" ∧ yL_would.cls ≠ "java/lang/invoke/VarHandle" ∧ (parseMethodDescriptor yL_would.desc).map (fun d => d.parameters.length) = some 5 := by decide +kernel
theorem hd_L_at : yL_at.cls ≠ "java/lang/invoke/MethodHandle" ∧ yL_at.cls ≠ "java/lang/invoke/VarHandle" ∧ (parseMethodDescriptor yL_at.desc).map (fun d => d.parameters.length) = some 3 := by decide +kernel
set_option maxHeartbeats 4000000 in
set_option maxRecDepth 100000 in
theorem c_L_turn (l : Launch) (hfl : l.stackTraces = false) (D : va_G) (t : Nat → ClassId) (a : Nat → Nat) (tc rc : Nat) (ro : Int32) (F T : Nat → Nat) (L : Nat → Int32) (Z : Nat → Bool) (E B : Nat → Int32) (o : Nat) (f : Nat → Int64) (N0 : Nat) (sa : Nat → Nat) (sz : Nat) (htc : tc ≤ 12) (hrc : rc ≤ 30) (hF : ∀ r, r < rc → F r < tc ∧ T r < tc) : vx_Met l yL_turn wsL_turn ({ frames := 7, cells := 1, slots := 6, locals := 133 }) (xMu D (xTy t) (xTl N0 sa) [.ref (a 0), .ref o] [xObj a tc rc ro, xArr (t 0) (a 1) 30 (xN F), xArr (t 0) (a 2) 30 (xN T), xArr (t 0) (a 3) 30 L, xArr (t 1) (a 4) 30 (xB Z), xArr (t 0) (a 5) 12 E, xArr (t 0) (a 6) 144 B, xLng (t 2) o 1 f] sz) (xQm D (xLp (S := Unit) (kTurn tc)) (xLr (S := Unit) (c1 (kTurn tc))) [xObj a tc rc ro, xArr (t 0) (a 1) 30 (xN F), xArr (t 0) (a 2) 30 (xN T), xArr (t 0) (a 3) 30 L, xArr (t 1) (a 4) 30 (xB Z), xArr (t 0) (a 5) 12 E, xArr (t 0) (a 6) 144 B, xLng (t 2) o 1 f] (xLw [xObj a tc rc ro, xArr (t 0) (a 1) 30 (xN F), xArr (t 0) (a 2) 30 (xN T), xArr (t 0) (a 3) 30 L, xArr (t 1) (a 4) 30 (xB Z), xArr (t 0) (a 5) 12 E, xArr (t 0) (a 6) 144 B, xLng (t 2) o 1 f] (fun u : Unit => [xObj a (tc + 1) rc (sRo F T L Z (tc + 1) rc E), xArr (t 0) (a 1) 30 (xN F), xArr (t 0) (a 2) 30 (xN T), xArr (t 0) (a 3) 30 L, xArr (t 1) (a 4) 30 (xB Z), xArr (t 0) (a 5) 12 (sE F T L Z (tc + 1) rc E), xArr (t 0) (a 6) 144 (sB F T L Z (tc + 1) rc E B), xLng (t 2) o 1 (vp_updL f 0 (Int32.toInt64 (nI tc)))])) sz) (xXt (fun _ => False)) 1 6 (va_A [xObj a tc rc ro, xArr (t 0) (a 1) 30 (xN F), xArr (t 0) (a 2) 30 (xN T), xArr (t 0) (a 3) 30 L, xArr (t 1) (a 4) 30 (xB Z), xArr (t 0) (a 5) 12 E, xArr (t 0) (a 6) 144 B, xLng (t 2) o 1 f] sz) := by
  refine vx_ofWH (cc := cL_turn) (maxL := 3) (ret := (some .int)) (by decide) rfl ?_
  intro p e s m args below meth c s₁ hB9 hml hv
  obtain ⟨rfl, hsz, hP, hK, hD0, hXX⟩ := hv
  have hx := hB9.exec
  have hb := hB9.bytes
  have hr := hB9.returns
  have hts := atoms_spec (ws := wsL_turn) hB9.pre
  have hown : s.vm.findClass RL = some m.cls := findClass_of_methodNamed hB9.named
  have hlocks := hB9.notSynchronized
  have hTab := vx_table (x := yL_turn) hB9 (hts (.codeWith yL_turn cL_turn 3 (some .int) [(0, 8, 11, 13)]) List.mem_cons_self)
  subst hsz
  have hD := hD0.self (sz := s.heap.size)
  generalize hAe : va_A ([xObj a tc rc ro, xArr (t 0) (a 1) 30 (xN F), xArr (t 0) (a 2) 30 (xN T), xArr (t 0) (a 3) 30 L, xArr (t 1) (a 4) 30 (xB Z), xArr (t 0) (a 5) 12 E, xArr (t 0) (a 6) 144 B, xLng (t 2) o 1 f]) s.heap.size = A at hD ⊢
  have hA : ∀ q : Nat, s.heap.size ≤ q → A q := fun q h => by rw [← hAe]; exact Or.inr h
  have hS : va_S A s.heap s.heap [] := va_S.rf
  have hP : va_P D vwCl ([xObj a tc rc ro, xArr (t 0) (a 1) 30 (xN F), xArr (t 0) (a 2) 30 (xN T), xArr (t 0) (a 3) 30 L, xArr (t 1) (a 4) 30 (xB Z), xArr (t 0) (a 5) 12 E, xArr (t 0) (a 6) 144 B, xLng (t 2) o 1 f]) s.heap := hP
  have hD : va_D A ([xObj a tc rc ro, xArr (t 0) (a 1) 30 (xN F), xArr (t 0) (a 2) 30 (xN T), xArr (t 0) (a 3) 30 L, xArr (t 1) (a 4) 30 (xB Z), xArr (t 0) (a 5) 12 E, xArr (t 0) (a 6) 144 B, xLng (t 2) o 1 f]) := hD
  have hl := lv_entry ([.ref (a 0), .ref o]) (n := 3) (Nat.le_of_ble_eq_true rfl)
  rw [lg_entry_eq]
  generalize (lg_sl ([.ref (a 0), .ref o]) ++ List.replicate (3 - (lg_sl ([.ref (a 0), .ref o])).length) Slot.unset).toArray = ls at hl ⊢
  have hl : lv_has ls 3 [(0, .ref (a 0)), (1, .ref o)] := hl
  refine lv_aload_n hx hb dL_turn_0 rfl (lv_at hl 1 rfl) ?_
  refine lv_iconst (v := 0) hx hb dL_turn_1 (by decide) ?_
  refine lv_aload_n hx hb dL_turn_2 rfl (lv_at hl 0 rfl) ?_
  refine xmt_V (b := a 0) (As := []) (rest := [.int 0, .ref o]) (wr := [xLng (t 2) o 1 f]) ⟨hx, hb, hml, hown, hts⟩ (xTh.trav _ _) (c_X0_turn l hfl D t a tc rc ro F T L Z E B N0 sa _ htc hrc hF) (cwV 0 hts gL_turn_X0_turn rfl rfl rfl hd_X0_turn ⟨Nat.le_of_ble_eq_true rfl, Nat.le_of_ble_eq_true rfl⟩) hK hP hD hS hA (fun U hW hU => xTh.warm hW (fun q _ _ => by rw [hU]) hXX.1) (va_recv hK hP (ci := 0) (q0 := 0) rfl rfl) [0, 1, 2, 3, 4, 5, 6] [7] rfl rfl (by decide) (by decide) (by decide) rfl hl.1 rfl (Nat.le_of_ble_eq_true rfl) dL_turn_3 ⟨(Nat.le_of_ble_eq_true rfl), (Nat.le_of_ble_eq_true rfl)⟩ (fun E9 ce9 q9 H9 locs9 hbad hz9 hk9 hS9 hce9 hv9 hcl9 => ?_) (fun u_2 H locs ok_1 hP hD hS hz => ?_)
  · obtain ⟨hE9, hk0⟩ := hbad
    have hr9 : (kTurn tc) = 3 := by revert hk0; unfold kTurn; (repeat' split) <;> simp
    have hP : va_P D vwCl ([xObj a tc rc ro, xArr (t 0) (a 1) 30 (xN F), xArr (t 0) (a 2) 30 (xN T), xArr (t 0) (a 3) 30 L, xArr (t 1) (a 4) 30 (xB Z), xArr (t 0) (a 5) 12 E, xArr (t 0) (a 6) 144 B, xLng (t 2) o 1 f]) H9 := xl_keep hP hk9
    have hS := hS9
    have hq9 := hr9
    obtain rfl : E9 = eIS := by rw [hE9, hq9]; rfl
    refine xl_catch (E := eIS) (name := eIS) hown hTab [] (0, 8, 11, 13) [] rfl (fun _ h => nomatch h) (by decide) (by decide) (hts (.classLink RL 13 eIS) (by decide +kernel)) (va_Nw.use rfl (hXX.1.2.2.1 2)) hce9 hv9 hcl9 ?_
    refine lv_astore_n (lv' := [(2, .ref q9), (0, .ref (a 0)), (1, .ref o)]) hx hb dL_turn_11 rfl hl (by decide) rfl (fun ls hl => ?_)
    refine lv_iconst (v := 1) hx hb dL_turn_12 (by decide) ?_
    subst hAe
    refine W.widen (k := 1) (n := 6) (Nat.le_of_ble_eq_true rfl) (Nat.le_of_ble_eq_true rfl) ?_
    refine vx_ret ?_
    obtain ⟨hq8, hf8⟩ := xm_end (S := Option (Unit)) (pu := (xLp (S := Unit) (kTurn tc))) (r := (xLr (S := Unit) (c1 (kTurn tc)))) (wc := [xObj a tc rc ro, xArr (t 0) (a 1) 30 (xN F), xArr (t 0) (a 2) 30 (xN T), xArr (t 0) (a 3) 30 L, xArr (t 1) (a 4) 30 (xB Z), xArr (t 0) (a 5) 12 E, xArr (t 0) (a 6) 144 B, xLng (t 2) o 1 f]) (w1 := (xLw [xObj a tc rc ro, xArr (t 0) (a 1) 30 (xN F), xArr (t 0) (a 2) 30 (xN T), xArr (t 0) (a 3) 30 L, xArr (t 1) (a 4) 30 (xB Z), xArr (t 0) (a 5) 12 E, xArr (t 0) (a 6) 144 B, xLng (t 2) o 1 f] (fun u : Unit => [xObj a (tc + 1) rc (sRo F T L Z (tc + 1) rc E), xArr (t 0) (a 1) 30 (xN F), xArr (t 0) (a 2) 30 (xN T), xArr (t 0) (a 3) 30 L, xArr (t 1) (a 4) 30 (xB Z), xArr (t 0) (a 5) 12 (sE F T L Z (tc + 1) rc E), xArr (t 0) (a 6) 144 (sB F T L Z (tc + 1) rc E B), xLng (t 2) o 1 (vp_updL f 0 (Int32.toInt64 (nI tc)))]))) (o := some (.int 1)) (args := ([.ref (a 0), .ref o] : List Value).toArray) (none) rfl hk0 (by show some (Value.int 1) = some (Value.int (nI (c1 (kTurn tc)))); rw [hq9]; rfl) hP hD hS
    exact W.iret hx hb hr hq8 hf8 dL_turn_13 hlocks
  have hP : va_P D vwCl ([xObj a (tc + 1) rc (sRo F T L Z (tc + 1) rc E), xArr (t 0) (a 1) 30 (xN F), xArr (t 0) (a 2) 30 (xN T), xArr (t 0) (a 3) 30 L, xArr (t 1) (a 4) 30 (xB Z), xArr (t 0) (a 5) 12 (sE F T L Z (tc + 1) rc E), xArr (t 0) (a 6) 144 (sB F T L Z (tc + 1) rc E B), xLng (t 2) o 1 f]) H := hP.sub [1, 2, 3, 4, 5, 6, 7, 0] rfl
  have hD : va_D _ ([xObj a (tc + 1) rc (sRo F T L Z (tc + 1) rc E), xArr (t 0) (a 1) 30 (xN F), xArr (t 0) (a 2) 30 (xN T), xArr (t 0) (a 3) 30 L, xArr (t 1) (a 4) 30 (xB Z), xArr (t 0) (a 5) 12 (sE F T L Z (tc + 1) rc E), xArr (t 0) (a 6) 144 (sB F T L Z (tc + 1) rc E B), xLng (t 2) o 1 f]) := hD.sub [1, 2, 3, 4, 5, 6, 7, 0] (by decide) rfl
  refine lv_i2l (x := nI tc) (v := Int32.toInt64 (nI tc)) hx hb dL_turn_6 rfl ?_
  refine x_last hx hb hK hP hD hS 7 2 ([xObj a (tc + 1) rc (sRo F T L Z (tc + 1) rc E), xArr (t 0) (a 1) 30 (xN F), xArr (t 0) (a 2) 30 (xN T), xArr (t 0) (a 3) 30 L, xArr (t 1) (a 4) 30 (xB Z), xArr (t 0) (a 5) 12 (sE F T L Z (tc + 1) rc E), xArr (t 0) (a 6) 144 (sB F T L Z (tc + 1) rc E B), xLng (t 2) o 1 (vp_updL f 0 (Int32.toInt64 (nI tc)))]) rfl rfl (k := 0) rfl (Nat.le_of_ble_eq_true rfl) (Nat.le_of_ble_eq_true rfl) dL_turn_7 (fun H locs hP hD hS => ?_)
  refine lv_goto (tgt := 14) hx hb dL_turn_8 (by decide) ?_
  refine lv_iconst (v := 0) hx hb dL_turn_14 (by decide) ?_
  subst hAe
  refine W.widen (k := 1) (n := 6) (Nat.le_of_ble_eq_true rfl) (Nat.le_of_ble_eq_true rfl) ?_
  refine vx_ret ?_
  obtain ⟨hq8, hf8⟩ := xm_end (S := Option (Unit)) (pu := (xLp (S := Unit) (kTurn tc))) (r := (xLr (S := Unit) (c1 (kTurn tc)))) (wc := [xObj a tc rc ro, xArr (t 0) (a 1) 30 (xN F), xArr (t 0) (a 2) 30 (xN T), xArr (t 0) (a 3) 30 L, xArr (t 1) (a 4) 30 (xB Z), xArr (t 0) (a 5) 12 E, xArr (t 0) (a 6) 144 B, xLng (t 2) o 1 f]) (w1 := (xLw [xObj a tc rc ro, xArr (t 0) (a 1) 30 (xN F), xArr (t 0) (a 2) 30 (xN T), xArr (t 0) (a 3) 30 L, xArr (t 1) (a 4) 30 (xB Z), xArr (t 0) (a 5) 12 E, xArr (t 0) (a 6) 144 B, xLng (t 2) o 1 f] (fun u : Unit => [xObj a (tc + 1) rc (sRo F T L Z (tc + 1) rc E), xArr (t 0) (a 1) 30 (xN F), xArr (t 0) (a 2) 30 (xN T), xArr (t 0) (a 3) 30 L, xArr (t 1) (a 4) 30 (xB Z), xArr (t 0) (a 5) 12 (sE F T L Z (tc + 1) rc E), xArr (t 0) (a 6) 144 (sB F T L Z (tc + 1) rc E B), xLng (t 2) o 1 (vp_updL f 0 (Int32.toInt64 (nI tc)))]))) (o := some (.int 0)) (args := ([.ref (a 0), .ref o] : List Value).toArray) (some ()) rfl (show (kTurn tc) = 0 from ok_1) rfl hP hD hS
  exact W.iret hx hb hr hq8 hf8 dL_turn_15 hlocks
set_option maxHeartbeats 4000000 in
set_option maxRecDepth 100000 in
theorem c_L_tie (l : Launch) (hfl : l.stackTraces = false) (D : va_G) (t : Nat → ClassId) (a : Nat → Nat) (tc rc : Nat) (ro : Int32) (F T : Nat → Nat) (L : Nat → Int32) (Z : Nat → Bool) (E B : Nat → Int32) (p0 p1 p2 : Int32) (o : Nat) (f : Nat → Int64) (N0 : Nat) (sa : Nat → Nat) (sz : Nat) (htc : tc ≤ 12) (hrc : rc ≤ 30) (hF : ∀ r, r < rc → F r < tc ∧ T r < tc) : vx_Met l yL_tie wsL_tie ({ frames := 8, cells := 5, slots := 30, locals := 137 }) (xMu D (xTy t) (xTl N0 sa) [.ref (a 0), .int p0, .int p1, .int p2, .ref o] [xObj a tc rc ro, xArr (t 0) (a 1) 30 (xN F), xArr (t 0) (a 2) 30 (xN T), xArr (t 0) (a 3) 30 L, xArr (t 1) (a 4) 30 (xB Z), xArr (t 0) (a 5) 12 E, xArr (t 0) (a 6) 144 B, xLng (t 2) o 1 f] sz) (xQm D (xLp (S := Unit) (kTie tc rc p0 p1 p2)) (xLr (S := Unit) (kTie tc rc p0 p1 p2)) [xObj a tc rc ro, xArr (t 0) (a 1) 30 (xN F), xArr (t 0) (a 2) 30 (xN T), xArr (t 0) (a 3) 30 L, xArr (t 1) (a 4) 30 (xB Z), xArr (t 0) (a 5) 12 E, xArr (t 0) (a 6) 144 B, xLng (t 2) o 1 f] (xLw [xObj a tc rc ro, xArr (t 0) (a 1) 30 (xN F), xArr (t 0) (a 2) 30 (xN T), xArr (t 0) (a 3) 30 L, xArr (t 1) (a 4) 30 (xB Z), xArr (t 0) (a 5) 12 E, xArr (t 0) (a 6) 144 B, xLng (t 2) o 1 f] (fun u : Unit => [xObj a tc (rc + 1) (sRo (updN F rc (ix p0)) (updN T rc (ix p1)) (upd L rc p2) (updB Z rc true) tc (rc + 1) E), xArr (t 0) (a 1) 30 (xN (updN F rc (ix p0))), xArr (t 0) (a 2) 30 (xN (updN T rc (ix p1))), xArr (t 0) (a 3) 30 (upd L rc p2), xArr (t 1) (a 4) 30 (xB (updB Z rc true)), xArr (t 0) (a 5) 12 (sE (updN F rc (ix p0)) (updN T rc (ix p1)) (upd L rc p2) (updB Z rc true) tc (rc + 1) E), xArr (t 0) (a 6) 144 (sB (updN F rc (ix p0)) (updN T rc (ix p1)) (upd L rc p2) (updB Z rc true) tc (rc + 1) E B), xLng (t 2) o 1 (vp_updL f 0 (Int32.toInt64 (nI rc)))])) sz) (xXt (fun _ => False)) 5 30 (va_A [xObj a tc rc ro, xArr (t 0) (a 1) 30 (xN F), xArr (t 0) (a 2) 30 (xN T), xArr (t 0) (a 3) 30 L, xArr (t 1) (a 4) 30 (xB Z), xArr (t 0) (a 5) 12 E, xArr (t 0) (a 6) 144 B, xLng (t 2) o 1 f] sz) := by
  refine vx_ofWH (cc := cL_tie) (maxL := 6) (ret := (some .int)) (by decide) rfl ?_
  intro p e s m args below meth c s₁ hB9 hml hv
  obtain ⟨rfl, hsz, hP, hK, hD0, hXX⟩ := hv
  have hx := hB9.exec
  have hb := hB9.bytes
  have hr := hB9.returns
  have hts := atoms_spec (ws := wsL_tie) hB9.pre
  have hown : s.vm.findClass RL = some m.cls := findClass_of_methodNamed hB9.named
  have hlocks := hB9.notSynchronized
  have hTab := vx_table (x := yL_tie) hB9 (hts (.codeWith yL_tie cL_tie 6 (some .int) [(0, 12, 15, 19), (0, 12, 19, 21), (0, 12, 23, 13)]) List.mem_cons_self)
  subst hsz
  have hD := hD0.self (sz := s.heap.size)
  generalize hAe : va_A ([xObj a tc rc ro, xArr (t 0) (a 1) 30 (xN F), xArr (t 0) (a 2) 30 (xN T), xArr (t 0) (a 3) 30 L, xArr (t 1) (a 4) 30 (xB Z), xArr (t 0) (a 5) 12 E, xArr (t 0) (a 6) 144 B, xLng (t 2) o 1 f]) s.heap.size = A at hD ⊢
  have hA : ∀ q : Nat, s.heap.size ≤ q → A q := fun q h => by rw [← hAe]; exact Or.inr h
  have hS : va_S A s.heap s.heap [] := va_S.rf
  have hP : va_P D vwCl ([xObj a tc rc ro, xArr (t 0) (a 1) 30 (xN F), xArr (t 0) (a 2) 30 (xN T), xArr (t 0) (a 3) 30 L, xArr (t 1) (a 4) 30 (xB Z), xArr (t 0) (a 5) 12 E, xArr (t 0) (a 6) 144 B, xLng (t 2) o 1 f]) s.heap := hP
  have hD : va_D A ([xObj a tc rc ro, xArr (t 0) (a 1) 30 (xN F), xArr (t 0) (a 2) 30 (xN T), xArr (t 0) (a 3) 30 L, xArr (t 1) (a 4) 30 (xB Z), xArr (t 0) (a 5) 12 E, xArr (t 0) (a 6) 144 B, xLng (t 2) o 1 f]) := hD
  have hl := lv_entry ([.ref (a 0), .int p0, .int p1, .int p2, .ref o]) (n := 6) (Nat.le_of_ble_eq_true rfl)
  rw [lg_entry_eq]
  generalize (lg_sl ([.ref (a 0), .int p0, .int p1, .int p2, .ref o]) ++ List.replicate (6 - (lg_sl ([.ref (a 0), .int p0, .int p1, .int p2, .ref o])).length) Slot.unset).toArray = ls at hl ⊢
  have hl : lv_has ls 6 [(0, .ref (a 0)), (1, .int p0), (2, .int p1), (3, .int p2), (4, .ref o)] := hl
  refine lv_aload hx hb dL_tie_0 (lv_at hl 4 rfl) ?_
  refine lv_iconst (v := 0) hx hb dL_tie_2 (by decide) ?_
  refine lv_aload_n hx hb dL_tie_3 rfl (lv_at hl 0 rfl) ?_
  refine lv_iload_n hx hb dL_tie_4 rfl (lv_at hl 1 rfl) ?_
  refine lv_iload_n hx hb dL_tie_5 rfl (lv_at hl 2 rfl) ?_
  refine lv_iload_n hx hb dL_tie_6 rfl (lv_at hl 3 rfl) ?_
  refine xmt_V (b := a 0) (As := [.int p0, .int p1, .int p2]) (rest := [.int 0, .ref o]) (wr := [xLng (t 2) o 1 f]) ⟨hx, hb, hml, hown, hts⟩ (xTh.trav _ _) (c_X0_tie l hfl D t a tc rc ro F T L Z E B p0 p1 p2 N0 sa _ htc hrc hF) (cwV 3 hts gL_tie_X0_tie rfl rfl rfl hd_X0_tie ⟨Nat.le_of_ble_eq_true rfl, Nat.le_of_ble_eq_true rfl⟩) hK hP hD hS hA (fun U hW hU => xTh.warm hW (fun q _ _ => by rw [hU]) hXX.1) (va_recv hK hP (ci := 0) (q0 := 0) rfl rfl) [0, 1, 2, 3, 4, 5, 6] [7] rfl rfl (by decide) (by decide) (by decide) rfl hl.1 rfl (Nat.le_of_ble_eq_true rfl) dL_tie_7 ⟨(Nat.le_of_ble_eq_true rfl), (Nat.le_of_ble_eq_true rfl)⟩ (fun E9 ce9 q9 H9 locs9 hbad hz9 hk9 hS9 hce9 hv9 hcl9 => ?_) (fun u_2 H locs ok_1 hP hD hS hz => ?_)
  · obtain ⟨hE9, hk0⟩ := hbad
    have hr9 : (kTie tc rc p0 p1 p2) = 1 ∨ (kTie tc rc p0 p1 p2) = 2 ∨ (kTie tc rc p0 p1 p2) = 3 := by revert hk0; unfold kTie; (repeat' split) <;> simp
    have hP : va_P D vwCl ([xObj a tc rc ro, xArr (t 0) (a 1) 30 (xN F), xArr (t 0) (a 2) 30 (xN T), xArr (t 0) (a 3) 30 L, xArr (t 1) (a 4) 30 (xB Z), xArr (t 0) (a 5) 12 E, xArr (t 0) (a 6) 144 B, xLng (t 2) o 1 f]) H9 := xl_keep hP hk9
    have hS := hS9
    rcases hr9 with hq9 | hq9 | hq9
    · obtain rfl : E9 = eIO := by rw [hE9, hq9]; rfl
      refine xl_catch (E := eIO) (name := eIO) hown hTab [] (0, 12, 15, 19) [(0, 12, 19, 21), (0, 12, 23, 13)] rfl (fun _ h => nomatch h) (by decide) (by decide) (hts (.classLink RL 19 eIO) (by decide +kernel)) (va_Nw.use rfl (hXX.1.2.2.1 0)) hce9 hv9 hcl9 ?_
      refine lv_astore (lv' := [(5, .ref q9), (0, .ref (a 0)), (1, .int p0), (2, .int p1), (3, .int p2), (4, .ref o)]) hx hb dL_tie_15 hl (by decide) rfl (fun ls hl => ?_)
      refine lv_iconst (v := 1) hx hb dL_tie_17 (by decide) ?_
      subst hAe
      refine W.widen (k := 5) (n := 30) (Nat.le_of_ble_eq_true rfl) (Nat.le_of_ble_eq_true rfl) ?_
      refine vx_ret ?_
      obtain ⟨hq8, hf8⟩ := xm_end (S := Option (Unit)) (pu := (xLp (S := Unit) (kTie tc rc p0 p1 p2))) (r := (xLr (S := Unit) (kTie tc rc p0 p1 p2))) (wc := [xObj a tc rc ro, xArr (t 0) (a 1) 30 (xN F), xArr (t 0) (a 2) 30 (xN T), xArr (t 0) (a 3) 30 L, xArr (t 1) (a 4) 30 (xB Z), xArr (t 0) (a 5) 12 E, xArr (t 0) (a 6) 144 B, xLng (t 2) o 1 f]) (w1 := (xLw [xObj a tc rc ro, xArr (t 0) (a 1) 30 (xN F), xArr (t 0) (a 2) 30 (xN T), xArr (t 0) (a 3) 30 L, xArr (t 1) (a 4) 30 (xB Z), xArr (t 0) (a 5) 12 E, xArr (t 0) (a 6) 144 B, xLng (t 2) o 1 f] (fun u : Unit => [xObj a tc (rc + 1) (sRo (updN F rc (ix p0)) (updN T rc (ix p1)) (upd L rc p2) (updB Z rc true) tc (rc + 1) E), xArr (t 0) (a 1) 30 (xN (updN F rc (ix p0))), xArr (t 0) (a 2) 30 (xN (updN T rc (ix p1))), xArr (t 0) (a 3) 30 (upd L rc p2), xArr (t 1) (a 4) 30 (xB (updB Z rc true)), xArr (t 0) (a 5) 12 (sE (updN F rc (ix p0)) (updN T rc (ix p1)) (upd L rc p2) (updB Z rc true) tc (rc + 1) E), xArr (t 0) (a 6) 144 (sB (updN F rc (ix p0)) (updN T rc (ix p1)) (upd L rc p2) (updB Z rc true) tc (rc + 1) E B), xLng (t 2) o 1 (vp_updL f 0 (Int32.toInt64 (nI rc)))]))) (o := some (.int 1)) (args := ([.ref (a 0), .int p0, .int p1, .int p2, .ref o] : List Value).toArray) (none) rfl hk0 (by show some (Value.int 1) = some (Value.int (nI (kTie tc rc p0 p1 p2))); rw [hq9]; rfl) hP hD hS
      exact W.iret hx hb hr hq8 hf8 dL_tie_18 hlocks
    · obtain rfl : E9 = eIA := by rw [hE9, hq9]; rfl
      refine xl_catch (E := eIA) (name := eIA) hown hTab [(0, 12, 15, 19)] (0, 12, 19, 21) [(0, 12, 23, 13)] rfl (List.forall_mem_cons.mpr ⟨⟨by decide, _, hts (.classLink RL 19 eIO) (by decide +kernel), hXX.2.1⟩, (fun _ h => nomatch h)⟩) (by decide) (by decide) (hts (.classLink RL 21 eIA) (by decide +kernel)) (va_Nw.use rfl (hXX.1.2.2.1 1)) hce9 hv9 hcl9 ?_
      refine lv_astore (lv' := [(5, .ref q9), (0, .ref (a 0)), (1, .int p0), (2, .int p1), (3, .int p2), (4, .ref o)]) hx hb dL_tie_19 hl (by decide) rfl (fun ls hl => ?_)
      refine lv_iconst (v := 2) hx hb dL_tie_21 (by decide) ?_
      subst hAe
      refine W.widen (k := 5) (n := 30) (Nat.le_of_ble_eq_true rfl) (Nat.le_of_ble_eq_true rfl) ?_
      refine vx_ret ?_
      obtain ⟨hq8, hf8⟩ := xm_end (S := Option (Unit)) (pu := (xLp (S := Unit) (kTie tc rc p0 p1 p2))) (r := (xLr (S := Unit) (kTie tc rc p0 p1 p2))) (wc := [xObj a tc rc ro, xArr (t 0) (a 1) 30 (xN F), xArr (t 0) (a 2) 30 (xN T), xArr (t 0) (a 3) 30 L, xArr (t 1) (a 4) 30 (xB Z), xArr (t 0) (a 5) 12 E, xArr (t 0) (a 6) 144 B, xLng (t 2) o 1 f]) (w1 := (xLw [xObj a tc rc ro, xArr (t 0) (a 1) 30 (xN F), xArr (t 0) (a 2) 30 (xN T), xArr (t 0) (a 3) 30 L, xArr (t 1) (a 4) 30 (xB Z), xArr (t 0) (a 5) 12 E, xArr (t 0) (a 6) 144 B, xLng (t 2) o 1 f] (fun u : Unit => [xObj a tc (rc + 1) (sRo (updN F rc (ix p0)) (updN T rc (ix p1)) (upd L rc p2) (updB Z rc true) tc (rc + 1) E), xArr (t 0) (a 1) 30 (xN (updN F rc (ix p0))), xArr (t 0) (a 2) 30 (xN (updN T rc (ix p1))), xArr (t 0) (a 3) 30 (upd L rc p2), xArr (t 1) (a 4) 30 (xB (updB Z rc true)), xArr (t 0) (a 5) 12 (sE (updN F rc (ix p0)) (updN T rc (ix p1)) (upd L rc p2) (updB Z rc true) tc (rc + 1) E), xArr (t 0) (a 6) 144 (sB (updN F rc (ix p0)) (updN T rc (ix p1)) (upd L rc p2) (updB Z rc true) tc (rc + 1) E B), xLng (t 2) o 1 (vp_updL f 0 (Int32.toInt64 (nI rc)))]))) (o := some (.int 2)) (args := ([.ref (a 0), .int p0, .int p1, .int p2, .ref o] : List Value).toArray) (none) rfl hk0 (by show some (Value.int 2) = some (Value.int (nI (kTie tc rc p0 p1 p2))); rw [hq9]; rfl) hP hD hS
      exact W.iret hx hb hr hq8 hf8 dL_tie_22 hlocks
    · obtain rfl : E9 = eIS := by rw [hE9, hq9]; rfl
      refine xl_catch (E := eIS) (name := eIS) hown hTab [(0, 12, 15, 19), (0, 12, 19, 21)] (0, 12, 23, 13) [] rfl (List.forall_mem_cons.mpr ⟨⟨by decide, _, hts (.classLink RL 19 eIO) (by decide +kernel), hXX.2.2.1⟩, (List.forall_mem_cons.mpr ⟨⟨by decide, _, hts (.classLink RL 21 eIA) (by decide +kernel), hXX.2.2.2⟩, (fun _ h => nomatch h)⟩)⟩) (by decide) (by decide) (hts (.classLink RL 13 eIS) (by decide +kernel)) (va_Nw.use rfl (hXX.1.2.2.1 2)) hce9 hv9 hcl9 ?_
      refine lv_astore (lv' := [(5, .ref q9), (0, .ref (a 0)), (1, .int p0), (2, .int p1), (3, .int p2), (4, .ref o)]) hx hb dL_tie_23 hl (by decide) rfl (fun ls hl => ?_)
      refine lv_iconst (v := 3) hx hb dL_tie_25 (by decide) ?_
      subst hAe
      refine W.widen (k := 5) (n := 30) (Nat.le_of_ble_eq_true rfl) (Nat.le_of_ble_eq_true rfl) ?_
      refine vx_ret ?_
      obtain ⟨hq8, hf8⟩ := xm_end (S := Option (Unit)) (pu := (xLp (S := Unit) (kTie tc rc p0 p1 p2))) (r := (xLr (S := Unit) (kTie tc rc p0 p1 p2))) (wc := [xObj a tc rc ro, xArr (t 0) (a 1) 30 (xN F), xArr (t 0) (a 2) 30 (xN T), xArr (t 0) (a 3) 30 L, xArr (t 1) (a 4) 30 (xB Z), xArr (t 0) (a 5) 12 E, xArr (t 0) (a 6) 144 B, xLng (t 2) o 1 f]) (w1 := (xLw [xObj a tc rc ro, xArr (t 0) (a 1) 30 (xN F), xArr (t 0) (a 2) 30 (xN T), xArr (t 0) (a 3) 30 L, xArr (t 1) (a 4) 30 (xB Z), xArr (t 0) (a 5) 12 E, xArr (t 0) (a 6) 144 B, xLng (t 2) o 1 f] (fun u : Unit => [xObj a tc (rc + 1) (sRo (updN F rc (ix p0)) (updN T rc (ix p1)) (upd L rc p2) (updB Z rc true) tc (rc + 1) E), xArr (t 0) (a 1) 30 (xN (updN F rc (ix p0))), xArr (t 0) (a 2) 30 (xN (updN T rc (ix p1))), xArr (t 0) (a 3) 30 (upd L rc p2), xArr (t 1) (a 4) 30 (xB (updB Z rc true)), xArr (t 0) (a 5) 12 (sE (updN F rc (ix p0)) (updN T rc (ix p1)) (upd L rc p2) (updB Z rc true) tc (rc + 1) E), xArr (t 0) (a 6) 144 (sB (updN F rc (ix p0)) (updN T rc (ix p1)) (upd L rc p2) (updB Z rc true) tc (rc + 1) E B), xLng (t 2) o 1 (vp_updL f 0 (Int32.toInt64 (nI rc)))]))) (o := some (.int 3)) (args := ([.ref (a 0), .int p0, .int p1, .int p2, .ref o] : List Value).toArray) (none) rfl hk0 (by show some (Value.int 3) = some (Value.int (nI (kTie tc rc p0 p1 p2))); rw [hq9]; rfl) hP hD hS
      exact W.iret hx hb hr hq8 hf8 dL_tie_26 hlocks
  have hP : va_P D vwCl ([xObj a tc (rc + 1) (sRo (updN F rc (ix p0)) (updN T rc (ix p1)) (upd L rc p2) (updB Z rc true) tc (rc + 1) E), xArr (t 0) (a 1) 30 (xN (updN F rc (ix p0))), xArr (t 0) (a 2) 30 (xN (updN T rc (ix p1))), xArr (t 0) (a 3) 30 (upd L rc p2), xArr (t 1) (a 4) 30 (xB (updB Z rc true)), xArr (t 0) (a 5) 12 (sE (updN F rc (ix p0)) (updN T rc (ix p1)) (upd L rc p2) (updB Z rc true) tc (rc + 1) E), xArr (t 0) (a 6) 144 (sB (updN F rc (ix p0)) (updN T rc (ix p1)) (upd L rc p2) (updB Z rc true) tc (rc + 1) E B), xLng (t 2) o 1 f]) H := hP.sub [1, 2, 3, 4, 5, 6, 7, 0] rfl
  have hD : va_D _ ([xObj a tc (rc + 1) (sRo (updN F rc (ix p0)) (updN T rc (ix p1)) (upd L rc p2) (updB Z rc true) tc (rc + 1) E), xArr (t 0) (a 1) 30 (xN (updN F rc (ix p0))), xArr (t 0) (a 2) 30 (xN (updN T rc (ix p1))), xArr (t 0) (a 3) 30 (upd L rc p2), xArr (t 1) (a 4) 30 (xB (updB Z rc true)), xArr (t 0) (a 5) 12 (sE (updN F rc (ix p0)) (updN T rc (ix p1)) (upd L rc p2) (updB Z rc true) tc (rc + 1) E), xArr (t 0) (a 6) 144 (sB (updN F rc (ix p0)) (updN T rc (ix p1)) (upd L rc p2) (updB Z rc true) tc (rc + 1) E B), xLng (t 2) o 1 f]) := hD.sub [1, 2, 3, 4, 5, 6, 7, 0] (by decide) rfl
  refine lv_i2l (x := nI rc) (v := Int32.toInt64 (nI rc)) hx hb dL_tie_10 rfl ?_
  refine x_last hx hb hK hP hD hS 7 2 ([xObj a tc (rc + 1) (sRo (updN F rc (ix p0)) (updN T rc (ix p1)) (upd L rc p2) (updB Z rc true) tc (rc + 1) E), xArr (t 0) (a 1) 30 (xN (updN F rc (ix p0))), xArr (t 0) (a 2) 30 (xN (updN T rc (ix p1))), xArr (t 0) (a 3) 30 (upd L rc p2), xArr (t 1) (a 4) 30 (xB (updB Z rc true)), xArr (t 0) (a 5) 12 (sE (updN F rc (ix p0)) (updN T rc (ix p1)) (upd L rc p2) (updB Z rc true) tc (rc + 1) E), xArr (t 0) (a 6) 144 (sB (updN F rc (ix p0)) (updN T rc (ix p1)) (upd L rc p2) (updB Z rc true) tc (rc + 1) E B), xLng (t 2) o 1 (vp_updL f 0 (Int32.toInt64 (nI rc)))]) rfl rfl (k := 0) rfl (Nat.le_of_ble_eq_true rfl) (Nat.le_of_ble_eq_true rfl) dL_tie_11 (fun H locs hP hD hS => ?_)
  refine lv_goto (tgt := 27) hx hb dL_tie_12 (by decide) ?_
  refine lv_iconst (v := 0) hx hb dL_tie_27 (by decide) ?_
  subst hAe
  refine W.widen (k := 5) (n := 30) (Nat.le_of_ble_eq_true rfl) (Nat.le_of_ble_eq_true rfl) ?_
  refine vx_ret ?_
  obtain ⟨hq8, hf8⟩ := xm_end (S := Option (Unit)) (pu := (xLp (S := Unit) (kTie tc rc p0 p1 p2))) (r := (xLr (S := Unit) (kTie tc rc p0 p1 p2))) (wc := [xObj a tc rc ro, xArr (t 0) (a 1) 30 (xN F), xArr (t 0) (a 2) 30 (xN T), xArr (t 0) (a 3) 30 L, xArr (t 1) (a 4) 30 (xB Z), xArr (t 0) (a 5) 12 E, xArr (t 0) (a 6) 144 B, xLng (t 2) o 1 f]) (w1 := (xLw [xObj a tc rc ro, xArr (t 0) (a 1) 30 (xN F), xArr (t 0) (a 2) 30 (xN T), xArr (t 0) (a 3) 30 L, xArr (t 1) (a 4) 30 (xB Z), xArr (t 0) (a 5) 12 E, xArr (t 0) (a 6) 144 B, xLng (t 2) o 1 f] (fun u : Unit => [xObj a tc (rc + 1) (sRo (updN F rc (ix p0)) (updN T rc (ix p1)) (upd L rc p2) (updB Z rc true) tc (rc + 1) E), xArr (t 0) (a 1) 30 (xN (updN F rc (ix p0))), xArr (t 0) (a 2) 30 (xN (updN T rc (ix p1))), xArr (t 0) (a 3) 30 (upd L rc p2), xArr (t 1) (a 4) 30 (xB (updB Z rc true)), xArr (t 0) (a 5) 12 (sE (updN F rc (ix p0)) (updN T rc (ix p1)) (upd L rc p2) (updB Z rc true) tc (rc + 1) E), xArr (t 0) (a 6) 144 (sB (updN F rc (ix p0)) (updN T rc (ix p1)) (upd L rc p2) (updB Z rc true) tc (rc + 1) E B), xLng (t 2) o 1 (vp_updL f 0 (Int32.toInt64 (nI rc)))]))) (o := some (.int 0)) (args := ([.ref (a 0), .int p0, .int p1, .int p2, .ref o] : List Value).toArray) (some ()) rfl (show (kTie tc rc p0 p1 p2) = 0 from ok_1) rfl hP hD hS
  exact W.iret hx hb hr hq8 hf8 dL_tie_28 hlocks
set_option maxHeartbeats 4000000 in
set_option maxRecDepth 100000 in
theorem c_L_cut (l : Launch) (hfl : l.stackTraces = false) (D : va_G) (t : Nat → ClassId) (a : Nat → Nat) (tc rc : Nat) (ro : Int32) (F T : Nat → Nat) (L : Nat → Int32) (Z : Nat → Bool) (E B : Nat → Int32) (p0 p1 : Int32) (o : Nat) (f : Nat → Int64) (N0 : Nat) (sa : Nat → Nat) (sz : Nat) (htc : tc ≤ 12) (hrc : rc ≤ 30) (hF : ∀ r, r < rc → F r < tc ∧ T r < tc) : vx_Met l yL_cut wsL_cut ({ frames := 8, cells := 2, slots := 12, locals := 136 }) (xMu D (xTy t) (xTl N0 sa) [.ref (a 0), .int p0, .int p1, .ref o] [xObj a tc rc ro, xArr (t 0) (a 1) 30 (xN F), xArr (t 0) (a 2) 30 (xN T), xArr (t 0) (a 3) 30 L, xArr (t 1) (a 4) 30 (xB Z), xArr (t 0) (a 5) 12 E, xArr (t 0) (a 6) 144 B, xLng (t 2) o 1 f] sz) (xQm D (xLp (S := Unit) (kCut rc p0 p1)) (xLr (S := Unit) (kCut rc p0 p1)) [xObj a tc rc ro, xArr (t 0) (a 1) 30 (xN F), xArr (t 0) (a 2) 30 (xN T), xArr (t 0) (a 3) 30 L, xArr (t 1) (a 4) 30 (xB Z), xArr (t 0) (a 5) 12 E, xArr (t 0) (a 6) 144 B, xLng (t 2) o 1 f] (xLw [xObj a tc rc ro, xArr (t 0) (a 1) 30 (xN F), xArr (t 0) (a 2) 30 (xN T), xArr (t 0) (a 3) 30 L, xArr (t 1) (a 4) 30 (xB Z), xArr (t 0) (a 5) 12 E, xArr (t 0) (a 6) 144 B, xLng (t 2) o 1 f] (fun u : Unit => [xObj a tc rc (sRo F T (upd L (ix p0) p1) Z tc rc E), xArr (t 0) (a 1) 30 (xN F), xArr (t 0) (a 2) 30 (xN T), xArr (t 0) (a 3) 30 (upd L (ix p0) p1), xArr (t 1) (a 4) 30 (xB Z), xArr (t 0) (a 5) 12 (sE F T (upd L (ix p0) p1) Z tc rc E), xArr (t 0) (a 6) 144 (sB F T (upd L (ix p0) p1) Z tc rc E B), xLng (t 2) o 1 (vp_updL f 0 (Int32.toInt64 (L (ix p0))))])) sz) (xXt (fun _ => False)) 2 12 (va_A [xObj a tc rc ro, xArr (t 0) (a 1) 30 (xN F), xArr (t 0) (a 2) 30 (xN T), xArr (t 0) (a 3) 30 L, xArr (t 1) (a 4) 30 (xB Z), xArr (t 0) (a 5) 12 E, xArr (t 0) (a 6) 144 B, xLng (t 2) o 1 f] sz) := by
  refine vx_ofWH (cc := cL_cut) (maxL := 5) (ret := (some .int)) (by decide) rfl ?_
  intro p e s m args below meth c s₁ hB9 hml hv
  obtain ⟨rfl, hsz, hP, hK, hD0, hXX⟩ := hv
  have hx := hB9.exec
  have hb := hB9.bytes
  have hr := hB9.returns
  have hts := atoms_spec (ws := wsL_cut) hB9.pre
  have hown : s.vm.findClass RL = some m.cls := findClass_of_methodNamed hB9.named
  have hlocks := hB9.notSynchronized
  have hTab := vx_table (x := yL_cut) hB9 (hts (.codeWith yL_cut cL_cut 5 (some .int) [(0, 10, 13, 19), (0, 10, 17, 21)]) List.mem_cons_self)
  subst hsz
  have hD := hD0.self (sz := s.heap.size)
  generalize hAe : va_A ([xObj a tc rc ro, xArr (t 0) (a 1) 30 (xN F), xArr (t 0) (a 2) 30 (xN T), xArr (t 0) (a 3) 30 L, xArr (t 1) (a 4) 30 (xB Z), xArr (t 0) (a 5) 12 E, xArr (t 0) (a 6) 144 B, xLng (t 2) o 1 f]) s.heap.size = A at hD ⊢
  have hA : ∀ q : Nat, s.heap.size ≤ q → A q := fun q h => by rw [← hAe]; exact Or.inr h
  have hS : va_S A s.heap s.heap [] := va_S.rf
  have hP : va_P D vwCl ([xObj a tc rc ro, xArr (t 0) (a 1) 30 (xN F), xArr (t 0) (a 2) 30 (xN T), xArr (t 0) (a 3) 30 L, xArr (t 1) (a 4) 30 (xB Z), xArr (t 0) (a 5) 12 E, xArr (t 0) (a 6) 144 B, xLng (t 2) o 1 f]) s.heap := hP
  have hD : va_D A ([xObj a tc rc ro, xArr (t 0) (a 1) 30 (xN F), xArr (t 0) (a 2) 30 (xN T), xArr (t 0) (a 3) 30 L, xArr (t 1) (a 4) 30 (xB Z), xArr (t 0) (a 5) 12 E, xArr (t 0) (a 6) 144 B, xLng (t 2) o 1 f]) := hD
  have hl := lv_entry ([.ref (a 0), .int p0, .int p1, .ref o]) (n := 5) (Nat.le_of_ble_eq_true rfl)
  rw [lg_entry_eq]
  generalize (lg_sl ([.ref (a 0), .int p0, .int p1, .ref o]) ++ List.replicate (5 - (lg_sl ([.ref (a 0), .int p0, .int p1, .ref o])).length) Slot.unset).toArray = ls at hl ⊢
  have hl : lv_has ls 5 [(0, .ref (a 0)), (1, .int p0), (2, .int p1), (3, .ref o)] := hl
  refine lv_aload_n hx hb dL_cut_0 rfl (lv_at hl 3 rfl) ?_
  refine lv_iconst (v := 0) hx hb dL_cut_1 (by decide) ?_
  refine lv_aload_n hx hb dL_cut_2 rfl (lv_at hl 0 rfl) ?_
  refine lv_iload_n hx hb dL_cut_3 rfl (lv_at hl 1 rfl) ?_
  refine lv_iload_n hx hb dL_cut_4 rfl (lv_at hl 2 rfl) ?_
  refine xmt_V (b := a 0) (As := [.int p0, .int p1]) (rest := [.int 0, .ref o]) (wr := [xLng (t 2) o 1 f]) ⟨hx, hb, hml, hown, hts⟩ (xTh.trav _ _) (c_X0_cut l hfl D t a tc rc ro F T L Z E B p0 p1 N0 sa _ htc hrc hF) (cwV 2 hts gL_cut_X0_cut rfl rfl rfl hd_X0_cut ⟨Nat.le_of_ble_eq_true rfl, Nat.le_of_ble_eq_true rfl⟩) hK hP hD hS hA (fun U hW hU => xTh.warm hW (fun q _ _ => by rw [hU]) hXX.1) (va_recv hK hP (ci := 0) (q0 := 0) rfl rfl) [0, 1, 2, 3, 4, 5, 6] [7] rfl rfl (by decide) (by decide) (by decide) rfl hl.1 rfl (Nat.le_of_ble_eq_true rfl) dL_cut_5 ⟨(Nat.le_of_ble_eq_true rfl), (Nat.le_of_ble_eq_true rfl)⟩ (fun E9 ce9 q9 H9 locs9 hbad hz9 hk9 hS9 hce9 hv9 hcl9 => ?_) (fun u_2 H locs ok_1 hP hD hS hz => ?_)
  · obtain ⟨hE9, hk0⟩ := hbad
    have hr9 : (kCut rc p0 p1) = 1 ∨ (kCut rc p0 p1) = 2 := by revert hk0; unfold kCut; (repeat' split) <;> simp
    have hP : va_P D vwCl ([xObj a tc rc ro, xArr (t 0) (a 1) 30 (xN F), xArr (t 0) (a 2) 30 (xN T), xArr (t 0) (a 3) 30 L, xArr (t 1) (a 4) 30 (xB Z), xArr (t 0) (a 5) 12 E, xArr (t 0) (a 6) 144 B, xLng (t 2) o 1 f]) H9 := xl_keep hP hk9
    have hS := hS9
    rcases hr9 with hq9 | hq9
    · obtain rfl : E9 = eIO := by rw [hE9, hq9]; rfl
      refine xl_catch (E := eIO) (name := eIO) hown hTab [] (0, 10, 13, 19) [(0, 10, 17, 21)] rfl (fun _ h => nomatch h) (by decide) (by decide) (hts (.classLink RL 19 eIO) (by decide +kernel)) (va_Nw.use rfl (hXX.1.2.2.1 0)) hce9 hv9 hcl9 ?_
      refine lv_astore (lv' := [(4, .ref q9), (0, .ref (a 0)), (1, .int p0), (2, .int p1), (3, .ref o)]) hx hb dL_cut_13 hl (by decide) rfl (fun ls hl => ?_)
      refine lv_iconst (v := 1) hx hb dL_cut_15 (by decide) ?_
      subst hAe
      refine W.widen (k := 2) (n := 12) (Nat.le_of_ble_eq_true rfl) (Nat.le_of_ble_eq_true rfl) ?_
      refine vx_ret ?_
      obtain ⟨hq8, hf8⟩ := xm_end (S := Option (Unit)) (pu := (xLp (S := Unit) (kCut rc p0 p1))) (r := (xLr (S := Unit) (kCut rc p0 p1))) (wc := [xObj a tc rc ro, xArr (t 0) (a 1) 30 (xN F), xArr (t 0) (a 2) 30 (xN T), xArr (t 0) (a 3) 30 L, xArr (t 1) (a 4) 30 (xB Z), xArr (t 0) (a 5) 12 E, xArr (t 0) (a 6) 144 B, xLng (t 2) o 1 f]) (w1 := (xLw [xObj a tc rc ro, xArr (t 0) (a 1) 30 (xN F), xArr (t 0) (a 2) 30 (xN T), xArr (t 0) (a 3) 30 L, xArr (t 1) (a 4) 30 (xB Z), xArr (t 0) (a 5) 12 E, xArr (t 0) (a 6) 144 B, xLng (t 2) o 1 f] (fun u : Unit => [xObj a tc rc (sRo F T (upd L (ix p0) p1) Z tc rc E), xArr (t 0) (a 1) 30 (xN F), xArr (t 0) (a 2) 30 (xN T), xArr (t 0) (a 3) 30 (upd L (ix p0) p1), xArr (t 1) (a 4) 30 (xB Z), xArr (t 0) (a 5) 12 (sE F T (upd L (ix p0) p1) Z tc rc E), xArr (t 0) (a 6) 144 (sB F T (upd L (ix p0) p1) Z tc rc E B), xLng (t 2) o 1 (vp_updL f 0 (Int32.toInt64 (L (ix p0))))]))) (o := some (.int 1)) (args := ([.ref (a 0), .int p0, .int p1, .ref o] : List Value).toArray) (none) rfl hk0 (by show some (Value.int 1) = some (Value.int (nI (kCut rc p0 p1))); rw [hq9]; rfl) hP hD hS
      exact W.iret hx hb hr hq8 hf8 dL_cut_16 hlocks
    · obtain rfl : E9 = eIA := by rw [hE9, hq9]; rfl
      refine xl_catch (E := eIA) (name := eIA) hown hTab [(0, 10, 13, 19)] (0, 10, 17, 21) [] rfl (List.forall_mem_cons.mpr ⟨⟨by decide, _, hts (.classLink RL 19 eIO) (by decide +kernel), hXX.2.1⟩, (fun _ h => nomatch h)⟩) (by decide) (by decide) (hts (.classLink RL 21 eIA) (by decide +kernel)) (va_Nw.use rfl (hXX.1.2.2.1 1)) hce9 hv9 hcl9 ?_
      refine lv_astore (lv' := [(4, .ref q9), (0, .ref (a 0)), (1, .int p0), (2, .int p1), (3, .ref o)]) hx hb dL_cut_17 hl (by decide) rfl (fun ls hl => ?_)
      refine lv_iconst (v := 2) hx hb dL_cut_19 (by decide) ?_
      subst hAe
      refine W.widen (k := 2) (n := 12) (Nat.le_of_ble_eq_true rfl) (Nat.le_of_ble_eq_true rfl) ?_
      refine vx_ret ?_
      obtain ⟨hq8, hf8⟩ := xm_end (S := Option (Unit)) (pu := (xLp (S := Unit) (kCut rc p0 p1))) (r := (xLr (S := Unit) (kCut rc p0 p1))) (wc := [xObj a tc rc ro, xArr (t 0) (a 1) 30 (xN F), xArr (t 0) (a 2) 30 (xN T), xArr (t 0) (a 3) 30 L, xArr (t 1) (a 4) 30 (xB Z), xArr (t 0) (a 5) 12 E, xArr (t 0) (a 6) 144 B, xLng (t 2) o 1 f]) (w1 := (xLw [xObj a tc rc ro, xArr (t 0) (a 1) 30 (xN F), xArr (t 0) (a 2) 30 (xN T), xArr (t 0) (a 3) 30 L, xArr (t 1) (a 4) 30 (xB Z), xArr (t 0) (a 5) 12 E, xArr (t 0) (a 6) 144 B, xLng (t 2) o 1 f] (fun u : Unit => [xObj a tc rc (sRo F T (upd L (ix p0) p1) Z tc rc E), xArr (t 0) (a 1) 30 (xN F), xArr (t 0) (a 2) 30 (xN T), xArr (t 0) (a 3) 30 (upd L (ix p0) p1), xArr (t 1) (a 4) 30 (xB Z), xArr (t 0) (a 5) 12 (sE F T (upd L (ix p0) p1) Z tc rc E), xArr (t 0) (a 6) 144 (sB F T (upd L (ix p0) p1) Z tc rc E B), xLng (t 2) o 1 (vp_updL f 0 (Int32.toInt64 (L (ix p0))))]))) (o := some (.int 2)) (args := ([.ref (a 0), .int p0, .int p1, .ref o] : List Value).toArray) (none) rfl hk0 (by show some (Value.int 2) = some (Value.int (nI (kCut rc p0 p1))); rw [hq9]; rfl) hP hD hS
      exact W.iret hx hb hr hq8 hf8 dL_cut_20 hlocks
  have hP : va_P D vwCl ([xObj a tc rc (sRo F T (upd L (ix p0) p1) Z tc rc E), xArr (t 0) (a 1) 30 (xN F), xArr (t 0) (a 2) 30 (xN T), xArr (t 0) (a 3) 30 (upd L (ix p0) p1), xArr (t 1) (a 4) 30 (xB Z), xArr (t 0) (a 5) 12 (sE F T (upd L (ix p0) p1) Z tc rc E), xArr (t 0) (a 6) 144 (sB F T (upd L (ix p0) p1) Z tc rc E B), xLng (t 2) o 1 f]) H := hP.sub [1, 2, 3, 4, 5, 6, 7, 0] rfl
  have hD : va_D _ ([xObj a tc rc (sRo F T (upd L (ix p0) p1) Z tc rc E), xArr (t 0) (a 1) 30 (xN F), xArr (t 0) (a 2) 30 (xN T), xArr (t 0) (a 3) 30 (upd L (ix p0) p1), xArr (t 1) (a 4) 30 (xB Z), xArr (t 0) (a 5) 12 (sE F T (upd L (ix p0) p1) Z tc rc E), xArr (t 0) (a 6) 144 (sB F T (upd L (ix p0) p1) Z tc rc E B), xLng (t 2) o 1 f]) := hD.sub [1, 2, 3, 4, 5, 6, 7, 0] (by decide) rfl
  refine lv_i2l (x := L (ix p0)) (v := Int32.toInt64 (L (ix p0))) hx hb dL_cut_8 rfl ?_
  refine x_last hx hb hK hP hD hS 7 2 ([xObj a tc rc (sRo F T (upd L (ix p0) p1) Z tc rc E), xArr (t 0) (a 1) 30 (xN F), xArr (t 0) (a 2) 30 (xN T), xArr (t 0) (a 3) 30 (upd L (ix p0) p1), xArr (t 1) (a 4) 30 (xB Z), xArr (t 0) (a 5) 12 (sE F T (upd L (ix p0) p1) Z tc rc E), xArr (t 0) (a 6) 144 (sB F T (upd L (ix p0) p1) Z tc rc E B), xLng (t 2) o 1 (vp_updL f 0 (Int32.toInt64 (L (ix p0))))]) rfl rfl (k := 0) rfl (Nat.le_of_ble_eq_true rfl) (Nat.le_of_ble_eq_true rfl) dL_cut_9 (fun H locs hP hD hS => ?_)
  refine lv_goto (tgt := 21) hx hb dL_cut_10 (by decide) ?_
  refine lv_iconst (v := 0) hx hb dL_cut_21 (by decide) ?_
  subst hAe
  refine W.widen (k := 2) (n := 12) (Nat.le_of_ble_eq_true rfl) (Nat.le_of_ble_eq_true rfl) ?_
  refine vx_ret ?_
  obtain ⟨hq8, hf8⟩ := xm_end (S := Option (Unit)) (pu := (xLp (S := Unit) (kCut rc p0 p1))) (r := (xLr (S := Unit) (kCut rc p0 p1))) (wc := [xObj a tc rc ro, xArr (t 0) (a 1) 30 (xN F), xArr (t 0) (a 2) 30 (xN T), xArr (t 0) (a 3) 30 L, xArr (t 1) (a 4) 30 (xB Z), xArr (t 0) (a 5) 12 E, xArr (t 0) (a 6) 144 B, xLng (t 2) o 1 f]) (w1 := (xLw [xObj a tc rc ro, xArr (t 0) (a 1) 30 (xN F), xArr (t 0) (a 2) 30 (xN T), xArr (t 0) (a 3) 30 L, xArr (t 1) (a 4) 30 (xB Z), xArr (t 0) (a 5) 12 E, xArr (t 0) (a 6) 144 B, xLng (t 2) o 1 f] (fun u : Unit => [xObj a tc rc (sRo F T (upd L (ix p0) p1) Z tc rc E), xArr (t 0) (a 1) 30 (xN F), xArr (t 0) (a 2) 30 (xN T), xArr (t 0) (a 3) 30 (upd L (ix p0) p1), xArr (t 1) (a 4) 30 (xB Z), xArr (t 0) (a 5) 12 (sE F T (upd L (ix p0) p1) Z tc rc E), xArr (t 0) (a 6) 144 (sB F T (upd L (ix p0) p1) Z tc rc E B), xLng (t 2) o 1 (vp_updL f 0 (Int32.toInt64 (L (ix p0))))]))) (o := some (.int 0)) (args := ([.ref (a 0), .int p0, .int p1, .ref o] : List Value).toArray) (some ()) rfl (show (kCut rc p0 p1) = 0 from ok_1) rfl hP hD hS
  exact W.iret hx hb hr hq8 hf8 dL_cut_22 hlocks
set_option maxHeartbeats 4000000 in
set_option maxRecDepth 100000 in
theorem c_L_knot (l : Launch) (hfl : l.stackTraces = false) (D : va_G) (t : Nat → ClassId) (a : Nat → Nat) (tc rc : Nat) (ro : Int32) (F T : Nat → Nat) (L : Nat → Int32) (Z : Nat → Bool) (E B : Nat → Int32) (p0 : Int32) (o : Nat) (f : Nat → Int64) (N0 : Nat) (sa : Nat → Nat) (sz : Nat) (htc : tc ≤ 12) (hrc : rc ≤ 30) (hF : ∀ r, r < rc → F r < tc ∧ T r < tc) : vx_Met l yL_knot wsL_knot ({ frames := 8, cells := 1, slots := 6, locals := 134 }) (xMu D (xTy t) (xTl N0 sa) [.ref (a 0), .int p0, .ref o] [xObj a tc rc ro, xArr (t 0) (a 1) 30 (xN F), xArr (t 0) (a 2) 30 (xN T), xArr (t 0) (a 3) 30 L, xArr (t 1) (a 4) 30 (xB Z), xArr (t 0) (a 5) 12 E, xArr (t 0) (a 6) 144 B, xLng (t 2) o 1 f] sz) (xQm D (xLp (S := Unit) (kIn rc p0)) (xLr (S := Unit) (kIn rc p0)) [xObj a tc rc ro, xArr (t 0) (a 1) 30 (xN F), xArr (t 0) (a 2) 30 (xN T), xArr (t 0) (a 3) 30 L, xArr (t 1) (a 4) 30 (xB Z), xArr (t 0) (a 5) 12 E, xArr (t 0) (a 6) 144 B, xLng (t 2) o 1 f] (xLw [xObj a tc rc ro, xArr (t 0) (a 1) 30 (xN F), xArr (t 0) (a 2) 30 (xN T), xArr (t 0) (a 3) 30 L, xArr (t 1) (a 4) 30 (xB Z), xArr (t 0) (a 5) 12 E, xArr (t 0) (a 6) 144 B, xLng (t 2) o 1 f] (fun u : Unit => [xObj a tc rc (sRo F T L (updB Z (ix p0) (!(Z (ix p0)))) tc rc E), xArr (t 0) (a 1) 30 (xN F), xArr (t 0) (a 2) 30 (xN T), xArr (t 0) (a 3) 30 L, xArr (t 1) (a 4) 30 (xB (updB Z (ix p0) (!(Z (ix p0))))), xArr (t 0) (a 5) 12 (sE F T L (updB Z (ix p0) (!(Z (ix p0)))) tc rc E), xArr (t 0) (a 6) 144 (sB F T L (updB Z (ix p0) (!(Z (ix p0)))) tc rc E B), xLng (t 2) o 1 (vp_updL f 0 (Int32.toInt64 (bI (updB Z (ix p0) (!(Z (ix p0))) (ix p0)))))])) sz) (xXt (fun _ => False)) 1 6 (va_A [xObj a tc rc ro, xArr (t 0) (a 1) 30 (xN F), xArr (t 0) (a 2) 30 (xN T), xArr (t 0) (a 3) 30 L, xArr (t 1) (a 4) 30 (xB Z), xArr (t 0) (a 5) 12 E, xArr (t 0) (a 6) 144 B, xLng (t 2) o 1 f] sz) := by
  refine vx_ofWH (cc := cL_knot) (maxL := 4) (ret := (some .int)) (by decide) rfl ?_
  intro p e s m args below meth c s₁ hB9 hml hv
  obtain ⟨rfl, hsz, hP, hK, hD0, hXX⟩ := hv
  have hx := hB9.exec
  have hb := hB9.bytes
  have hr := hB9.returns
  have hts := atoms_spec (ws := wsL_knot) hB9.pre
  have hown : s.vm.findClass RL = some m.cls := findClass_of_methodNamed hB9.named
  have hlocks := hB9.notSynchronized
  have hTab := vx_table (x := yL_knot) hB9 (hts (.codeWith yL_knot cL_knot 4 (some .int) [(0, 16, 19, 19)]) List.mem_cons_self)
  subst hsz
  have hD := hD0.self (sz := s.heap.size)
  generalize hAe : va_A ([xObj a tc rc ro, xArr (t 0) (a 1) 30 (xN F), xArr (t 0) (a 2) 30 (xN T), xArr (t 0) (a 3) 30 L, xArr (t 1) (a 4) 30 (xB Z), xArr (t 0) (a 5) 12 E, xArr (t 0) (a 6) 144 B, xLng (t 2) o 1 f]) s.heap.size = A at hD ⊢
  have hA : ∀ q : Nat, s.heap.size ≤ q → A q := fun q h => by rw [← hAe]; exact Or.inr h
  have hS : va_S A s.heap s.heap [] := va_S.rf
  have hP : va_P D vwCl ([xObj a tc rc ro, xArr (t 0) (a 1) 30 (xN F), xArr (t 0) (a 2) 30 (xN T), xArr (t 0) (a 3) 30 L, xArr (t 1) (a 4) 30 (xB Z), xArr (t 0) (a 5) 12 E, xArr (t 0) (a 6) 144 B, xLng (t 2) o 1 f]) s.heap := hP
  have hD : va_D A ([xObj a tc rc ro, xArr (t 0) (a 1) 30 (xN F), xArr (t 0) (a 2) 30 (xN T), xArr (t 0) (a 3) 30 L, xArr (t 1) (a 4) 30 (xB Z), xArr (t 0) (a 5) 12 E, xArr (t 0) (a 6) 144 B, xLng (t 2) o 1 f]) := hD
  have hl := lv_entry ([.ref (a 0), .int p0, .ref o]) (n := 4) (Nat.le_of_ble_eq_true rfl)
  rw [lg_entry_eq]
  generalize (lg_sl ([.ref (a 0), .int p0, .ref o]) ++ List.replicate (4 - (lg_sl ([.ref (a 0), .int p0, .ref o])).length) Slot.unset).toArray = ls at hl ⊢
  have hl : lv_has ls 4 [(0, .ref (a 0)), (1, .int p0), (2, .ref o)] := hl
  refine lv_aload_n hx hb dL_knot_0 rfl (lv_at hl 2 rfl) ?_
  refine lv_iconst (v := 0) hx hb dL_knot_1 (by decide) ?_
  refine lv_aload_n hx hb dL_knot_2 rfl (lv_at hl 0 rfl) ?_
  refine lv_iload_n hx hb dL_knot_3 rfl (lv_at hl 1 rfl) ?_
  refine xmt_V (b := a 0) (As := [.int p0]) (rest := [.int 0, .ref o]) (wr := [xLng (t 2) o 1 f]) ⟨hx, hb, hml, hown, hts⟩ (xTh.trav _ _) (c_X0_knot l hfl D t a tc rc ro F T L Z E B p0 N0 sa _ htc hrc hF) (cwV 1 hts gL_knot_X0_knot rfl rfl rfl hd_X0_knot ⟨Nat.le_of_ble_eq_true rfl, Nat.le_of_ble_eq_true rfl⟩) hK hP hD hS hA (fun U hW hU => xTh.warm hW (fun q _ _ => by rw [hU]) hXX.1) (va_recv hK hP (ci := 0) (q0 := 0) rfl rfl) [0, 1, 2, 3, 4, 5, 6] [7] rfl rfl (by decide) (by decide) (by decide) rfl hl.1 rfl (Nat.le_of_ble_eq_true rfl) dL_knot_4 ⟨(Nat.le_of_ble_eq_true rfl), (Nat.le_of_ble_eq_true rfl)⟩ (fun E9 ce9 q9 H9 locs9 hbad hz9 hk9 hS9 hce9 hv9 hcl9 => ?_) (fun u_2 H locs ok_1 hP hD hS hz => ?_)
  · obtain ⟨hE9, hk0⟩ := hbad
    have hr9 : (kIn rc p0) = 1 := by revert hk0; unfold kIn; (repeat' split) <;> simp
    have hP : va_P D vwCl ([xObj a tc rc ro, xArr (t 0) (a 1) 30 (xN F), xArr (t 0) (a 2) 30 (xN T), xArr (t 0) (a 3) 30 L, xArr (t 1) (a 4) 30 (xB Z), xArr (t 0) (a 5) 12 E, xArr (t 0) (a 6) 144 B, xLng (t 2) o 1 f]) H9 := xl_keep hP hk9
    have hS := hS9
    have hq9 := hr9
    obtain rfl : E9 = eIO := by rw [hE9, hq9]; rfl
    refine xl_catch (E := eIO) (name := eIO) hown hTab [] (0, 16, 19, 19) [] rfl (fun _ h => nomatch h) (by decide) (by decide) (hts (.classLink RL 19 eIO) (by decide +kernel)) (va_Nw.use rfl (hXX.1.2.2.1 0)) hce9 hv9 hcl9 ?_
    refine lv_astore_n (lv' := [(3, .ref q9), (0, .ref (a 0)), (1, .int p0), (2, .ref o)]) hx hb dL_knot_19 rfl hl (by decide) rfl (fun ls hl => ?_)
    refine lv_iconst (v := 1) hx hb dL_knot_20 (by decide) ?_
    subst hAe
    refine W.widen (k := 1) (n := 6) (Nat.le_of_ble_eq_true rfl) (Nat.le_of_ble_eq_true rfl) ?_
    refine vx_ret ?_
    obtain ⟨hq8, hf8⟩ := xm_end (S := Option (Unit)) (pu := (xLp (S := Unit) (kIn rc p0))) (r := (xLr (S := Unit) (kIn rc p0))) (wc := [xObj a tc rc ro, xArr (t 0) (a 1) 30 (xN F), xArr (t 0) (a 2) 30 (xN T), xArr (t 0) (a 3) 30 L, xArr (t 1) (a 4) 30 (xB Z), xArr (t 0) (a 5) 12 E, xArr (t 0) (a 6) 144 B, xLng (t 2) o 1 f]) (w1 := (xLw [xObj a tc rc ro, xArr (t 0) (a 1) 30 (xN F), xArr (t 0) (a 2) 30 (xN T), xArr (t 0) (a 3) 30 L, xArr (t 1) (a 4) 30 (xB Z), xArr (t 0) (a 5) 12 E, xArr (t 0) (a 6) 144 B, xLng (t 2) o 1 f] (fun u : Unit => [xObj a tc rc (sRo F T L (updB Z (ix p0) (!(Z (ix p0)))) tc rc E), xArr (t 0) (a 1) 30 (xN F), xArr (t 0) (a 2) 30 (xN T), xArr (t 0) (a 3) 30 L, xArr (t 1) (a 4) 30 (xB (updB Z (ix p0) (!(Z (ix p0))))), xArr (t 0) (a 5) 12 (sE F T L (updB Z (ix p0) (!(Z (ix p0)))) tc rc E), xArr (t 0) (a 6) 144 (sB F T L (updB Z (ix p0) (!(Z (ix p0)))) tc rc E B), xLng (t 2) o 1 (vp_updL f 0 (Int32.toInt64 (bI (updB Z (ix p0) (!(Z (ix p0))) (ix p0)))))]))) (o := some (.int 1)) (args := ([.ref (a 0), .int p0, .ref o] : List Value).toArray) (none) rfl hk0 (by show some (Value.int 1) = some (Value.int (nI (kIn rc p0))); rw [hq9]; rfl) hP hD hS
    exact W.iret hx hb hr hq8 hf8 dL_knot_21 hlocks
  have hP : va_P D vwCl ([xObj a tc rc (sRo F T L (updB Z (ix p0) (!(Z (ix p0)))) tc rc E), xArr (t 0) (a 1) 30 (xN F), xArr (t 0) (a 2) 30 (xN T), xArr (t 0) (a 3) 30 L, xArr (t 1) (a 4) 30 (xB (updB Z (ix p0) (!(Z (ix p0))))), xArr (t 0) (a 5) 12 (sE F T L (updB Z (ix p0) (!(Z (ix p0)))) tc rc E), xArr (t 0) (a 6) 144 (sB F T L (updB Z (ix p0) (!(Z (ix p0)))) tc rc E B), xLng (t 2) o 1 f]) H := hP.sub [1, 2, 3, 4, 5, 6, 7, 0] rfl
  have hD : va_D _ ([xObj a tc rc (sRo F T L (updB Z (ix p0) (!(Z (ix p0)))) tc rc E), xArr (t 0) (a 1) 30 (xN F), xArr (t 0) (a 2) 30 (xN T), xArr (t 0) (a 3) 30 L, xArr (t 1) (a 4) 30 (xB (updB Z (ix p0) (!(Z (ix p0))))), xArr (t 0) (a 5) 12 (sE F T L (updB Z (ix p0) (!(Z (ix p0)))) tc rc E), xArr (t 0) (a 6) 144 (sB F T L (updB Z (ix p0) (!(Z (ix p0)))) tc rc E B), xLng (t 2) o 1 f]) := hD.sub [1, 2, 3, 4, 5, 6, 7, 0] (by decide) rfl
  refine lv_if_eq (x := bI (updB Z (ix p0) (!(Z (ix p0))) (ix p0))) (tgt := 14) hx hb dL_knot_7 (by decide) (fun c_3 => ?_) (fun c_3 => ?_)
  · have c_3 := bI_0 c_3
    refine lv_lconst (v := 0) hx hb dL_knot_14 rfl ?_
    refine x_topL (w := Int32.toInt64 (bI (updB Z (ix p0) (!(Z (ix p0))) (ix p0)))) (by rw [c_3]; rfl) ?_
    refine x_last hx hb hK hP hD hS 7 2 ([xObj a tc rc (sRo F T L (updB Z (ix p0) (!(Z (ix p0)))) tc rc E), xArr (t 0) (a 1) 30 (xN F), xArr (t 0) (a 2) 30 (xN T), xArr (t 0) (a 3) 30 L, xArr (t 1) (a 4) 30 (xB (updB Z (ix p0) (!(Z (ix p0))))), xArr (t 0) (a 5) 12 (sE F T L (updB Z (ix p0) (!(Z (ix p0)))) tc rc E), xArr (t 0) (a 6) 144 (sB F T L (updB Z (ix p0) (!(Z (ix p0)))) tc rc E B), xLng (t 2) o 1 (vp_updL f 0 (Int32.toInt64 (bI (updB Z (ix p0) (!(Z (ix p0))) (ix p0)))))]) rfl rfl (k := 0) rfl (Nat.le_of_ble_eq_true rfl) (Nat.le_of_ble_eq_true rfl) dL_knot_15 (fun H locs hP hD hS => ?_)
    refine lv_goto (tgt := 22) hx hb dL_knot_16 (by decide) ?_
    refine lv_iconst (v := 0) hx hb dL_knot_22 (by decide) ?_
    subst hAe
    refine W.widen (k := 1) (n := 6) (Nat.le_of_ble_eq_true rfl) (Nat.le_of_ble_eq_true rfl) ?_
    refine vx_ret ?_
    obtain ⟨hq8, hf8⟩ := xm_end (S := Option (Unit)) (pu := (xLp (S := Unit) (kIn rc p0))) (r := (xLr (S := Unit) (kIn rc p0))) (wc := [xObj a tc rc ro, xArr (t 0) (a 1) 30 (xN F), xArr (t 0) (a 2) 30 (xN T), xArr (t 0) (a 3) 30 L, xArr (t 1) (a 4) 30 (xB Z), xArr (t 0) (a 5) 12 E, xArr (t 0) (a 6) 144 B, xLng (t 2) o 1 f]) (w1 := (xLw [xObj a tc rc ro, xArr (t 0) (a 1) 30 (xN F), xArr (t 0) (a 2) 30 (xN T), xArr (t 0) (a 3) 30 L, xArr (t 1) (a 4) 30 (xB Z), xArr (t 0) (a 5) 12 E, xArr (t 0) (a 6) 144 B, xLng (t 2) o 1 f] (fun u : Unit => [xObj a tc rc (sRo F T L (updB Z (ix p0) (!(Z (ix p0)))) tc rc E), xArr (t 0) (a 1) 30 (xN F), xArr (t 0) (a 2) 30 (xN T), xArr (t 0) (a 3) 30 L, xArr (t 1) (a 4) 30 (xB (updB Z (ix p0) (!(Z (ix p0))))), xArr (t 0) (a 5) 12 (sE F T L (updB Z (ix p0) (!(Z (ix p0)))) tc rc E), xArr (t 0) (a 6) 144 (sB F T L (updB Z (ix p0) (!(Z (ix p0)))) tc rc E B), xLng (t 2) o 1 (vp_updL f 0 (Int32.toInt64 (bI (updB Z (ix p0) (!(Z (ix p0))) (ix p0)))))]))) (o := some (.int 0)) (args := ([.ref (a 0), .int p0, .ref o] : List Value).toArray) (some ()) rfl (show (kIn rc p0) = 0 from ok_1) rfl hP hD hS
    exact W.iret hx hb hr hq8 hf8 dL_knot_23 hlocks
  · have c_3 := bI_n0 c_3
    refine lv_lconst (v := 1) hx hb dL_knot_10 rfl ?_
    refine lv_goto (tgt := 15) hx hb dL_knot_11 (by decide) ?_
    refine x_topL (w := Int32.toInt64 (bI (updB Z (ix p0) (!(Z (ix p0))) (ix p0)))) (by rw [c_3]; rfl) ?_
    refine x_last hx hb hK hP hD hS 7 2 ([xObj a tc rc (sRo F T L (updB Z (ix p0) (!(Z (ix p0)))) tc rc E), xArr (t 0) (a 1) 30 (xN F), xArr (t 0) (a 2) 30 (xN T), xArr (t 0) (a 3) 30 L, xArr (t 1) (a 4) 30 (xB (updB Z (ix p0) (!(Z (ix p0))))), xArr (t 0) (a 5) 12 (sE F T L (updB Z (ix p0) (!(Z (ix p0)))) tc rc E), xArr (t 0) (a 6) 144 (sB F T L (updB Z (ix p0) (!(Z (ix p0)))) tc rc E B), xLng (t 2) o 1 (vp_updL f 0 (Int32.toInt64 (bI (updB Z (ix p0) (!(Z (ix p0))) (ix p0)))))]) rfl rfl (k := 0) rfl (Nat.le_of_ble_eq_true rfl) (Nat.le_of_ble_eq_true rfl) dL_knot_15 (fun H locs hP hD hS => ?_)
    refine lv_goto (tgt := 22) hx hb dL_knot_16 (by decide) ?_
    refine lv_iconst (v := 0) hx hb dL_knot_22 (by decide) ?_
    subst hAe
    refine W.widen (k := 1) (n := 6) (Nat.le_of_ble_eq_true rfl) (Nat.le_of_ble_eq_true rfl) ?_
    refine vx_ret ?_
    obtain ⟨hq8, hf8⟩ := xm_end (S := Option (Unit)) (pu := (xLp (S := Unit) (kIn rc p0))) (r := (xLr (S := Unit) (kIn rc p0))) (wc := [xObj a tc rc ro, xArr (t 0) (a 1) 30 (xN F), xArr (t 0) (a 2) 30 (xN T), xArr (t 0) (a 3) 30 L, xArr (t 1) (a 4) 30 (xB Z), xArr (t 0) (a 5) 12 E, xArr (t 0) (a 6) 144 B, xLng (t 2) o 1 f]) (w1 := (xLw [xObj a tc rc ro, xArr (t 0) (a 1) 30 (xN F), xArr (t 0) (a 2) 30 (xN T), xArr (t 0) (a 3) 30 L, xArr (t 1) (a 4) 30 (xB Z), xArr (t 0) (a 5) 12 E, xArr (t 0) (a 6) 144 B, xLng (t 2) o 1 f] (fun u : Unit => [xObj a tc rc (sRo F T L (updB Z (ix p0) (!(Z (ix p0)))) tc rc E), xArr (t 0) (a 1) 30 (xN F), xArr (t 0) (a 2) 30 (xN T), xArr (t 0) (a 3) 30 L, xArr (t 1) (a 4) 30 (xB (updB Z (ix p0) (!(Z (ix p0))))), xArr (t 0) (a 5) 12 (sE F T L (updB Z (ix p0) (!(Z (ix p0)))) tc rc E), xArr (t 0) (a 6) 144 (sB F T L (updB Z (ix p0) (!(Z (ix p0)))) tc rc E B), xLng (t 2) o 1 (vp_updL f 0 (Int32.toInt64 (bI (updB Z (ix p0) (!(Z (ix p0))) (ix p0)))))]))) (o := some (.int 0)) (args := ([.ref (a 0), .int p0, .ref o] : List Value).toArray) (some ()) rfl (show (kIn rc p0) = 0 from ok_1) rfl hP hD hS
    exact W.iret hx hb hr hq8 hf8 dL_knot_23 hlocks
set_option maxHeartbeats 4000000 in
set_option maxRecDepth 100000 in
theorem c_L_told (l : Launch) (hfl : l.stackTraces = false) (D : va_G) (t : Nat → ClassId) (a : Nat → Nat) (tc rc : Nat) (ro : Int32) (F T : Nat → Nat) (L : Nat → Int32) (Z : Nat → Bool) (E : Nat → Int32) (p0 p1 : Int32) (o : Nat) (f : Nat → Int64) (N0 : Nat) (sa : Nat → Nat) (sz : Nat) (htc : tc ≤ 12) (hrc : rc ≤ 30) (hF : ∀ r, r < rc → F r < tc ∧ T r < tc) : vx_Met l yL_told wsL_told ({ frames := 8, cells := 2, slots := 12, locals := 135 }) (xMu D (xTy t) (xTl N0 sa) [.ref (a 0), .int p0, .int p1, .ref o] [xObj a tc rc ro, xArr (t 0) (a 1) 30 (xN F), xArr (t 0) (a 2) 30 (xN T), xArr (t 0) (a 3) 30 L, xArr (t 1) (a 4) 30 (xB Z), xArr (t 0) (a 5) 12 E, xLng (t 2) o 1 f] sz) (xQm D (xLp (S := Unit) (kIn2 rc 5 p0 p1)) (xLr (S := Unit) (kIn2 rc 5 p0 p1)) [xObj a tc rc ro, xArr (t 0) (a 1) 30 (xN F), xArr (t 0) (a 2) 30 (xN T), xArr (t 0) (a 3) 30 L, xArr (t 1) (a 4) 30 (xB Z), xArr (t 0) (a 5) 12 E, xLng (t 2) o 1 f] (xLw [xObj a tc rc ro, xArr (t 0) (a 1) 30 (xN F), xArr (t 0) (a 2) 30 (xN T), xArr (t 0) (a 3) 30 L, xArr (t 1) (a 4) 30 (xB Z), xArr (t 0) (a 5) 12 E, xLng (t 2) o 1 f] (fun u : Unit => [xObj a tc rc ro, xArr (t 0) (a 1) 30 (xN F), xArr (t 0) (a 2) 30 (xN T), xArr (t 0) (a 3) 30 L, xArr (t 1) (a 4) 30 (xB Z), xArr (t 0) (a 5) 12 E, xLng (t 2) o 1 (vp_updL f 0 (Int32.toInt64 (toldF ro E F T L Z (ix p0) (ix p1))))])) sz) (xXt (fun _ => False)) 2 12 (va_A [xObj a tc rc ro, xArr (t 0) (a 1) 30 (xN F), xArr (t 0) (a 2) 30 (xN T), xArr (t 0) (a 3) 30 L, xArr (t 1) (a 4) 30 (xB Z), xArr (t 0) (a 5) 12 E, xLng (t 2) o 1 f] sz) := by
  refine vx_ofWH (cc := cL_told) (maxL := 5) (ret := (some .int)) (by decide) rfl ?_
  intro p e s m args below meth c s₁ hB9 hml hv
  obtain ⟨rfl, hsz, hP, hK, hD0, hXX⟩ := hv
  have hx := hB9.exec
  have hb := hB9.bytes
  have hr := hB9.returns
  have hts := atoms_spec (ws := wsL_told) hB9.pre
  have hown : s.vm.findClass RL = some m.cls := findClass_of_methodNamed hB9.named
  have hlocks := hB9.notSynchronized
  have hTab := vx_table (x := yL_told) hB9 (hts (.codeWith yL_told cL_told 5 (some .int) [(0, 10, 13, 19)]) List.mem_cons_self)
  subst hsz
  have hD := hD0.self (sz := s.heap.size)
  generalize hAe : va_A ([xObj a tc rc ro, xArr (t 0) (a 1) 30 (xN F), xArr (t 0) (a 2) 30 (xN T), xArr (t 0) (a 3) 30 L, xArr (t 1) (a 4) 30 (xB Z), xArr (t 0) (a 5) 12 E, xLng (t 2) o 1 f]) s.heap.size = A at hD ⊢
  have hA : ∀ q : Nat, s.heap.size ≤ q → A q := fun q h => by rw [← hAe]; exact Or.inr h
  have hS : va_S A s.heap s.heap [] := va_S.rf
  have hP : va_P D vwCl ([xObj a tc rc ro, xArr (t 0) (a 1) 30 (xN F), xArr (t 0) (a 2) 30 (xN T), xArr (t 0) (a 3) 30 L, xArr (t 1) (a 4) 30 (xB Z), xArr (t 0) (a 5) 12 E, xLng (t 2) o 1 f]) s.heap := hP
  have hD : va_D A ([xObj a tc rc ro, xArr (t 0) (a 1) 30 (xN F), xArr (t 0) (a 2) 30 (xN T), xArr (t 0) (a 3) 30 L, xArr (t 1) (a 4) 30 (xB Z), xArr (t 0) (a 5) 12 E, xLng (t 2) o 1 f]) := hD
  have hl := lv_entry ([.ref (a 0), .int p0, .int p1, .ref o]) (n := 5) (Nat.le_of_ble_eq_true rfl)
  rw [lg_entry_eq]
  generalize (lg_sl ([.ref (a 0), .int p0, .int p1, .ref o]) ++ List.replicate (5 - (lg_sl ([.ref (a 0), .int p0, .int p1, .ref o])).length) Slot.unset).toArray = ls at hl ⊢
  have hl : lv_has ls 5 [(0, .ref (a 0)), (1, .int p0), (2, .int p1), (3, .ref o)] := hl
  refine lv_aload_n hx hb dL_told_0 rfl (lv_at hl 3 rfl) ?_
  refine lv_iconst (v := 0) hx hb dL_told_1 (by decide) ?_
  refine lv_aload_n hx hb dL_told_2 rfl (lv_at hl 0 rfl) ?_
  refine lv_iload_n hx hb dL_told_3 rfl (lv_at hl 1 rfl) ?_
  refine lv_iload_n hx hb dL_told_4 rfl (lv_at hl 2 rfl) ?_
  refine xt_V (b := a 0) (As := [.int p0, .int p1]) (rest := [.int 0, .ref o]) ⟨hx, hb, hml, hown, hts⟩ (c_X0_told l hfl D t a tc rc ro F T L Z E p0 p1 N0 sa htc hrc hF) (cwV 2 hts gL_told_X0_told rfl rfl rfl hd_X0_told ⟨Nat.le_of_ble_eq_true rfl, Nat.le_of_ble_eq_true rfl⟩) hK hP (fun U hW hU => xTh.warm hW (fun q _ _ => by rw [hU]) hXX.1) (va_recv hK hP (ci := 0) (q0 := 0) rfl rfl) [0, 1, 2, 3, 4, 5] rfl rfl hl.1 rfl (Nat.le_of_ble_eq_true rfl) dL_told_5 ⟨(Nat.le_of_ble_eq_true rfl), (Nat.le_of_ble_eq_true rfl)⟩ (fun E9 ce9 q9 H9 hbad hz9 hk9 hce9 hv9 hcl9 => ?_) (fun ok_1 => ?_)
  · obtain ⟨hE9, hk0⟩ := hbad
    have hr9 : (kIn2 rc 5 p0 p1) = 1 := by revert hk0; unfold kIn2; (repeat' split) <;> simp
    have hP : va_P D vwCl ([xObj a tc rc ro, xArr (t 0) (a 1) 30 (xN F), xArr (t 0) (a 2) 30 (xN T), xArr (t 0) (a 3) 30 L, xArr (t 1) (a 4) 30 (xB Z), xArr (t 0) (a 5) 12 E, xLng (t 2) o 1 f]) H9 := xl_keep hP hk9
    have hS : va_S A s.heap H9 _ := xl_S9 hS hz9 hk9
    have hq9 := hr9
    obtain rfl : E9 = eIO := by rw [hE9, hq9]; rfl
    refine xl_catch (E := eIO) (name := eIO) hown hTab [] (0, 10, 13, 19) [] rfl (fun _ h => nomatch h) (by decide) (by decide) (hts (.classLink RL 19 eIO) (by decide +kernel)) (va_Nw.use rfl (hXX.1.2.2.1 0)) hce9 hv9 hcl9 ?_
    refine lv_astore (lv' := [(4, .ref q9), (0, .ref (a 0)), (1, .int p0), (2, .int p1), (3, .ref o)]) hx hb dL_told_13 hl (by decide) rfl (fun ls hl => ?_)
    refine lv_iconst (v := 1) hx hb dL_told_15 (by decide) ?_
    subst hAe
    refine W.widen (k := 2) (n := 12) (Nat.le_of_ble_eq_true rfl) (Nat.le_of_ble_eq_true rfl) ?_
    refine vx_ret ?_
    obtain ⟨hq8, hf8⟩ := xm_end (S := Option (Unit)) (pu := (xLp (S := Unit) (kIn2 rc 5 p0 p1))) (r := (xLr (S := Unit) (kIn2 rc 5 p0 p1))) (wc := [xObj a tc rc ro, xArr (t 0) (a 1) 30 (xN F), xArr (t 0) (a 2) 30 (xN T), xArr (t 0) (a 3) 30 L, xArr (t 1) (a 4) 30 (xB Z), xArr (t 0) (a 5) 12 E, xLng (t 2) o 1 f]) (w1 := (xLw [xObj a tc rc ro, xArr (t 0) (a 1) 30 (xN F), xArr (t 0) (a 2) 30 (xN T), xArr (t 0) (a 3) 30 L, xArr (t 1) (a 4) 30 (xB Z), xArr (t 0) (a 5) 12 E, xLng (t 2) o 1 f] (fun u : Unit => [xObj a tc rc ro, xArr (t 0) (a 1) 30 (xN F), xArr (t 0) (a 2) 30 (xN T), xArr (t 0) (a 3) 30 L, xArr (t 1) (a 4) 30 (xB Z), xArr (t 0) (a 5) 12 E, xLng (t 2) o 1 (vp_updL f 0 (Int32.toInt64 (toldF ro E F T L Z (ix p0) (ix p1))))]))) (o := some (.int 1)) (args := ([.ref (a 0), .int p0, .int p1, .ref o] : List Value).toArray) (none) rfl hk0 (by show some (Value.int 1) = some (Value.int (nI (kIn2 rc 5 p0 p1))); rw [hq9]; rfl) hP hD hS
    exact W.iret hx hb hr hq8 hf8 dL_told_16 hlocks
  refine lv_i2l (x := toldF ro E F T L Z (ix p0) (ix p1)) (v := Int32.toInt64 (toldF ro E F T L Z (ix p0) (ix p1))) hx hb dL_told_8 rfl ?_
  refine x_last hx hb hK hP hD hS 6 2 ([xObj a tc rc ro, xArr (t 0) (a 1) 30 (xN F), xArr (t 0) (a 2) 30 (xN T), xArr (t 0) (a 3) 30 L, xArr (t 1) (a 4) 30 (xB Z), xArr (t 0) (a 5) 12 E, xLng (t 2) o 1 (vp_updL f 0 (Int32.toInt64 (toldF ro E F T L Z (ix p0) (ix p1))))]) rfl rfl (k := 0) rfl (Nat.le_of_ble_eq_true rfl) (Nat.le_of_ble_eq_true rfl) dL_told_9 (fun H locs hP hD hS => ?_)
  refine lv_goto (tgt := 17) hx hb dL_told_10 (by decide) ?_
  refine lv_iconst (v := 0) hx hb dL_told_17 (by decide) ?_
  subst hAe
  refine W.widen (k := 2) (n := 12) (Nat.le_of_ble_eq_true rfl) (Nat.le_of_ble_eq_true rfl) ?_
  refine vx_ret ?_
  obtain ⟨hq8, hf8⟩ := xm_end (S := Option (Unit)) (pu := (xLp (S := Unit) (kIn2 rc 5 p0 p1))) (r := (xLr (S := Unit) (kIn2 rc 5 p0 p1))) (wc := [xObj a tc rc ro, xArr (t 0) (a 1) 30 (xN F), xArr (t 0) (a 2) 30 (xN T), xArr (t 0) (a 3) 30 L, xArr (t 1) (a 4) 30 (xB Z), xArr (t 0) (a 5) 12 E, xLng (t 2) o 1 f]) (w1 := (xLw [xObj a tc rc ro, xArr (t 0) (a 1) 30 (xN F), xArr (t 0) (a 2) 30 (xN T), xArr (t 0) (a 3) 30 L, xArr (t 1) (a 4) 30 (xB Z), xArr (t 0) (a 5) 12 E, xLng (t 2) o 1 f] (fun u : Unit => [xObj a tc rc ro, xArr (t 0) (a 1) 30 (xN F), xArr (t 0) (a 2) 30 (xN T), xArr (t 0) (a 3) 30 L, xArr (t 1) (a 4) 30 (xB Z), xArr (t 0) (a 5) 12 E, xLng (t 2) o 1 (vp_updL f 0 (Int32.toInt64 (toldF ro E F T L Z (ix p0) (ix p1))))]))) (o := some (.int 0)) (args := ([.ref (a 0), .int p0, .int p1, .ref o] : List Value).toArray) (some ()) rfl (show (kIn2 rc 5 p0 p1) = 0 from ok_1) rfl hP hD hS
  exact W.iret hx hb hr hq8 hf8 dL_told_18 hlocks
set_option maxHeartbeats 4000000 in
set_option maxRecDepth 100000 in
theorem c_L_about (l : Launch) (hfl : l.stackTraces = false) (D : va_G) (t : Nat → ClassId) (a : Nat → Nat) (tc rc : Nat) (ro : Int32) (F T : Nat → Nat) (Z : Nat → Bool) (E : Nat → Int32) (p0 p1 : Int32) (o : Nat) (f : Nat → Int64) (N0 : Nat) (sa : Nat → Nat) (sz : Nat) (htc : tc ≤ 12) (hrc : rc ≤ 30) (hF : ∀ r, r < rc → F r < tc ∧ T r < tc) : vx_Met l yL_about wsL_about ({ frames := 8, cells := 2, slots := 12, locals := 135 }) (xMu D (xTy t) (xTl N0 sa) [.ref (a 0), .int p0, .int p1, .ref o] [xObj a tc rc ro, xArr (t 0) (a 1) 30 (xN F), xArr (t 0) (a 2) 30 (xN T), xArr (t 1) (a 4) 30 (xB Z), xArr (t 0) (a 5) 12 E, xLng (t 2) o 1 f] sz) (xQm D (xLp (S := Unit) (kIn2 tc 3 p0 p1)) (xLr (S := Unit) (kIn2 tc 3 p0 p1)) [xObj a tc rc ro, xArr (t 0) (a 1) 30 (xN F), xArr (t 0) (a 2) 30 (xN T), xArr (t 1) (a 4) 30 (xB Z), xArr (t 0) (a 5) 12 E, xLng (t 2) o 1 f] (xLw [xObj a tc rc ro, xArr (t 0) (a 1) 30 (xN F), xArr (t 0) (a 2) 30 (xN T), xArr (t 1) (a 4) 30 (xB Z), xArr (t 0) (a 5) 12 E, xLng (t 2) o 1 f] (fun u : Unit => [xObj a tc rc ro, xArr (t 0) (a 1) 30 (xN F), xArr (t 0) (a 2) 30 (xN T), xArr (t 1) (a 4) 30 (xB Z), xArr (t 0) (a 5) 12 E, xLng (t 2) o 1 (vp_updL f 0 (Int32.toInt64 (aboutF ro E F T Z rc (ix p0) (ix p1))))])) sz) (xXt (fun _ => False)) 2 12 (va_A [xObj a tc rc ro, xArr (t 0) (a 1) 30 (xN F), xArr (t 0) (a 2) 30 (xN T), xArr (t 1) (a 4) 30 (xB Z), xArr (t 0) (a 5) 12 E, xLng (t 2) o 1 f] sz) := by
  refine vx_ofWH (cc := cL_about) (maxL := 5) (ret := (some .int)) (by decide) rfl ?_
  intro p e s m args below meth c s₁ hB9 hml hv
  obtain ⟨rfl, hsz, hP, hK, hD0, hXX⟩ := hv
  have hx := hB9.exec
  have hb := hB9.bytes
  have hr := hB9.returns
  have hts := atoms_spec (ws := wsL_about) hB9.pre
  have hown : s.vm.findClass RL = some m.cls := findClass_of_methodNamed hB9.named
  have hlocks := hB9.notSynchronized
  have hTab := vx_table (x := yL_about) hB9 (hts (.codeWith yL_about cL_about 5 (some .int) [(0, 10, 13, 19)]) List.mem_cons_self)
  subst hsz
  have hD := hD0.self (sz := s.heap.size)
  generalize hAe : va_A ([xObj a tc rc ro, xArr (t 0) (a 1) 30 (xN F), xArr (t 0) (a 2) 30 (xN T), xArr (t 1) (a 4) 30 (xB Z), xArr (t 0) (a 5) 12 E, xLng (t 2) o 1 f]) s.heap.size = A at hD ⊢
  have hA : ∀ q : Nat, s.heap.size ≤ q → A q := fun q h => by rw [← hAe]; exact Or.inr h
  have hS : va_S A s.heap s.heap [] := va_S.rf
  have hP : va_P D vwCl ([xObj a tc rc ro, xArr (t 0) (a 1) 30 (xN F), xArr (t 0) (a 2) 30 (xN T), xArr (t 1) (a 4) 30 (xB Z), xArr (t 0) (a 5) 12 E, xLng (t 2) o 1 f]) s.heap := hP
  have hD : va_D A ([xObj a tc rc ro, xArr (t 0) (a 1) 30 (xN F), xArr (t 0) (a 2) 30 (xN T), xArr (t 1) (a 4) 30 (xB Z), xArr (t 0) (a 5) 12 E, xLng (t 2) o 1 f]) := hD
  have hl := lv_entry ([.ref (a 0), .int p0, .int p1, .ref o]) (n := 5) (Nat.le_of_ble_eq_true rfl)
  rw [lg_entry_eq]
  generalize (lg_sl ([.ref (a 0), .int p0, .int p1, .ref o]) ++ List.replicate (5 - (lg_sl ([.ref (a 0), .int p0, .int p1, .ref o])).length) Slot.unset).toArray = ls at hl ⊢
  have hl : lv_has ls 5 [(0, .ref (a 0)), (1, .int p0), (2, .int p1), (3, .ref o)] := hl
  refine lv_aload_n hx hb dL_about_0 rfl (lv_at hl 3 rfl) ?_
  refine lv_iconst (v := 0) hx hb dL_about_1 (by decide) ?_
  refine lv_aload_n hx hb dL_about_2 rfl (lv_at hl 0 rfl) ?_
  refine lv_iload_n hx hb dL_about_3 rfl (lv_at hl 1 rfl) ?_
  refine lv_iload_n hx hb dL_about_4 rfl (lv_at hl 2 rfl) ?_
  refine xt_V (b := a 0) (As := [.int p0, .int p1]) (rest := [.int 0, .ref o]) ⟨hx, hb, hml, hown, hts⟩ (c_X0_about l hfl D t a tc rc ro F T Z E p0 p1 N0 sa htc hrc hF) (cwV 2 hts gL_about_X0_about rfl rfl rfl hd_X0_about ⟨Nat.le_of_ble_eq_true rfl, Nat.le_of_ble_eq_true rfl⟩) hK hP (fun U hW hU => xTh.warm hW (fun q _ _ => by rw [hU]) hXX.1) (va_recv hK hP (ci := 0) (q0 := 0) rfl rfl) [0, 1, 2, 3, 4] rfl rfl hl.1 rfl (Nat.le_of_ble_eq_true rfl) dL_about_5 ⟨(Nat.le_of_ble_eq_true rfl), (Nat.le_of_ble_eq_true rfl)⟩ (fun E9 ce9 q9 H9 hbad hz9 hk9 hce9 hv9 hcl9 => ?_) (fun ok_1 => ?_)
  · obtain ⟨hE9, hk0⟩ := hbad
    have hr9 : (kIn2 tc 3 p0 p1) = 1 := by revert hk0; unfold kIn2; (repeat' split) <;> simp
    have hP : va_P D vwCl ([xObj a tc rc ro, xArr (t 0) (a 1) 30 (xN F), xArr (t 0) (a 2) 30 (xN T), xArr (t 1) (a 4) 30 (xB Z), xArr (t 0) (a 5) 12 E, xLng (t 2) o 1 f]) H9 := xl_keep hP hk9
    have hS : va_S A s.heap H9 _ := xl_S9 hS hz9 hk9
    have hq9 := hr9
    obtain rfl : E9 = eIO := by rw [hE9, hq9]; rfl
    refine xl_catch (E := eIO) (name := eIO) hown hTab [] (0, 10, 13, 19) [] rfl (fun _ h => nomatch h) (by decide) (by decide) (hts (.classLink RL 19 eIO) (by decide +kernel)) (va_Nw.use rfl (hXX.1.2.2.1 0)) hce9 hv9 hcl9 ?_
    refine lv_astore (lv' := [(4, .ref q9), (0, .ref (a 0)), (1, .int p0), (2, .int p1), (3, .ref o)]) hx hb dL_about_13 hl (by decide) rfl (fun ls hl => ?_)
    refine lv_iconst (v := 1) hx hb dL_about_15 (by decide) ?_
    subst hAe
    refine W.widen (k := 2) (n := 12) (Nat.le_of_ble_eq_true rfl) (Nat.le_of_ble_eq_true rfl) ?_
    refine vx_ret ?_
    obtain ⟨hq8, hf8⟩ := xm_end (S := Option (Unit)) (pu := (xLp (S := Unit) (kIn2 tc 3 p0 p1))) (r := (xLr (S := Unit) (kIn2 tc 3 p0 p1))) (wc := [xObj a tc rc ro, xArr (t 0) (a 1) 30 (xN F), xArr (t 0) (a 2) 30 (xN T), xArr (t 1) (a 4) 30 (xB Z), xArr (t 0) (a 5) 12 E, xLng (t 2) o 1 f]) (w1 := (xLw [xObj a tc rc ro, xArr (t 0) (a 1) 30 (xN F), xArr (t 0) (a 2) 30 (xN T), xArr (t 1) (a 4) 30 (xB Z), xArr (t 0) (a 5) 12 E, xLng (t 2) o 1 f] (fun u : Unit => [xObj a tc rc ro, xArr (t 0) (a 1) 30 (xN F), xArr (t 0) (a 2) 30 (xN T), xArr (t 1) (a 4) 30 (xB Z), xArr (t 0) (a 5) 12 E, xLng (t 2) o 1 (vp_updL f 0 (Int32.toInt64 (aboutF ro E F T Z rc (ix p0) (ix p1))))]))) (o := some (.int 1)) (args := ([.ref (a 0), .int p0, .int p1, .ref o] : List Value).toArray) (none) rfl hk0 (by show some (Value.int 1) = some (Value.int (nI (kIn2 tc 3 p0 p1))); rw [hq9]; rfl) hP hD hS
    exact W.iret hx hb hr hq8 hf8 dL_about_16 hlocks
  refine lv_i2l (x := aboutF ro E F T Z rc (ix p0) (ix p1)) (v := Int32.toInt64 (aboutF ro E F T Z rc (ix p0) (ix p1))) hx hb dL_about_8 rfl ?_
  refine x_last hx hb hK hP hD hS 5 2 ([xObj a tc rc ro, xArr (t 0) (a 1) 30 (xN F), xArr (t 0) (a 2) 30 (xN T), xArr (t 1) (a 4) 30 (xB Z), xArr (t 0) (a 5) 12 E, xLng (t 2) o 1 (vp_updL f 0 (Int32.toInt64 (aboutF ro E F T Z rc (ix p0) (ix p1))))]) rfl rfl (k := 0) rfl (Nat.le_of_ble_eq_true rfl) (Nat.le_of_ble_eq_true rfl) dL_about_9 (fun H locs hP hD hS => ?_)
  refine lv_goto (tgt := 17) hx hb dL_about_10 (by decide) ?_
  refine lv_iconst (v := 0) hx hb dL_about_17 (by decide) ?_
  subst hAe
  refine W.widen (k := 2) (n := 12) (Nat.le_of_ble_eq_true rfl) (Nat.le_of_ble_eq_true rfl) ?_
  refine vx_ret ?_
  obtain ⟨hq8, hf8⟩ := xm_end (S := Option (Unit)) (pu := (xLp (S := Unit) (kIn2 tc 3 p0 p1))) (r := (xLr (S := Unit) (kIn2 tc 3 p0 p1))) (wc := [xObj a tc rc ro, xArr (t 0) (a 1) 30 (xN F), xArr (t 0) (a 2) 30 (xN T), xArr (t 1) (a 4) 30 (xB Z), xArr (t 0) (a 5) 12 E, xLng (t 2) o 1 f]) (w1 := (xLw [xObj a tc rc ro, xArr (t 0) (a 1) 30 (xN F), xArr (t 0) (a 2) 30 (xN T), xArr (t 1) (a 4) 30 (xB Z), xArr (t 0) (a 5) 12 E, xLng (t 2) o 1 f] (fun u : Unit => [xObj a tc rc ro, xArr (t 0) (a 1) 30 (xN F), xArr (t 0) (a 2) 30 (xN T), xArr (t 1) (a 4) 30 (xB Z), xArr (t 0) (a 5) 12 E, xLng (t 2) o 1 (vp_updL f 0 (Int32.toInt64 (aboutF ro E F T Z rc (ix p0) (ix p1))))]))) (o := some (.int 0)) (args := ([.ref (a 0), .int p0, .int p1, .ref o] : List Value).toArray) (some ()) rfl (show (kIn2 tc 3 p0 p1) = 0 from ok_1) rfl hP hD hS
  exact W.iret hx hb hr hq8 hf8 dL_about_18 hlocks
set_option maxHeartbeats 4000000 in
set_option maxRecDepth 100000 in
theorem c_L_count (l : Launch) (hfl : l.stackTraces = false) (D : va_G) (t : Nat → ClassId) (a : Nat → Nat) (tc rc : Nat) (ro : Int32) (F T : Nat → Nat) (L : Nat → Int32) (Z : Nat → Bool) (E R N : Nat → Int32) (p0 : Int32) (o : Nat) (f : Nat → Int64) (N0 : Nat) (sa : Nat → Nat) (sz : Nat) (htc : tc ≤ 12) (hrc : rc ≤ 30) (hF : ∀ r, r < rc → F r < tc ∧ T r < tc) : vx_Met l yL_count wsL_count ({ frames := 8, cells := 1, slots := 6, locals := 134 }) (xMu D (xTy t) (xTl N0 sa) [.ref (a 0), .int p0, .ref o] [xObj a tc rc ro, xArr (t 0) (a 1) 30 (xN F), xArr (t 0) (a 2) 30 (xN T), xArr (t 0) (a 3) 30 L, xArr (t 1) (a 4) 30 (xB Z), xArr (t 0) (a 5) 12 E, xArr (t 0) (a 8) 12 R, xArr (t 0) (a 9) 12 N, xLng (t 2) o 1 f] sz) (xQm D (xLp (S := (Nat → Int32) × (Nat → Int32)) (kIn 7 p0)) (xLr (S := (Nat → Int32) × (Nat → Int32)) (kIn 7 p0)) [xObj a tc rc ro, xArr (t 0) (a 1) 30 (xN F), xArr (t 0) (a 2) 30 (xN T), xArr (t 0) (a 3) 30 L, xArr (t 1) (a 4) 30 (xB Z), xArr (t 0) (a 5) 12 E, xArr (t 0) (a 8) 12 R, xArr (t 0) (a 9) 12 N, xLng (t 2) o 1 f] (xLw [xObj a tc rc ro, xArr (t 0) (a 1) 30 (xN F), xArr (t 0) (a 2) 30 (xN T), xArr (t 0) (a 3) 30 L, xArr (t 1) (a 4) 30 (xB Z), xArr (t 0) (a 5) 12 E, xArr (t 0) (a 8) 12 R, xArr (t 0) (a 9) 12 N, xLng (t 2) o 1 f] (fun u : (Nat → Int32) × (Nat → Int32) => [xObj a tc rc ro, xArr (t 0) (a 1) 30 (xN F), xArr (t 0) (a 2) 30 (xN T), xArr (t 0) (a 3) 30 L, xArr (t 1) (a 4) 30 (xB Z), xArr (t 0) (a 5) 12 E, xArr (t 0) (a 8) 12 u.1, xArr (t 0) (a 9) 12 u.2, xLng (t 2) o 1 (vp_updL f 0 (Int32.toInt64 (cntR ro E F T L Z tc rc (ix p0))))])) sz) (xXt (fun _ => False)) 1 6 (va_A [xObj a tc rc ro, xArr (t 0) (a 1) 30 (xN F), xArr (t 0) (a 2) 30 (xN T), xArr (t 0) (a 3) 30 L, xArr (t 1) (a 4) 30 (xB Z), xArr (t 0) (a 5) 12 E, xArr (t 0) (a 8) 12 R, xArr (t 0) (a 9) 12 N, xLng (t 2) o 1 f] sz) := by
  refine vx_ofWH (cc := cL_count) (maxL := 4) (ret := (some .int)) (by decide) rfl ?_
  intro p e s m args below meth c s₁ hB9 hml hv
  obtain ⟨rfl, hsz, hP, hK, hD0, hXX⟩ := hv
  have hx := hB9.exec
  have hb := hB9.bytes
  have hr := hB9.returns
  have hts := atoms_spec (ws := wsL_count) hB9.pre
  have hown : s.vm.findClass RL = some m.cls := findClass_of_methodNamed hB9.named
  have hlocks := hB9.notSynchronized
  have hTab := vx_table (x := yL_count) hB9 (hts (.codeWith yL_count cL_count 4 (some .int) [(0, 9, 12, 19)]) List.mem_cons_self)
  subst hsz
  have hD := hD0.self (sz := s.heap.size)
  generalize hAe : va_A ([xObj a tc rc ro, xArr (t 0) (a 1) 30 (xN F), xArr (t 0) (a 2) 30 (xN T), xArr (t 0) (a 3) 30 L, xArr (t 1) (a 4) 30 (xB Z), xArr (t 0) (a 5) 12 E, xArr (t 0) (a 8) 12 R, xArr (t 0) (a 9) 12 N, xLng (t 2) o 1 f]) s.heap.size = A at hD ⊢
  have hA : ∀ q : Nat, s.heap.size ≤ q → A q := fun q h => by rw [← hAe]; exact Or.inr h
  have hS : va_S A s.heap s.heap [] := va_S.rf
  have hP : va_P D vwCl ([xObj a tc rc ro, xArr (t 0) (a 1) 30 (xN F), xArr (t 0) (a 2) 30 (xN T), xArr (t 0) (a 3) 30 L, xArr (t 1) (a 4) 30 (xB Z), xArr (t 0) (a 5) 12 E, xArr (t 0) (a 8) 12 R, xArr (t 0) (a 9) 12 N, xLng (t 2) o 1 f]) s.heap := hP
  have hD : va_D A ([xObj a tc rc ro, xArr (t 0) (a 1) 30 (xN F), xArr (t 0) (a 2) 30 (xN T), xArr (t 0) (a 3) 30 L, xArr (t 1) (a 4) 30 (xB Z), xArr (t 0) (a 5) 12 E, xArr (t 0) (a 8) 12 R, xArr (t 0) (a 9) 12 N, xLng (t 2) o 1 f]) := hD
  have hl := lv_entry ([.ref (a 0), .int p0, .ref o]) (n := 4) (Nat.le_of_ble_eq_true rfl)
  rw [lg_entry_eq]
  generalize (lg_sl ([.ref (a 0), .int p0, .ref o]) ++ List.replicate (4 - (lg_sl ([.ref (a 0), .int p0, .ref o])).length) Slot.unset).toArray = ls at hl ⊢
  have hl : lv_has ls 4 [(0, .ref (a 0)), (1, .int p0), (2, .ref o)] := hl
  refine lv_aload_n hx hb dL_count_0 rfl (lv_at hl 2 rfl) ?_
  refine lv_iconst (v := 0) hx hb dL_count_1 (by decide) ?_
  refine lv_aload_n hx hb dL_count_2 rfl (lv_at hl 0 rfl) ?_
  refine lv_iload_n hx hb dL_count_3 rfl (lv_at hl 1 rfl) ?_
  refine xmt_V (b := a 0) (As := [.int p0]) (rest := [.int 0, .ref o]) (wr := [xLng (t 2) o 1 f]) ⟨hx, hb, hml, hown, hts⟩ (xTh.trav _ _) (c_X0_count l hfl D t a tc rc ro F T L Z E R N p0 N0 sa _ htc hrc hF) (cwV 1 hts gL_count_X0_count rfl rfl rfl hd_X0_count ⟨Nat.le_of_ble_eq_true rfl, Nat.le_of_ble_eq_true rfl⟩) hK hP hD hS hA (fun U hW hU => xTh.warm hW (fun q _ _ => by rw [hU]) hXX.1) (va_recv hK hP (ci := 0) (q0 := 0) rfl rfl) [0, 1, 2, 3, 4, 5, 6, 7] [8] rfl rfl (by decide) (by decide) (by decide) rfl hl.1 rfl (Nat.le_of_ble_eq_true rfl) dL_count_4 ⟨(Nat.le_of_ble_eq_true rfl), (Nat.le_of_ble_eq_true rfl)⟩ (fun E9 ce9 q9 H9 locs9 hbad hz9 hk9 hS9 hce9 hv9 hcl9 => ?_) (fun u_2 H locs ok_1 hP hD hS hz => ?_)
  · obtain ⟨hE9, hk0⟩ := hbad
    have hr9 : (kIn 7 p0) = 1 := by revert hk0; unfold kIn; (repeat' split) <;> simp
    have hP : va_P D vwCl ([xObj a tc rc ro, xArr (t 0) (a 1) 30 (xN F), xArr (t 0) (a 2) 30 (xN T), xArr (t 0) (a 3) 30 L, xArr (t 1) (a 4) 30 (xB Z), xArr (t 0) (a 5) 12 E, xArr (t 0) (a 8) 12 R, xArr (t 0) (a 9) 12 N, xLng (t 2) o 1 f]) H9 := xl_keep hP hk9
    have hS := hS9
    have hq9 := hr9
    obtain rfl : E9 = eIO := by rw [hE9, hq9]; rfl
    refine xl_catch (E := eIO) (name := eIO) hown hTab [] (0, 9, 12, 19) [] rfl (fun _ h => nomatch h) (by decide) (by decide) (hts (.classLink RL 19 eIO) (by decide +kernel)) (va_Nw.use rfl (hXX.1.2.2.1 0)) hce9 hv9 hcl9 ?_
    refine lv_astore_n (lv' := [(3, .ref q9), (0, .ref (a 0)), (1, .int p0), (2, .ref o)]) hx hb dL_count_12 rfl hl (by decide) rfl (fun ls hl => ?_)
    refine lv_iconst (v := 1) hx hb dL_count_13 (by decide) ?_
    subst hAe
    refine W.widen (k := 1) (n := 6) (Nat.le_of_ble_eq_true rfl) (Nat.le_of_ble_eq_true rfl) ?_
    refine vx_ret ?_
    obtain ⟨hq8, hf8⟩ := xm_end (S := Option ((Nat → Int32) × (Nat → Int32))) (pu := (xLp (S := (Nat → Int32) × (Nat → Int32)) (kIn 7 p0))) (r := (xLr (S := (Nat → Int32) × (Nat → Int32)) (kIn 7 p0))) (wc := [xObj a tc rc ro, xArr (t 0) (a 1) 30 (xN F), xArr (t 0) (a 2) 30 (xN T), xArr (t 0) (a 3) 30 L, xArr (t 1) (a 4) 30 (xB Z), xArr (t 0) (a 5) 12 E, xArr (t 0) (a 8) 12 R, xArr (t 0) (a 9) 12 N, xLng (t 2) o 1 f]) (w1 := (xLw [xObj a tc rc ro, xArr (t 0) (a 1) 30 (xN F), xArr (t 0) (a 2) 30 (xN T), xArr (t 0) (a 3) 30 L, xArr (t 1) (a 4) 30 (xB Z), xArr (t 0) (a 5) 12 E, xArr (t 0) (a 8) 12 R, xArr (t 0) (a 9) 12 N, xLng (t 2) o 1 f] (fun u : (Nat → Int32) × (Nat → Int32) => [xObj a tc rc ro, xArr (t 0) (a 1) 30 (xN F), xArr (t 0) (a 2) 30 (xN T), xArr (t 0) (a 3) 30 L, xArr (t 1) (a 4) 30 (xB Z), xArr (t 0) (a 5) 12 E, xArr (t 0) (a 8) 12 u.1, xArr (t 0) (a 9) 12 u.2, xLng (t 2) o 1 (vp_updL f 0 (Int32.toInt64 (cntR ro E F T L Z tc rc (ix p0))))]))) (o := some (.int 1)) (args := ([.ref (a 0), .int p0, .ref o] : List Value).toArray) (none) rfl hk0 (by show some (Value.int 1) = some (Value.int (nI (kIn 7 p0))); rw [hq9]; rfl) hP hD hS
    exact W.iret hx hb hr hq8 hf8 dL_count_14 hlocks
  have hP : va_P D vwCl ([xObj a tc rc ro, xArr (t 0) (a 1) 30 (xN F), xArr (t 0) (a 2) 30 (xN T), xArr (t 0) (a 3) 30 L, xArr (t 1) (a 4) 30 (xB Z), xArr (t 0) (a 5) 12 E, xArr (t 0) (a 8) 12 u_2.1, xArr (t 0) (a 9) 12 u_2.2, xLng (t 2) o 1 f]) H := hP.sub [1, 2, 3, 4, 5, 6, 7, 8, 0] rfl
  have hD : va_D _ ([xObj a tc rc ro, xArr (t 0) (a 1) 30 (xN F), xArr (t 0) (a 2) 30 (xN T), xArr (t 0) (a 3) 30 L, xArr (t 1) (a 4) 30 (xB Z), xArr (t 0) (a 5) 12 E, xArr (t 0) (a 8) 12 u_2.1, xArr (t 0) (a 9) 12 u_2.2, xLng (t 2) o 1 f]) := hD.sub [1, 2, 3, 4, 5, 6, 7, 8, 0] (by decide) rfl
  refine lv_i2l (x := cntR ro E F T L Z tc rc (ix p0)) (v := Int32.toInt64 (cntR ro E F T L Z tc rc (ix p0))) hx hb dL_count_7 rfl ?_
  refine x_last hx hb hK hP hD hS 8 2 ([xObj a tc rc ro, xArr (t 0) (a 1) 30 (xN F), xArr (t 0) (a 2) 30 (xN T), xArr (t 0) (a 3) 30 L, xArr (t 1) (a 4) 30 (xB Z), xArr (t 0) (a 5) 12 E, xArr (t 0) (a 8) 12 u_2.1, xArr (t 0) (a 9) 12 u_2.2, xLng (t 2) o 1 (vp_updL f 0 (Int32.toInt64 (cntR ro E F T L Z tc rc (ix p0))))]) rfl rfl (k := 0) rfl (Nat.le_of_ble_eq_true rfl) (Nat.le_of_ble_eq_true rfl) dL_count_8 (fun H locs hP hD hS => ?_)
  refine lv_goto (tgt := 15) hx hb dL_count_9 (by decide) ?_
  refine lv_iconst (v := 0) hx hb dL_count_15 (by decide) ?_
  subst hAe
  refine W.widen (k := 1) (n := 6) (Nat.le_of_ble_eq_true rfl) (Nat.le_of_ble_eq_true rfl) ?_
  refine vx_ret ?_
  obtain ⟨hq8, hf8⟩ := xm_end (S := Option ((Nat → Int32) × (Nat → Int32))) (pu := (xLp (S := (Nat → Int32) × (Nat → Int32)) (kIn 7 p0))) (r := (xLr (S := (Nat → Int32) × (Nat → Int32)) (kIn 7 p0))) (wc := [xObj a tc rc ro, xArr (t 0) (a 1) 30 (xN F), xArr (t 0) (a 2) 30 (xN T), xArr (t 0) (a 3) 30 L, xArr (t 1) (a 4) 30 (xB Z), xArr (t 0) (a 5) 12 E, xArr (t 0) (a 8) 12 R, xArr (t 0) (a 9) 12 N, xLng (t 2) o 1 f]) (w1 := (xLw [xObj a tc rc ro, xArr (t 0) (a 1) 30 (xN F), xArr (t 0) (a 2) 30 (xN T), xArr (t 0) (a 3) 30 L, xArr (t 1) (a 4) 30 (xB Z), xArr (t 0) (a 5) 12 E, xArr (t 0) (a 8) 12 R, xArr (t 0) (a 9) 12 N, xLng (t 2) o 1 f] (fun u : (Nat → Int32) × (Nat → Int32) => [xObj a tc rc ro, xArr (t 0) (a 1) 30 (xN F), xArr (t 0) (a 2) 30 (xN T), xArr (t 0) (a 3) 30 L, xArr (t 1) (a 4) 30 (xB Z), xArr (t 0) (a 5) 12 E, xArr (t 0) (a 8) 12 u.1, xArr (t 0) (a 9) 12 u.2, xLng (t 2) o 1 (vp_updL f 0 (Int32.toInt64 (cntR ro E F T L Z tc rc (ix p0))))]))) (o := some (.int 0)) (args := ([.ref (a 0), .int p0, .ref o] : List Value).toArray) (some u_2) rfl (show (kIn 7 p0) = 0 from ok_1) rfl hP hD hS
  exact W.iret hx hb hr hq8 hf8 dL_count_16 hlocks
set_option maxHeartbeats 4000000 in
set_option maxRecDepth 100000 in
theorem c_L_late (l : Launch) (hfl : l.stackTraces = false) (D : va_G) (t : Nat → ClassId) (a : Nat → Nat) (tc rc : Nat) (ro : Int32) (E B : Nat → Int32) (p0 p1 : Int32) (o : Nat) (f : Nat → Int64) (N0 : Nat) (sa : Nat → Nat) (sz : Nat) (htc : tc ≤ 12) : vx_Met l yL_late wsL_late ({ frames := 8, cells := 3, slots := 18, locals := 138 }) (xMu D (xTy t) (xTl N0 sa) [.ref (a 0), .int p0, .int p1, .ref o] [xObj a tc rc ro, xArr (t 0) (a 5) 12 E, xArr (t 0) (a 6) 144 B, xLng (t 2) o 1 f] sz) (xQm D (xLp (S := Unit) (kLate tc ro E p0 p1)) (xLr (S := Unit) (kLate tc ro E p0 p1)) [xObj a tc rc ro, xArr (t 0) (a 5) 12 E, xArr (t 0) (a 6) 144 B, xLng (t 2) o 1 f] (xLw [xObj a tc rc ro, xArr (t 0) (a 5) 12 E, xArr (t 0) (a 6) 144 B, xLng (t 2) o 1 f] (fun u : Unit => [xObj a tc rc ro, xArr (t 0) (a 5) 12 E, xArr (t 0) (a 6) 144 B, xLng (t 2) o 1 (vp_updL f 0 (Int32.toInt64 (lateF B (ix p0) p1 tc 0 p1)))])) sz) (xXt (fun _ => False)) 3 18 (va_A [xObj a tc rc ro, xArr (t 0) (a 5) 12 E, xArr (t 0) (a 6) 144 B, xLng (t 2) o 1 f] sz) := by
  refine vx_ofWH (cc := cL_late) (maxL := 5) (ret := (some .int)) (by decide) rfl ?_
  intro p e s m args below meth c s₁ hB9 hml hv
  obtain ⟨rfl, hsz, hP, hK, hD0, hXX⟩ := hv
  have hx := hB9.exec
  have hb := hB9.bytes
  have hr := hB9.returns
  have hts := atoms_spec (ws := wsL_late) hB9.pre
  have hown : s.vm.findClass RL = some m.cls := findClass_of_methodNamed hB9.named
  have hlocks := hB9.notSynchronized
  have hTab := vx_table (x := yL_late) hB9 (hts (.codeWith yL_late cL_late 5 (some .int) [(0, 10, 13, 19), (0, 10, 17, 21), (0, 10, 21, 13)]) List.mem_cons_self)
  subst hsz
  have hD := hD0.self (sz := s.heap.size)
  generalize hAe : va_A ([xObj a tc rc ro, xArr (t 0) (a 5) 12 E, xArr (t 0) (a 6) 144 B, xLng (t 2) o 1 f]) s.heap.size = A at hD ⊢
  have hA : ∀ q : Nat, s.heap.size ≤ q → A q := fun q h => by rw [← hAe]; exact Or.inr h
  have hS : va_S A s.heap s.heap [] := va_S.rf
  have hP : va_P D vwCl ([xObj a tc rc ro, xArr (t 0) (a 5) 12 E, xArr (t 0) (a 6) 144 B, xLng (t 2) o 1 f]) s.heap := hP
  have hD : va_D A ([xObj a tc rc ro, xArr (t 0) (a 5) 12 E, xArr (t 0) (a 6) 144 B, xLng (t 2) o 1 f]) := hD
  have hl := lv_entry ([.ref (a 0), .int p0, .int p1, .ref o]) (n := 5) (Nat.le_of_ble_eq_true rfl)
  rw [lg_entry_eq]
  generalize (lg_sl ([.ref (a 0), .int p0, .int p1, .ref o]) ++ List.replicate (5 - (lg_sl ([.ref (a 0), .int p0, .int p1, .ref o])).length) Slot.unset).toArray = ls at hl ⊢
  have hl : lv_has ls 5 [(0, .ref (a 0)), (1, .int p0), (2, .int p1), (3, .ref o)] := hl
  refine lv_aload_n hx hb dL_late_0 rfl (lv_at hl 3 rfl) ?_
  refine lv_iconst (v := 0) hx hb dL_late_1 (by decide) ?_
  refine lv_aload_n hx hb dL_late_2 rfl (lv_at hl 0 rfl) ?_
  refine lv_iload_n hx hb dL_late_3 rfl (lv_at hl 1 rfl) ?_
  refine lv_iload_n hx hb dL_late_4 rfl (lv_at hl 2 rfl) ?_
  refine xt_V (b := a 0) (As := [.int p0, .int p1]) (rest := [.int 0, .ref o]) ⟨hx, hb, hml, hown, hts⟩ (c_X0_late l hfl D t a tc rc ro E B p0 p1 N0 sa htc) (cwV 2 hts gL_late_X0_late rfl rfl rfl hd_X0_late ⟨Nat.le_of_ble_eq_true rfl, Nat.le_of_ble_eq_true rfl⟩) hK hP (fun U hW hU => xTh.warm hW (fun q _ _ => by rw [hU]) hXX.1) (va_recv hK hP (ci := 0) (q0 := 0) rfl rfl) [0, 1, 2] rfl rfl hl.1 rfl (Nat.le_of_ble_eq_true rfl) dL_late_5 ⟨(Nat.le_of_ble_eq_true rfl), (Nat.le_of_ble_eq_true rfl)⟩ (fun E9 ce9 q9 H9 hbad hz9 hk9 hce9 hv9 hcl9 => ?_) (fun ok_1 => ?_)
  · obtain ⟨hE9, hk0⟩ := hbad
    have hr9 : (kLate tc ro E p0 p1) = 1 ∨ (kLate tc ro E p0 p1) = 2 ∨ (kLate tc ro E p0 p1) = 3 := by revert hk0; unfold kLate; (repeat' split) <;> simp
    have hP : va_P D vwCl ([xObj a tc rc ro, xArr (t 0) (a 5) 12 E, xArr (t 0) (a 6) 144 B, xLng (t 2) o 1 f]) H9 := xl_keep hP hk9
    have hS : va_S A s.heap H9 _ := xl_S9 hS hz9 hk9
    rcases hr9 with hq9 | hq9 | hq9
    · obtain rfl : E9 = eIO := by rw [hE9, hq9]; rfl
      refine xl_catch (E := eIO) (name := eIO) hown hTab [] (0, 10, 13, 19) [(0, 10, 17, 21), (0, 10, 21, 13)] rfl (fun _ h => nomatch h) (by decide) (by decide) (hts (.classLink RL 19 eIO) (by decide +kernel)) (va_Nw.use rfl (hXX.1.2.2.1 0)) hce9 hv9 hcl9 ?_
      refine lv_astore (lv' := [(4, .ref q9), (0, .ref (a 0)), (1, .int p0), (2, .int p1), (3, .ref o)]) hx hb dL_late_13 hl (by decide) rfl (fun ls hl => ?_)
      refine lv_iconst (v := 1) hx hb dL_late_15 (by decide) ?_
      subst hAe
      refine W.widen (k := 3) (n := 18) (Nat.le_of_ble_eq_true rfl) (Nat.le_of_ble_eq_true rfl) ?_
      refine vx_ret ?_
      obtain ⟨hq8, hf8⟩ := xm_end (S := Option (Unit)) (pu := (xLp (S := Unit) (kLate tc ro E p0 p1))) (r := (xLr (S := Unit) (kLate tc ro E p0 p1))) (wc := [xObj a tc rc ro, xArr (t 0) (a 5) 12 E, xArr (t 0) (a 6) 144 B, xLng (t 2) o 1 f]) (w1 := (xLw [xObj a tc rc ro, xArr (t 0) (a 5) 12 E, xArr (t 0) (a 6) 144 B, xLng (t 2) o 1 f] (fun u : Unit => [xObj a tc rc ro, xArr (t 0) (a 5) 12 E, xArr (t 0) (a 6) 144 B, xLng (t 2) o 1 (vp_updL f 0 (Int32.toInt64 (lateF B (ix p0) p1 tc 0 p1)))]))) (o := some (.int 1)) (args := ([.ref (a 0), .int p0, .int p1, .ref o] : List Value).toArray) (none) rfl hk0 (by show some (Value.int 1) = some (Value.int (nI (kLate tc ro E p0 p1))); rw [hq9]; rfl) hP hD hS
      exact W.iret hx hb hr hq8 hf8 dL_late_16 hlocks
    · obtain rfl : E9 = eIA := by rw [hE9, hq9]; rfl
      refine xl_catch (E := eIA) (name := eIA) hown hTab [(0, 10, 13, 19)] (0, 10, 17, 21) [(0, 10, 21, 13)] rfl (List.forall_mem_cons.mpr ⟨⟨by decide, _, hts (.classLink RL 19 eIO) (by decide +kernel), hXX.2.1⟩, (fun _ h => nomatch h)⟩) (by decide) (by decide) (hts (.classLink RL 21 eIA) (by decide +kernel)) (va_Nw.use rfl (hXX.1.2.2.1 1)) hce9 hv9 hcl9 ?_
      refine lv_astore (lv' := [(4, .ref q9), (0, .ref (a 0)), (1, .int p0), (2, .int p1), (3, .ref o)]) hx hb dL_late_17 hl (by decide) rfl (fun ls hl => ?_)
      refine lv_iconst (v := 2) hx hb dL_late_19 (by decide) ?_
      subst hAe
      refine W.widen (k := 3) (n := 18) (Nat.le_of_ble_eq_true rfl) (Nat.le_of_ble_eq_true rfl) ?_
      refine vx_ret ?_
      obtain ⟨hq8, hf8⟩ := xm_end (S := Option (Unit)) (pu := (xLp (S := Unit) (kLate tc ro E p0 p1))) (r := (xLr (S := Unit) (kLate tc ro E p0 p1))) (wc := [xObj a tc rc ro, xArr (t 0) (a 5) 12 E, xArr (t 0) (a 6) 144 B, xLng (t 2) o 1 f]) (w1 := (xLw [xObj a tc rc ro, xArr (t 0) (a 5) 12 E, xArr (t 0) (a 6) 144 B, xLng (t 2) o 1 f] (fun u : Unit => [xObj a tc rc ro, xArr (t 0) (a 5) 12 E, xArr (t 0) (a 6) 144 B, xLng (t 2) o 1 (vp_updL f 0 (Int32.toInt64 (lateF B (ix p0) p1 tc 0 p1)))]))) (o := some (.int 2)) (args := ([.ref (a 0), .int p0, .int p1, .ref o] : List Value).toArray) (none) rfl hk0 (by show some (Value.int 2) = some (Value.int (nI (kLate tc ro E p0 p1))); rw [hq9]; rfl) hP hD hS
      exact W.iret hx hb hr hq8 hf8 dL_late_20 hlocks
    · obtain rfl : E9 = eIS := by rw [hE9, hq9]; rfl
      refine xl_catch (E := eIS) (name := eIS) hown hTab [(0, 10, 13, 19), (0, 10, 17, 21)] (0, 10, 21, 13) [] rfl (List.forall_mem_cons.mpr ⟨⟨by decide, _, hts (.classLink RL 19 eIO) (by decide +kernel), hXX.2.2.1⟩, (List.forall_mem_cons.mpr ⟨⟨by decide, _, hts (.classLink RL 21 eIA) (by decide +kernel), hXX.2.2.2⟩, (fun _ h => nomatch h)⟩)⟩) (by decide) (by decide) (hts (.classLink RL 13 eIS) (by decide +kernel)) (va_Nw.use rfl (hXX.1.2.2.1 2)) hce9 hv9 hcl9 ?_
      refine lv_astore (lv' := [(4, .ref q9), (0, .ref (a 0)), (1, .int p0), (2, .int p1), (3, .ref o)]) hx hb dL_late_21 hl (by decide) rfl (fun ls hl => ?_)
      refine lv_iconst (v := 3) hx hb dL_late_23 (by decide) ?_
      subst hAe
      refine W.widen (k := 3) (n := 18) (Nat.le_of_ble_eq_true rfl) (Nat.le_of_ble_eq_true rfl) ?_
      refine vx_ret ?_
      obtain ⟨hq8, hf8⟩ := xm_end (S := Option (Unit)) (pu := (xLp (S := Unit) (kLate tc ro E p0 p1))) (r := (xLr (S := Unit) (kLate tc ro E p0 p1))) (wc := [xObj a tc rc ro, xArr (t 0) (a 5) 12 E, xArr (t 0) (a 6) 144 B, xLng (t 2) o 1 f]) (w1 := (xLw [xObj a tc rc ro, xArr (t 0) (a 5) 12 E, xArr (t 0) (a 6) 144 B, xLng (t 2) o 1 f] (fun u : Unit => [xObj a tc rc ro, xArr (t 0) (a 5) 12 E, xArr (t 0) (a 6) 144 B, xLng (t 2) o 1 (vp_updL f 0 (Int32.toInt64 (lateF B (ix p0) p1 tc 0 p1)))]))) (o := some (.int 3)) (args := ([.ref (a 0), .int p0, .int p1, .ref o] : List Value).toArray) (none) rfl hk0 (by show some (Value.int 3) = some (Value.int (nI (kLate tc ro E p0 p1))); rw [hq9]; rfl) hP hD hS
      exact W.iret hx hb hr hq8 hf8 dL_late_24 hlocks
  refine lv_i2l (x := lateF B (ix p0) p1 tc 0 p1) (v := Int32.toInt64 (lateF B (ix p0) p1 tc 0 p1)) hx hb dL_late_8 rfl ?_
  refine x_last hx hb hK hP hD hS 3 2 ([xObj a tc rc ro, xArr (t 0) (a 5) 12 E, xArr (t 0) (a 6) 144 B, xLng (t 2) o 1 (vp_updL f 0 (Int32.toInt64 (lateF B (ix p0) p1 tc 0 p1)))]) rfl rfl (k := 0) rfl (Nat.le_of_ble_eq_true rfl) (Nat.le_of_ble_eq_true rfl) dL_late_9 (fun H locs hP hD hS => ?_)
  refine lv_goto (tgt := 25) hx hb dL_late_10 (by decide) ?_
  refine lv_iconst (v := 0) hx hb dL_late_25 (by decide) ?_
  subst hAe
  refine W.widen (k := 3) (n := 18) (Nat.le_of_ble_eq_true rfl) (Nat.le_of_ble_eq_true rfl) ?_
  refine vx_ret ?_
  obtain ⟨hq8, hf8⟩ := xm_end (S := Option (Unit)) (pu := (xLp (S := Unit) (kLate tc ro E p0 p1))) (r := (xLr (S := Unit) (kLate tc ro E p0 p1))) (wc := [xObj a tc rc ro, xArr (t 0) (a 5) 12 E, xArr (t 0) (a 6) 144 B, xLng (t 2) o 1 f]) (w1 := (xLw [xObj a tc rc ro, xArr (t 0) (a 5) 12 E, xArr (t 0) (a 6) 144 B, xLng (t 2) o 1 f] (fun u : Unit => [xObj a tc rc ro, xArr (t 0) (a 5) 12 E, xArr (t 0) (a 6) 144 B, xLng (t 2) o 1 (vp_updL f 0 (Int32.toInt64 (lateF B (ix p0) p1 tc 0 p1)))]))) (o := some (.int 0)) (args := ([.ref (a 0), .int p0, .int p1, .ref o] : List Value).toArray) (some ()) rfl (show (kLate tc ro E p0 p1) = 0 from ok_1) rfl hP hD hS
  exact W.iret hx hb hr hq8 hf8 dL_late_26 hlocks
set_option maxHeartbeats 4000000 in
set_option maxRecDepth 100000 in
theorem c_L_most (l : Launch) (hfl : l.stackTraces = false) (D : va_G) (t : Nat → ClassId) (a : Nat → Nat) (tc rc : Nat) (ro : Int32) (B : Nat → Int32) (p0 p1 : Int32) (o : Nat) (f : Nat → Int64) (N0 : Nat) (sa : Nat → Nat) (sz : Nat) (htc : tc ≤ 12) : vx_Met l yL_most wsL_most ({ frames := 8, cells := 3, slots := 18, locals := 135 }) (xMu D (xTy t) (xTl N0 sa) [.ref (a 0), .int p0, .int p1, .ref o] [xObj a tc rc ro, xArr (t 0) (a 6) 144 B, xLng (t 2) o 1 f] sz) (xQm D (xLp (S := Unit) (kMost tc ro p0 p1)) (xLr (S := Unit) (c2 (kMost tc ro p0 p1))) [xObj a tc rc ro, xArr (t 0) (a 6) 144 B, xLng (t 2) o 1 f] (xLw [xObj a tc rc ro, xArr (t 0) (a 6) 144 B, xLng (t 2) o 1 f] (fun u : Unit => [xObj a tc rc ro, xArr (t 0) (a 6) 144 B, xLng (t 2) o 1 (vp_updL f 0 (Int32.toInt64 (B (ix p0 * 12 + ix p1))))])) sz) (xXt (fun _ => False)) 3 18 (va_A [xObj a tc rc ro, xArr (t 0) (a 6) 144 B, xLng (t 2) o 1 f] sz) := by
  refine vx_ofWH (cc := cL_most) (maxL := 5) (ret := (some .int)) (by decide) rfl ?_
  intro p e s m args below meth c s₁ hB9 hml hv
  obtain ⟨rfl, hsz, hP, hK, hD0, hXX⟩ := hv
  have hx := hB9.exec
  have hb := hB9.bytes
  have hr := hB9.returns
  have hts := atoms_spec (ws := wsL_most) hB9.pre
  have hown : s.vm.findClass RL = some m.cls := findClass_of_methodNamed hB9.named
  have hlocks := hB9.notSynchronized
  have hTab := vx_table (x := yL_most) hB9 (hts (.codeWith yL_most cL_most 5 (some .int) [(0, 10, 13, 19), (0, 10, 17, 13)]) List.mem_cons_self)
  subst hsz
  have hD := hD0.self (sz := s.heap.size)
  generalize hAe : va_A ([xObj a tc rc ro, xArr (t 0) (a 6) 144 B, xLng (t 2) o 1 f]) s.heap.size = A at hD ⊢
  have hA : ∀ q : Nat, s.heap.size ≤ q → A q := fun q h => by rw [← hAe]; exact Or.inr h
  have hS : va_S A s.heap s.heap [] := va_S.rf
  have hP : va_P D vwCl ([xObj a tc rc ro, xArr (t 0) (a 6) 144 B, xLng (t 2) o 1 f]) s.heap := hP
  have hD : va_D A ([xObj a tc rc ro, xArr (t 0) (a 6) 144 B, xLng (t 2) o 1 f]) := hD
  have hl := lv_entry ([.ref (a 0), .int p0, .int p1, .ref o]) (n := 5) (Nat.le_of_ble_eq_true rfl)
  rw [lg_entry_eq]
  generalize (lg_sl ([.ref (a 0), .int p0, .int p1, .ref o]) ++ List.replicate (5 - (lg_sl ([.ref (a 0), .int p0, .int p1, .ref o])).length) Slot.unset).toArray = ls at hl ⊢
  have hl : lv_has ls 5 [(0, .ref (a 0)), (1, .int p0), (2, .int p1), (3, .ref o)] := hl
  refine lv_aload_n hx hb dL_most_0 rfl (lv_at hl 3 rfl) ?_
  refine lv_iconst (v := 0) hx hb dL_most_1 (by decide) ?_
  refine lv_aload_n hx hb dL_most_2 rfl (lv_at hl 0 rfl) ?_
  refine lv_iload_n hx hb dL_most_3 rfl (lv_at hl 1 rfl) ?_
  refine lv_iload_n hx hb dL_most_4 rfl (lv_at hl 2 rfl) ?_
  refine xt_V (b := a 0) (As := [.int p0, .int p1]) (rest := [.int 0, .ref o]) ⟨hx, hb, hml, hown, hts⟩ (c_X0_most l hfl D t a tc rc ro B p0 p1 N0 sa htc) (cwV 2 hts gL_most_X0_most rfl rfl rfl hd_X0_most ⟨Nat.le_of_ble_eq_true rfl, Nat.le_of_ble_eq_true rfl⟩) hK hP (fun U hW hU => xTh.warm hW (fun q _ _ => by rw [hU]) hXX.1) (va_recv hK hP (ci := 0) (q0 := 0) rfl rfl) [0, 1] rfl rfl hl.1 rfl (Nat.le_of_ble_eq_true rfl) dL_most_5 ⟨(Nat.le_of_ble_eq_true rfl), (Nat.le_of_ble_eq_true rfl)⟩ (fun E9 ce9 q9 H9 hbad hz9 hk9 hce9 hv9 hcl9 => ?_) (fun ok_1 => ?_)
  · obtain ⟨hE9, hk0⟩ := hbad
    have hr9 : (kMost tc ro p0 p1) = 1 ∨ (kMost tc ro p0 p1) = 3 := by revert hk0; unfold kMost; (repeat' split) <;> simp
    have hP : va_P D vwCl ([xObj a tc rc ro, xArr (t 0) (a 6) 144 B, xLng (t 2) o 1 f]) H9 := xl_keep hP hk9
    have hS : va_S A s.heap H9 _ := xl_S9 hS hz9 hk9
    rcases hr9 with hq9 | hq9
    · obtain rfl : E9 = eIO := by rw [hE9, hq9]; rfl
      refine xl_catch (E := eIO) (name := eIO) hown hTab [] (0, 10, 13, 19) [(0, 10, 17, 13)] rfl (fun _ h => nomatch h) (by decide) (by decide) (hts (.classLink RL 19 eIO) (by decide +kernel)) (va_Nw.use rfl (hXX.1.2.2.1 0)) hce9 hv9 hcl9 ?_
      refine lv_astore (lv' := [(4, .ref q9), (0, .ref (a 0)), (1, .int p0), (2, .int p1), (3, .ref o)]) hx hb dL_most_13 hl (by decide) rfl (fun ls hl => ?_)
      refine lv_iconst (v := 1) hx hb dL_most_15 (by decide) ?_
      subst hAe
      refine W.widen (k := 3) (n := 18) (Nat.le_of_ble_eq_true rfl) (Nat.le_of_ble_eq_true rfl) ?_
      refine vx_ret ?_
      obtain ⟨hq8, hf8⟩ := xm_end (S := Option (Unit)) (pu := (xLp (S := Unit) (kMost tc ro p0 p1))) (r := (xLr (S := Unit) (c2 (kMost tc ro p0 p1)))) (wc := [xObj a tc rc ro, xArr (t 0) (a 6) 144 B, xLng (t 2) o 1 f]) (w1 := (xLw [xObj a tc rc ro, xArr (t 0) (a 6) 144 B, xLng (t 2) o 1 f] (fun u : Unit => [xObj a tc rc ro, xArr (t 0) (a 6) 144 B, xLng (t 2) o 1 (vp_updL f 0 (Int32.toInt64 (B (ix p0 * 12 + ix p1))))]))) (o := some (.int 1)) (args := ([.ref (a 0), .int p0, .int p1, .ref o] : List Value).toArray) (none) rfl hk0 (by show some (Value.int 1) = some (Value.int (nI (c2 (kMost tc ro p0 p1)))); rw [hq9]; rfl) hP hD hS
      exact W.iret hx hb hr hq8 hf8 dL_most_16 hlocks
    · obtain rfl : E9 = eIS := by rw [hE9, hq9]; rfl
      refine xl_catch (E := eIS) (name := eIS) hown hTab [(0, 10, 13, 19)] (0, 10, 17, 13) [] rfl (List.forall_mem_cons.mpr ⟨⟨by decide, _, hts (.classLink RL 19 eIO) (by decide +kernel), hXX.2.2.1⟩, (fun _ h => nomatch h)⟩) (by decide) (by decide) (hts (.classLink RL 13 eIS) (by decide +kernel)) (va_Nw.use rfl (hXX.1.2.2.1 2)) hce9 hv9 hcl9 ?_
      refine lv_astore (lv' := [(4, .ref q9), (0, .ref (a 0)), (1, .int p0), (2, .int p1), (3, .ref o)]) hx hb dL_most_17 hl (by decide) rfl (fun ls hl => ?_)
      refine lv_iconst (v := 2) hx hb dL_most_19 (by decide) ?_
      subst hAe
      refine W.widen (k := 3) (n := 18) (Nat.le_of_ble_eq_true rfl) (Nat.le_of_ble_eq_true rfl) ?_
      refine vx_ret ?_
      obtain ⟨hq8, hf8⟩ := xm_end (S := Option (Unit)) (pu := (xLp (S := Unit) (kMost tc ro p0 p1))) (r := (xLr (S := Unit) (c2 (kMost tc ro p0 p1)))) (wc := [xObj a tc rc ro, xArr (t 0) (a 6) 144 B, xLng (t 2) o 1 f]) (w1 := (xLw [xObj a tc rc ro, xArr (t 0) (a 6) 144 B, xLng (t 2) o 1 f] (fun u : Unit => [xObj a tc rc ro, xArr (t 0) (a 6) 144 B, xLng (t 2) o 1 (vp_updL f 0 (Int32.toInt64 (B (ix p0 * 12 + ix p1))))]))) (o := some (.int 2)) (args := ([.ref (a 0), .int p0, .int p1, .ref o] : List Value).toArray) (none) rfl hk0 (by show some (Value.int 2) = some (Value.int (nI (c2 (kMost tc ro p0 p1)))); rw [hq9]; rfl) hP hD hS
      exact W.iret hx hb hr hq8 hf8 dL_most_20 hlocks
  refine lv_i2l (x := B (ix p0 * 12 + ix p1)) (v := Int32.toInt64 (B (ix p0 * 12 + ix p1))) hx hb dL_most_8 rfl ?_
  refine x_last hx hb hK hP hD hS 2 2 ([xObj a tc rc ro, xArr (t 0) (a 6) 144 B, xLng (t 2) o 1 (vp_updL f 0 (Int32.toInt64 (B (ix p0 * 12 + ix p1))))]) rfl rfl (k := 0) rfl (Nat.le_of_ble_eq_true rfl) (Nat.le_of_ble_eq_true rfl) dL_most_9 (fun H locs hP hD hS => ?_)
  refine lv_goto (tgt := 21) hx hb dL_most_10 (by decide) ?_
  refine lv_iconst (v := 0) hx hb dL_most_21 (by decide) ?_
  subst hAe
  refine W.widen (k := 3) (n := 18) (Nat.le_of_ble_eq_true rfl) (Nat.le_of_ble_eq_true rfl) ?_
  refine vx_ret ?_
  obtain ⟨hq8, hf8⟩ := xm_end (S := Option (Unit)) (pu := (xLp (S := Unit) (kMost tc ro p0 p1))) (r := (xLr (S := Unit) (c2 (kMost tc ro p0 p1)))) (wc := [xObj a tc rc ro, xArr (t 0) (a 6) 144 B, xLng (t 2) o 1 f]) (w1 := (xLw [xObj a tc rc ro, xArr (t 0) (a 6) 144 B, xLng (t 2) o 1 f] (fun u : Unit => [xObj a tc rc ro, xArr (t 0) (a 6) 144 B, xLng (t 2) o 1 (vp_updL f 0 (Int32.toInt64 (B (ix p0 * 12 + ix p1))))]))) (o := some (.int 0)) (args := ([.ref (a 0), .int p0, .int p1, .ref o] : List Value).toArray) (some ()) rfl (show (kMost tc ro p0 p1) = 0 from ok_1) rfl hP hD hS
  exact W.iret hx hb hr hq8 hf8 dL_most_22 hlocks
set_option maxHeartbeats 4000000 in
set_option maxRecDepth 100000 in
theorem c_L_room (l : Launch) (hfl : l.stackTraces = false) (D : va_G) (t : Nat → ClassId) (a : Nat → Nat) (tc rc : Nat) (ro : Int32) (F T : Nat → Nat) (Z : Nat → Bool) (B : Nat → Int32) (p0 : Int32) (o : Nat) (f : Nat → Int64) (N0 : Nat) (sa : Nat → Nat) (sz : Nat) (htc : tc ≤ 12) (hrc : rc ≤ 30) (hF : ∀ r, r < rc → F r < tc ∧ T r < tc) : vx_Met l yL_room wsL_room ({ frames := 8, cells := 3, slots := 18, locals := 134 }) (xMu D (xTy t) (xTl N0 sa) [.ref (a 0), .int p0, .ref o] [xObj a tc rc ro, xArr (t 0) (a 1) 30 (xN F), xArr (t 0) (a 2) 30 (xN T), xArr (t 1) (a 4) 30 (xB Z), xArr (t 0) (a 6) 144 B, xLng (t 2) o 1 f] sz) (xQm D (xLp (S := Unit) (kRoom rc Z ro p0)) (xLr (S := Unit) (c2 (kRoom rc Z ro p0))) [xObj a tc rc ro, xArr (t 0) (a 1) 30 (xN F), xArr (t 0) (a 2) 30 (xN T), xArr (t 1) (a 4) 30 (xB Z), xArr (t 0) (a 6) 144 B, xLng (t 2) o 1 f] (xLw [xObj a tc rc ro, xArr (t 0) (a 1) 30 (xN F), xArr (t 0) (a 2) 30 (xN T), xArr (t 1) (a 4) 30 (xB Z), xArr (t 0) (a 6) 144 B, xLng (t 2) o 1 f] (fun u : Unit => [xObj a tc rc ro, xArr (t 0) (a 1) 30 (xN F), xArr (t 0) (a 2) 30 (xN T), xArr (t 1) (a 4) 30 (xB Z), xArr (t 0) (a 6) 144 B, xLng (t 2) o 1 (vp_updL f 0 (Int32.toInt64 (leastF B (F (ix p0)) (T (ix p0)))))])) sz) (xXt (fun _ => False)) 3 18 (va_A [xObj a tc rc ro, xArr (t 0) (a 1) 30 (xN F), xArr (t 0) (a 2) 30 (xN T), xArr (t 1) (a 4) 30 (xB Z), xArr (t 0) (a 6) 144 B, xLng (t 2) o 1 f] sz) := by
  refine vx_ofWH (cc := cL_room) (maxL := 4) (ret := (some .int)) (by decide) rfl ?_
  intro p e s m args below meth c s₁ hB9 hml hv
  obtain ⟨rfl, hsz, hP, hK, hD0, hXX⟩ := hv
  have hx := hB9.exec
  have hb := hB9.bytes
  have hr := hB9.returns
  have hts := atoms_spec (ws := wsL_room) hB9.pre
  have hown : s.vm.findClass RL = some m.cls := findClass_of_methodNamed hB9.named
  have hlocks := hB9.notSynchronized
  have hTab := vx_table (x := yL_room) hB9 (hts (.codeWith yL_room cL_room 4 (some .int) [(0, 9, 12, 19), (0, 9, 15, 13)]) List.mem_cons_self)
  subst hsz
  have hD := hD0.self (sz := s.heap.size)
  generalize hAe : va_A ([xObj a tc rc ro, xArr (t 0) (a 1) 30 (xN F), xArr (t 0) (a 2) 30 (xN T), xArr (t 1) (a 4) 30 (xB Z), xArr (t 0) (a 6) 144 B, xLng (t 2) o 1 f]) s.heap.size = A at hD ⊢
  have hA : ∀ q : Nat, s.heap.size ≤ q → A q := fun q h => by rw [← hAe]; exact Or.inr h
  have hS : va_S A s.heap s.heap [] := va_S.rf
  have hP : va_P D vwCl ([xObj a tc rc ro, xArr (t 0) (a 1) 30 (xN F), xArr (t 0) (a 2) 30 (xN T), xArr (t 1) (a 4) 30 (xB Z), xArr (t 0) (a 6) 144 B, xLng (t 2) o 1 f]) s.heap := hP
  have hD : va_D A ([xObj a tc rc ro, xArr (t 0) (a 1) 30 (xN F), xArr (t 0) (a 2) 30 (xN T), xArr (t 1) (a 4) 30 (xB Z), xArr (t 0) (a 6) 144 B, xLng (t 2) o 1 f]) := hD
  have hl := lv_entry ([.ref (a 0), .int p0, .ref o]) (n := 4) (Nat.le_of_ble_eq_true rfl)
  rw [lg_entry_eq]
  generalize (lg_sl ([.ref (a 0), .int p0, .ref o]) ++ List.replicate (4 - (lg_sl ([.ref (a 0), .int p0, .ref o])).length) Slot.unset).toArray = ls at hl ⊢
  have hl : lv_has ls 4 [(0, .ref (a 0)), (1, .int p0), (2, .ref o)] := hl
  refine lv_aload_n hx hb dL_room_0 rfl (lv_at hl 2 rfl) ?_
  refine lv_iconst (v := 0) hx hb dL_room_1 (by decide) ?_
  refine lv_aload_n hx hb dL_room_2 rfl (lv_at hl 0 rfl) ?_
  refine lv_iload_n hx hb dL_room_3 rfl (lv_at hl 1 rfl) ?_
  refine xt_V (b := a 0) (As := [.int p0]) (rest := [.int 0, .ref o]) ⟨hx, hb, hml, hown, hts⟩ (c_X0_room l hfl D t a tc rc ro F T Z B p0 N0 sa htc hrc hF) (cwV 1 hts gL_room_X0_room rfl rfl rfl hd_X0_room ⟨Nat.le_of_ble_eq_true rfl, Nat.le_of_ble_eq_true rfl⟩) hK hP (fun U hW hU => xTh.warm hW (fun q _ _ => by rw [hU]) hXX.1) (va_recv hK hP (ci := 0) (q0 := 0) rfl rfl) [0, 1, 2, 3, 4] rfl rfl hl.1 rfl (Nat.le_of_ble_eq_true rfl) dL_room_4 ⟨(Nat.le_of_ble_eq_true rfl), (Nat.le_of_ble_eq_true rfl)⟩ (fun E9 ce9 q9 H9 hbad hz9 hk9 hce9 hv9 hcl9 => ?_) (fun ok_1 => ?_)
  · obtain ⟨hE9, hk0⟩ := hbad
    have hr9 : (kRoom rc Z ro p0) = 1 ∨ (kRoom rc Z ro p0) = 3 := by revert hk0; unfold kRoom; (repeat' split) <;> simp
    have hP : va_P D vwCl ([xObj a tc rc ro, xArr (t 0) (a 1) 30 (xN F), xArr (t 0) (a 2) 30 (xN T), xArr (t 1) (a 4) 30 (xB Z), xArr (t 0) (a 6) 144 B, xLng (t 2) o 1 f]) H9 := xl_keep hP hk9
    have hS : va_S A s.heap H9 _ := xl_S9 hS hz9 hk9
    rcases hr9 with hq9 | hq9
    · obtain rfl : E9 = eIO := by rw [hE9, hq9]; rfl
      refine xl_catch (E := eIO) (name := eIO) hown hTab [] (0, 9, 12, 19) [(0, 9, 15, 13)] rfl (fun _ h => nomatch h) (by decide) (by decide) (hts (.classLink RL 19 eIO) (by decide +kernel)) (va_Nw.use rfl (hXX.1.2.2.1 0)) hce9 hv9 hcl9 ?_
      refine lv_astore_n (lv' := [(3, .ref q9), (0, .ref (a 0)), (1, .int p0), (2, .ref o)]) hx hb dL_room_12 rfl hl (by decide) rfl (fun ls hl => ?_)
      refine lv_iconst (v := 1) hx hb dL_room_13 (by decide) ?_
      subst hAe
      refine W.widen (k := 3) (n := 18) (Nat.le_of_ble_eq_true rfl) (Nat.le_of_ble_eq_true rfl) ?_
      refine vx_ret ?_
      obtain ⟨hq8, hf8⟩ := xm_end (S := Option (Unit)) (pu := (xLp (S := Unit) (kRoom rc Z ro p0))) (r := (xLr (S := Unit) (c2 (kRoom rc Z ro p0)))) (wc := [xObj a tc rc ro, xArr (t 0) (a 1) 30 (xN F), xArr (t 0) (a 2) 30 (xN T), xArr (t 1) (a 4) 30 (xB Z), xArr (t 0) (a 6) 144 B, xLng (t 2) o 1 f]) (w1 := (xLw [xObj a tc rc ro, xArr (t 0) (a 1) 30 (xN F), xArr (t 0) (a 2) 30 (xN T), xArr (t 1) (a 4) 30 (xB Z), xArr (t 0) (a 6) 144 B, xLng (t 2) o 1 f] (fun u : Unit => [xObj a tc rc ro, xArr (t 0) (a 1) 30 (xN F), xArr (t 0) (a 2) 30 (xN T), xArr (t 1) (a 4) 30 (xB Z), xArr (t 0) (a 6) 144 B, xLng (t 2) o 1 (vp_updL f 0 (Int32.toInt64 (leastF B (F (ix p0)) (T (ix p0)))))]))) (o := some (.int 1)) (args := ([.ref (a 0), .int p0, .ref o] : List Value).toArray) (none) rfl hk0 (by show some (Value.int 1) = some (Value.int (nI (c2 (kRoom rc Z ro p0)))); rw [hq9]; rfl) hP hD hS
      exact W.iret hx hb hr hq8 hf8 dL_room_14 hlocks
    · obtain rfl : E9 = eIS := by rw [hE9, hq9]; rfl
      refine xl_catch (E := eIS) (name := eIS) hown hTab [(0, 9, 12, 19)] (0, 9, 15, 13) [] rfl (List.forall_mem_cons.mpr ⟨⟨by decide, _, hts (.classLink RL 19 eIO) (by decide +kernel), hXX.2.2.1⟩, (fun _ h => nomatch h)⟩) (by decide) (by decide) (hts (.classLink RL 13 eIS) (by decide +kernel)) (va_Nw.use rfl (hXX.1.2.2.1 2)) hce9 hv9 hcl9 ?_
      refine lv_astore_n (lv' := [(3, .ref q9), (0, .ref (a 0)), (1, .int p0), (2, .ref o)]) hx hb dL_room_15 rfl hl (by decide) rfl (fun ls hl => ?_)
      refine lv_iconst (v := 2) hx hb dL_room_16 (by decide) ?_
      subst hAe
      refine W.widen (k := 3) (n := 18) (Nat.le_of_ble_eq_true rfl) (Nat.le_of_ble_eq_true rfl) ?_
      refine vx_ret ?_
      obtain ⟨hq8, hf8⟩ := xm_end (S := Option (Unit)) (pu := (xLp (S := Unit) (kRoom rc Z ro p0))) (r := (xLr (S := Unit) (c2 (kRoom rc Z ro p0)))) (wc := [xObj a tc rc ro, xArr (t 0) (a 1) 30 (xN F), xArr (t 0) (a 2) 30 (xN T), xArr (t 1) (a 4) 30 (xB Z), xArr (t 0) (a 6) 144 B, xLng (t 2) o 1 f]) (w1 := (xLw [xObj a tc rc ro, xArr (t 0) (a 1) 30 (xN F), xArr (t 0) (a 2) 30 (xN T), xArr (t 1) (a 4) 30 (xB Z), xArr (t 0) (a 6) 144 B, xLng (t 2) o 1 f] (fun u : Unit => [xObj a tc rc ro, xArr (t 0) (a 1) 30 (xN F), xArr (t 0) (a 2) 30 (xN T), xArr (t 1) (a 4) 30 (xB Z), xArr (t 0) (a 6) 144 B, xLng (t 2) o 1 (vp_updL f 0 (Int32.toInt64 (leastF B (F (ix p0)) (T (ix p0)))))]))) (o := some (.int 2)) (args := ([.ref (a 0), .int p0, .ref o] : List Value).toArray) (none) rfl hk0 (by show some (Value.int 2) = some (Value.int (nI (c2 (kRoom rc Z ro p0)))); rw [hq9]; rfl) hP hD hS
      exact W.iret hx hb hr hq8 hf8 dL_room_17 hlocks
  refine lv_i2l (x := leastF B (F (ix p0)) (T (ix p0))) (v := Int32.toInt64 (leastF B (F (ix p0)) (T (ix p0)))) hx hb dL_room_7 rfl ?_
  refine x_last hx hb hK hP hD hS 5 2 ([xObj a tc rc ro, xArr (t 0) (a 1) 30 (xN F), xArr (t 0) (a 2) 30 (xN T), xArr (t 1) (a 4) 30 (xB Z), xArr (t 0) (a 6) 144 B, xLng (t 2) o 1 (vp_updL f 0 (Int32.toInt64 (leastF B (F (ix p0)) (T (ix p0)))))]) rfl rfl (k := 0) rfl (Nat.le_of_ble_eq_true rfl) (Nat.le_of_ble_eq_true rfl) dL_room_8 (fun H locs hP hD hS => ?_)
  refine lv_goto (tgt := 18) hx hb dL_room_9 (by decide) ?_
  refine lv_iconst (v := 0) hx hb dL_room_18 (by decide) ?_
  subst hAe
  refine W.widen (k := 3) (n := 18) (Nat.le_of_ble_eq_true rfl) (Nat.le_of_ble_eq_true rfl) ?_
  refine vx_ret ?_
  obtain ⟨hq8, hf8⟩ := xm_end (S := Option (Unit)) (pu := (xLp (S := Unit) (kRoom rc Z ro p0))) (r := (xLr (S := Unit) (c2 (kRoom rc Z ro p0)))) (wc := [xObj a tc rc ro, xArr (t 0) (a 1) 30 (xN F), xArr (t 0) (a 2) 30 (xN T), xArr (t 1) (a 4) 30 (xB Z), xArr (t 0) (a 6) 144 B, xLng (t 2) o 1 f]) (w1 := (xLw [xObj a tc rc ro, xArr (t 0) (a 1) 30 (xN F), xArr (t 0) (a 2) 30 (xN T), xArr (t 1) (a 4) 30 (xB Z), xArr (t 0) (a 6) 144 B, xLng (t 2) o 1 f] (fun u : Unit => [xObj a tc rc ro, xArr (t 0) (a 1) 30 (xN F), xArr (t 0) (a 2) 30 (xN T), xArr (t 1) (a 4) 30 (xB Z), xArr (t 0) (a 6) 144 B, xLng (t 2) o 1 (vp_updL f 0 (Int32.toInt64 (leastF B (F (ix p0)) (T (ix p0)))))]))) (o := some (.int 0)) (args := ([.ref (a 0), .int p0, .ref o] : List Value).toArray) (some ()) rfl (show (kRoom rc Z ro p0) = 0 from ok_1) rfl hP hD hS
  exact W.iret hx hb hr hq8 hf8 dL_room_19 hlocks
set_option maxHeartbeats 4000000 in
set_option maxRecDepth 100000 in
theorem c_L_would (l : Launch) (hfl : l.stackTraces = false) (D : va_G) (t : Nat → ClassId) (a : Nat → Nat) (tc rc : Nat) (ro : Int32) (B : Nat → Int32) (p0 p1 p2 : Int32) (o : Nat) (f : Nat → Int64) (N0 : Nat) (sa : Nat → Nat) (sz : Nat) (htc : tc ≤ 12) : vx_Met l yL_would wsL_would ({ frames := 8, cells := 4, slots := 24, locals := 136 }) (xMu D (xTy t) (xTl N0 sa) [.ref (a 0), .int p0, .int p1, .int p2, .ref o] [xObj a tc rc ro, xArr (t 0) (a 6) 144 B, xLng (t 2) o 1 f] sz) (xQm D (xLp (S := Unit) (kWould tc p0 p1 p2)) (xLr (S := Unit) (kWould tc p0 p1 p2)) [xObj a tc rc ro, xArr (t 0) (a 6) 144 B, xLng (t 2) o 1 f] (xLw [xObj a tc rc ro, xArr (t 0) (a 6) 144 B, xLng (t 2) o 1 f] (fun u : Unit => [xObj a tc rc ro, xArr (t 0) (a 6) 144 B, xLng (t 2) o 1 (vp_updL f 0 (Int32.toInt64 (bI (decide (¬ ro = -1) && !(decide (p2 < leastF B (ix p0) (ix p1)))))))])) sz) (xXt (fun _ => False)) 4 24 (va_A [xObj a tc rc ro, xArr (t 0) (a 6) 144 B, xLng (t 2) o 1 f] sz) := by
  refine vx_ofWH (cc := cL_would) (maxL := 6) (ret := (some .int)) (by decide) rfl ?_
  intro p e s m args below meth c s₁ hB9 hml hv
  obtain ⟨rfl, hsz, hP, hK, hD0, hXX⟩ := hv
  have hx := hB9.exec
  have hb := hB9.bytes
  have hr := hB9.returns
  have hts := atoms_spec (ws := wsL_would) hB9.pre
  have hown : s.vm.findClass RL = some m.cls := findClass_of_methodNamed hB9.named
  have hlocks := hB9.notSynchronized
  have hTab := vx_table (x := yL_would) hB9 (hts (.codeWith yL_would cL_would 6 (some .int) [(0, 19, 22, 19), (0, 19, 26, 21)]) List.mem_cons_self)
  subst hsz
  have hD := hD0.self (sz := s.heap.size)
  generalize hAe : va_A ([xObj a tc rc ro, xArr (t 0) (a 6) 144 B, xLng (t 2) o 1 f]) s.heap.size = A at hD ⊢
  have hA : ∀ q : Nat, s.heap.size ≤ q → A q := fun q h => by rw [← hAe]; exact Or.inr h
  have hS : va_S A s.heap s.heap [] := va_S.rf
  have hP : va_P D vwCl ([xObj a tc rc ro, xArr (t 0) (a 6) 144 B, xLng (t 2) o 1 f]) s.heap := hP
  have hD : va_D A ([xObj a tc rc ro, xArr (t 0) (a 6) 144 B, xLng (t 2) o 1 f]) := hD
  have hl := lv_entry ([.ref (a 0), .int p0, .int p1, .int p2, .ref o]) (n := 6) (Nat.le_of_ble_eq_true rfl)
  rw [lg_entry_eq]
  generalize (lg_sl ([.ref (a 0), .int p0, .int p1, .int p2, .ref o]) ++ List.replicate (6 - (lg_sl ([.ref (a 0), .int p0, .int p1, .int p2, .ref o])).length) Slot.unset).toArray = ls at hl ⊢
  have hl : lv_has ls 6 [(0, .ref (a 0)), (1, .int p0), (2, .int p1), (3, .int p2), (4, .ref o)] := hl
  refine lv_aload hx hb dL_would_0 (lv_at hl 4 rfl) ?_
  refine lv_iconst (v := 0) hx hb dL_would_2 (by decide) ?_
  refine lv_aload_n hx hb dL_would_3 rfl (lv_at hl 0 rfl) ?_
  refine lv_iload_n hx hb dL_would_4 rfl (lv_at hl 1 rfl) ?_
  refine lv_iload_n hx hb dL_would_5 rfl (lv_at hl 2 rfl) ?_
  refine lv_iload_n hx hb dL_would_6 rfl (lv_at hl 3 rfl) ?_
  refine xt_V (b := a 0) (As := [.int p0, .int p1, .int p2]) (rest := [.int 0, .ref o]) ⟨hx, hb, hml, hown, hts⟩ (c_X0_would l hfl D t a tc rc ro B p0 p1 p2 N0 sa htc) (cwV 3 hts gL_would_X0_would rfl rfl rfl hd_X0_would ⟨Nat.le_of_ble_eq_true rfl, Nat.le_of_ble_eq_true rfl⟩) hK hP (fun U hW hU => xTh.warm hW (fun q _ _ => by rw [hU]) hXX.1) (va_recv hK hP (ci := 0) (q0 := 0) rfl rfl) [0, 1] rfl rfl hl.1 rfl (Nat.le_of_ble_eq_true rfl) dL_would_7 ⟨(Nat.le_of_ble_eq_true rfl), (Nat.le_of_ble_eq_true rfl)⟩ (fun E9 ce9 q9 H9 hbad hz9 hk9 hce9 hv9 hcl9 => ?_) (fun ok_1 => ?_)
  · obtain ⟨hE9, hk0⟩ := hbad
    have hr9 : (kWould tc p0 p1 p2) = 1 ∨ (kWould tc p0 p1 p2) = 2 := by revert hk0; unfold kWould; (repeat' split) <;> simp
    have hP : va_P D vwCl ([xObj a tc rc ro, xArr (t 0) (a 6) 144 B, xLng (t 2) o 1 f]) H9 := xl_keep hP hk9
    have hS : va_S A s.heap H9 _ := xl_S9 hS hz9 hk9
    rcases hr9 with hq9 | hq9
    · obtain rfl : E9 = eIO := by rw [hE9, hq9]; rfl
      refine xl_catch (E := eIO) (name := eIO) hown hTab [] (0, 19, 22, 19) [(0, 19, 26, 21)] rfl (fun _ h => nomatch h) (by decide) (by decide) (hts (.classLink RL 19 eIO) (by decide +kernel)) (va_Nw.use rfl (hXX.1.2.2.1 0)) hce9 hv9 hcl9 ?_
      refine lv_astore (lv' := [(5, .ref q9), (0, .ref (a 0)), (1, .int p0), (2, .int p1), (3, .int p2), (4, .ref o)]) hx hb dL_would_22 hl (by decide) rfl (fun ls hl => ?_)
      refine lv_iconst (v := 1) hx hb dL_would_24 (by decide) ?_
      subst hAe
      refine W.widen (k := 4) (n := 24) (Nat.le_of_ble_eq_true rfl) (Nat.le_of_ble_eq_true rfl) ?_
      refine vx_ret ?_
      obtain ⟨hq8, hf8⟩ := xm_end (S := Option (Unit)) (pu := (xLp (S := Unit) (kWould tc p0 p1 p2))) (r := (xLr (S := Unit) (kWould tc p0 p1 p2))) (wc := [xObj a tc rc ro, xArr (t 0) (a 6) 144 B, xLng (t 2) o 1 f]) (w1 := (xLw [xObj a tc rc ro, xArr (t 0) (a 6) 144 B, xLng (t 2) o 1 f] (fun u : Unit => [xObj a tc rc ro, xArr (t 0) (a 6) 144 B, xLng (t 2) o 1 (vp_updL f 0 (Int32.toInt64 (bI (decide (¬ ro = -1) && !(decide (p2 < leastF B (ix p0) (ix p1)))))))]))) (o := some (.int 1)) (args := ([.ref (a 0), .int p0, .int p1, .int p2, .ref o] : List Value).toArray) (none) rfl hk0 (by show some (Value.int 1) = some (Value.int (nI (kWould tc p0 p1 p2))); rw [hq9]; rfl) hP hD hS
      exact W.iret hx hb hr hq8 hf8 dL_would_25 hlocks
    · obtain rfl : E9 = eIA := by rw [hE9, hq9]; rfl
      refine xl_catch (E := eIA) (name := eIA) hown hTab [(0, 19, 22, 19)] (0, 19, 26, 21) [] rfl (List.forall_mem_cons.mpr ⟨⟨by decide, _, hts (.classLink RL 19 eIO) (by decide +kernel), hXX.2.1⟩, (fun _ h => nomatch h)⟩) (by decide) (by decide) (hts (.classLink RL 21 eIA) (by decide +kernel)) (va_Nw.use rfl (hXX.1.2.2.1 1)) hce9 hv9 hcl9 ?_
      refine lv_astore (lv' := [(5, .ref q9), (0, .ref (a 0)), (1, .int p0), (2, .int p1), (3, .int p2), (4, .ref o)]) hx hb dL_would_26 hl (by decide) rfl (fun ls hl => ?_)
      refine lv_iconst (v := 2) hx hb dL_would_28 (by decide) ?_
      subst hAe
      refine W.widen (k := 4) (n := 24) (Nat.le_of_ble_eq_true rfl) (Nat.le_of_ble_eq_true rfl) ?_
      refine vx_ret ?_
      obtain ⟨hq8, hf8⟩ := xm_end (S := Option (Unit)) (pu := (xLp (S := Unit) (kWould tc p0 p1 p2))) (r := (xLr (S := Unit) (kWould tc p0 p1 p2))) (wc := [xObj a tc rc ro, xArr (t 0) (a 6) 144 B, xLng (t 2) o 1 f]) (w1 := (xLw [xObj a tc rc ro, xArr (t 0) (a 6) 144 B, xLng (t 2) o 1 f] (fun u : Unit => [xObj a tc rc ro, xArr (t 0) (a 6) 144 B, xLng (t 2) o 1 (vp_updL f 0 (Int32.toInt64 (bI (decide (¬ ro = -1) && !(decide (p2 < leastF B (ix p0) (ix p1)))))))]))) (o := some (.int 2)) (args := ([.ref (a 0), .int p0, .int p1, .int p2, .ref o] : List Value).toArray) (none) rfl hk0 (by show some (Value.int 2) = some (Value.int (nI (kWould tc p0 p1 p2))); rw [hq9]; rfl) hP hD hS
      exact W.iret hx hb hr hq8 hf8 dL_would_29 hlocks
  refine lv_if_eq (x := bI (decide (¬ ro = -1) && !(decide (p2 < leastF B (ix p0) (ix p1))))) (tgt := 17) hx hb dL_would_10 (by decide) (fun c_2 => ?_) (fun c_2 => ?_)
  · have c_2 := bI_0 c_2
    refine lv_lconst (v := 0) hx hb dL_would_17 rfl ?_
    refine x_topL (w := Int32.toInt64 (bI (decide (¬ ro = -1) && !(decide (p2 < leastF B (ix p0) (ix p1)))))) (by rw [c_2]; rfl) ?_
    refine x_last hx hb hK hP hD hS 2 2 ([xObj a tc rc ro, xArr (t 0) (a 6) 144 B, xLng (t 2) o 1 (vp_updL f 0 (Int32.toInt64 (bI (decide (¬ ro = -1) && !(decide (p2 < leastF B (ix p0) (ix p1)))))))]) rfl rfl (k := 0) rfl (Nat.le_of_ble_eq_true rfl) (Nat.le_of_ble_eq_true rfl) dL_would_18 (fun H locs hP hD hS => ?_)
    refine lv_goto (tgt := 30) hx hb dL_would_19 (by decide) ?_
    refine lv_iconst (v := 0) hx hb dL_would_30 (by decide) ?_
    subst hAe
    refine W.widen (k := 4) (n := 24) (Nat.le_of_ble_eq_true rfl) (Nat.le_of_ble_eq_true rfl) ?_
    refine vx_ret ?_
    obtain ⟨hq8, hf8⟩ := xm_end (S := Option (Unit)) (pu := (xLp (S := Unit) (kWould tc p0 p1 p2))) (r := (xLr (S := Unit) (kWould tc p0 p1 p2))) (wc := [xObj a tc rc ro, xArr (t 0) (a 6) 144 B, xLng (t 2) o 1 f]) (w1 := (xLw [xObj a tc rc ro, xArr (t 0) (a 6) 144 B, xLng (t 2) o 1 f] (fun u : Unit => [xObj a tc rc ro, xArr (t 0) (a 6) 144 B, xLng (t 2) o 1 (vp_updL f 0 (Int32.toInt64 (bI (decide (¬ ro = -1) && !(decide (p2 < leastF B (ix p0) (ix p1)))))))]))) (o := some (.int 0)) (args := ([.ref (a 0), .int p0, .int p1, .int p2, .ref o] : List Value).toArray) (some ()) rfl (show (kWould tc p0 p1 p2) = 0 from ok_1) rfl hP hD hS
    exact W.iret hx hb hr hq8 hf8 dL_would_31 hlocks
  · have c_2 := bI_n0 c_2
    refine lv_lconst (v := 1) hx hb dL_would_13 rfl ?_
    refine lv_goto (tgt := 18) hx hb dL_would_14 (by decide) ?_
    refine x_topL (w := Int32.toInt64 (bI (decide (¬ ro = -1) && !(decide (p2 < leastF B (ix p0) (ix p1)))))) (by rw [c_2]; rfl) ?_
    refine x_last hx hb hK hP hD hS 2 2 ([xObj a tc rc ro, xArr (t 0) (a 6) 144 B, xLng (t 2) o 1 (vp_updL f 0 (Int32.toInt64 (bI (decide (¬ ro = -1) && !(decide (p2 < leastF B (ix p0) (ix p1)))))))]) rfl rfl (k := 0) rfl (Nat.le_of_ble_eq_true rfl) (Nat.le_of_ble_eq_true rfl) dL_would_18 (fun H locs hP hD hS => ?_)
    refine lv_goto (tgt := 30) hx hb dL_would_19 (by decide) ?_
    refine lv_iconst (v := 0) hx hb dL_would_30 (by decide) ?_
    subst hAe
    refine W.widen (k := 4) (n := 24) (Nat.le_of_ble_eq_true rfl) (Nat.le_of_ble_eq_true rfl) ?_
    refine vx_ret ?_
    obtain ⟨hq8, hf8⟩ := xm_end (S := Option (Unit)) (pu := (xLp (S := Unit) (kWould tc p0 p1 p2))) (r := (xLr (S := Unit) (kWould tc p0 p1 p2))) (wc := [xObj a tc rc ro, xArr (t 0) (a 6) 144 B, xLng (t 2) o 1 f]) (w1 := (xLw [xObj a tc rc ro, xArr (t 0) (a 6) 144 B, xLng (t 2) o 1 f] (fun u : Unit => [xObj a tc rc ro, xArr (t 0) (a 6) 144 B, xLng (t 2) o 1 (vp_updL f 0 (Int32.toInt64 (bI (decide (¬ ro = -1) && !(decide (p2 < leastF B (ix p0) (ix p1)))))))]))) (o := some (.int 0)) (args := ([.ref (a 0), .int p0, .int p1, .int p2, .ref o] : List Value).toArray) (some ()) rfl (show (kWould tc p0 p1 p2) = 0 from ok_1) rfl hP hD hS
    exact W.iret hx hb hr hq8 hf8 dL_would_31 hlocks
set_option maxHeartbeats 4000000 in
set_option maxRecDepth 100000 in
theorem c_L_at (l : Launch) (hfl : l.stackTraces = false) (D : va_G) (t : Nat → ClassId) (a : Nat → Nat) (tc rc : Nat) (ro : Int32) (E : Nat → Int32) (p0 : Int32) (o : Nat) (f : Nat → Int64) (N0 : Nat) (sa : Nat → Nat) (sz : Nat) (htc : tc ≤ 12) : vx_Met l yL_at wsL_at ({ frames := 8, cells := 1, slots := 6, locals := 134 }) (xMu D (xTy t) (xTl N0 sa) [.ref (a 0), .int p0, .ref o] [xObj a tc rc ro, xArr (t 0) (a 5) 12 E, xLng (t 2) o 1 f] sz) (xQm D (xLp (S := Unit) (kAt tc ro p0)) (xLr (S := Unit) (c2 (kAt tc ro p0))) [xObj a tc rc ro, xArr (t 0) (a 5) 12 E, xLng (t 2) o 1 f] (xLw [xObj a tc rc ro, xArr (t 0) (a 5) 12 E, xLng (t 2) o 1 f] (fun u : Unit => [xObj a tc rc ro, xArr (t 0) (a 5) 12 E, xLng (t 2) o 1 (vp_updL f 0 (Int32.toInt64 (atF E tc (ix p0) tc 0)))])) sz) (xXt (fun _ => False)) 1 6 (va_A [xObj a tc rc ro, xArr (t 0) (a 5) 12 E, xLng (t 2) o 1 f] sz) := by
  refine vx_ofWH (cc := cL_at) (maxL := 4) (ret := (some .int)) (by decide) rfl ?_
  intro p e s m args below meth c s₁ hB9 hml hv
  obtain ⟨rfl, hsz, hP, hK, hD0, hXX⟩ := hv
  have hx := hB9.exec
  have hb := hB9.bytes
  have hr := hB9.returns
  have hts := atoms_spec (ws := wsL_at) hB9.pre
  have hown : s.vm.findClass RL = some m.cls := findClass_of_methodNamed hB9.named
  have hlocks := hB9.notSynchronized
  have hTab := vx_table (x := yL_at) hB9 (hts (.codeWith yL_at cL_at 4 (some .int) [(0, 9, 12, 19), (0, 9, 15, 13)]) List.mem_cons_self)
  subst hsz
  have hD := hD0.self (sz := s.heap.size)
  generalize hAe : va_A ([xObj a tc rc ro, xArr (t 0) (a 5) 12 E, xLng (t 2) o 1 f]) s.heap.size = A at hD ⊢
  have hA : ∀ q : Nat, s.heap.size ≤ q → A q := fun q h => by rw [← hAe]; exact Or.inr h
  have hS : va_S A s.heap s.heap [] := va_S.rf
  have hP : va_P D vwCl ([xObj a tc rc ro, xArr (t 0) (a 5) 12 E, xLng (t 2) o 1 f]) s.heap := hP
  have hD : va_D A ([xObj a tc rc ro, xArr (t 0) (a 5) 12 E, xLng (t 2) o 1 f]) := hD
  have hl := lv_entry ([.ref (a 0), .int p0, .ref o]) (n := 4) (Nat.le_of_ble_eq_true rfl)
  rw [lg_entry_eq]
  generalize (lg_sl ([.ref (a 0), .int p0, .ref o]) ++ List.replicate (4 - (lg_sl ([.ref (a 0), .int p0, .ref o])).length) Slot.unset).toArray = ls at hl ⊢
  have hl : lv_has ls 4 [(0, .ref (a 0)), (1, .int p0), (2, .ref o)] := hl
  refine lv_aload_n hx hb dL_at_0 rfl (lv_at hl 2 rfl) ?_
  refine lv_iconst (v := 0) hx hb dL_at_1 (by decide) ?_
  refine lv_aload_n hx hb dL_at_2 rfl (lv_at hl 0 rfl) ?_
  refine lv_iload_n hx hb dL_at_3 rfl (lv_at hl 1 rfl) ?_
  refine xt_V (b := a 0) (As := [.int p0]) (rest := [.int 0, .ref o]) ⟨hx, hb, hml, hown, hts⟩ (c_X0_at l hfl D t a tc rc ro E p0 N0 sa htc) (cwV 1 hts gL_at_X0_at rfl rfl rfl hd_X0_at ⟨Nat.le_of_ble_eq_true rfl, Nat.le_of_ble_eq_true rfl⟩) hK hP (fun U hW hU => xTh.warm hW (fun q _ _ => by rw [hU]) hXX.1) (va_recv hK hP (ci := 0) (q0 := 0) rfl rfl) [0, 1] rfl rfl hl.1 rfl (Nat.le_of_ble_eq_true rfl) dL_at_4 ⟨(Nat.le_of_ble_eq_true rfl), (Nat.le_of_ble_eq_true rfl)⟩ (fun E9 ce9 q9 H9 hbad hz9 hk9 hce9 hv9 hcl9 => ?_) (fun ok_1 => ?_)
  · obtain ⟨hE9, hk0⟩ := hbad
    have hr9 : (kAt tc ro p0) = 1 ∨ (kAt tc ro p0) = 3 := by revert hk0; unfold kAt; (repeat' split) <;> simp
    have hP : va_P D vwCl ([xObj a tc rc ro, xArr (t 0) (a 5) 12 E, xLng (t 2) o 1 f]) H9 := xl_keep hP hk9
    have hS : va_S A s.heap H9 _ := xl_S9 hS hz9 hk9
    rcases hr9 with hq9 | hq9
    · obtain rfl : E9 = eIO := by rw [hE9, hq9]; rfl
      refine xl_catch (E := eIO) (name := eIO) hown hTab [] (0, 9, 12, 19) [(0, 9, 15, 13)] rfl (fun _ h => nomatch h) (by decide) (by decide) (hts (.classLink RL 19 eIO) (by decide +kernel)) (va_Nw.use rfl (hXX.1.2.2.1 0)) hce9 hv9 hcl9 ?_
      refine lv_astore_n (lv' := [(3, .ref q9), (0, .ref (a 0)), (1, .int p0), (2, .ref o)]) hx hb dL_at_12 rfl hl (by decide) rfl (fun ls hl => ?_)
      refine lv_iconst (v := 1) hx hb dL_at_13 (by decide) ?_
      subst hAe
      refine W.widen (k := 1) (n := 6) (Nat.le_of_ble_eq_true rfl) (Nat.le_of_ble_eq_true rfl) ?_
      refine vx_ret ?_
      obtain ⟨hq8, hf8⟩ := xm_end (S := Option (Unit)) (pu := (xLp (S := Unit) (kAt tc ro p0))) (r := (xLr (S := Unit) (c2 (kAt tc ro p0)))) (wc := [xObj a tc rc ro, xArr (t 0) (a 5) 12 E, xLng (t 2) o 1 f]) (w1 := (xLw [xObj a tc rc ro, xArr (t 0) (a 5) 12 E, xLng (t 2) o 1 f] (fun u : Unit => [xObj a tc rc ro, xArr (t 0) (a 5) 12 E, xLng (t 2) o 1 (vp_updL f 0 (Int32.toInt64 (atF E tc (ix p0) tc 0)))]))) (o := some (.int 1)) (args := ([.ref (a 0), .int p0, .ref o] : List Value).toArray) (none) rfl hk0 (by show some (Value.int 1) = some (Value.int (nI (c2 (kAt tc ro p0)))); rw [hq9]; rfl) hP hD hS
      exact W.iret hx hb hr hq8 hf8 dL_at_14 hlocks
    · obtain rfl : E9 = eIS := by rw [hE9, hq9]; rfl
      refine xl_catch (E := eIS) (name := eIS) hown hTab [(0, 9, 12, 19)] (0, 9, 15, 13) [] rfl (List.forall_mem_cons.mpr ⟨⟨by decide, _, hts (.classLink RL 19 eIO) (by decide +kernel), hXX.2.2.1⟩, (fun _ h => nomatch h)⟩) (by decide) (by decide) (hts (.classLink RL 13 eIS) (by decide +kernel)) (va_Nw.use rfl (hXX.1.2.2.1 2)) hce9 hv9 hcl9 ?_
      refine lv_astore_n (lv' := [(3, .ref q9), (0, .ref (a 0)), (1, .int p0), (2, .ref o)]) hx hb dL_at_15 rfl hl (by decide) rfl (fun ls hl => ?_)
      refine lv_iconst (v := 2) hx hb dL_at_16 (by decide) ?_
      subst hAe
      refine W.widen (k := 1) (n := 6) (Nat.le_of_ble_eq_true rfl) (Nat.le_of_ble_eq_true rfl) ?_
      refine vx_ret ?_
      obtain ⟨hq8, hf8⟩ := xm_end (S := Option (Unit)) (pu := (xLp (S := Unit) (kAt tc ro p0))) (r := (xLr (S := Unit) (c2 (kAt tc ro p0)))) (wc := [xObj a tc rc ro, xArr (t 0) (a 5) 12 E, xLng (t 2) o 1 f]) (w1 := (xLw [xObj a tc rc ro, xArr (t 0) (a 5) 12 E, xLng (t 2) o 1 f] (fun u : Unit => [xObj a tc rc ro, xArr (t 0) (a 5) 12 E, xLng (t 2) o 1 (vp_updL f 0 (Int32.toInt64 (atF E tc (ix p0) tc 0)))]))) (o := some (.int 2)) (args := ([.ref (a 0), .int p0, .ref o] : List Value).toArray) (none) rfl hk0 (by show some (Value.int 2) = some (Value.int (nI (c2 (kAt tc ro p0)))); rw [hq9]; rfl) hP hD hS
      exact W.iret hx hb hr hq8 hf8 dL_at_17 hlocks
  refine lv_i2l (x := atF E tc (ix p0) tc 0) (v := Int32.toInt64 (atF E tc (ix p0) tc 0)) hx hb dL_at_7 rfl ?_
  refine x_last hx hb hK hP hD hS 2 2 ([xObj a tc rc ro, xArr (t 0) (a 5) 12 E, xLng (t 2) o 1 (vp_updL f 0 (Int32.toInt64 (atF E tc (ix p0) tc 0)))]) rfl rfl (k := 0) rfl (Nat.le_of_ble_eq_true rfl) (Nat.le_of_ble_eq_true rfl) dL_at_8 (fun H locs hP hD hS => ?_)
  refine lv_goto (tgt := 18) hx hb dL_at_9 (by decide) ?_
  refine lv_iconst (v := 0) hx hb dL_at_18 (by decide) ?_
  subst hAe
  refine W.widen (k := 1) (n := 6) (Nat.le_of_ble_eq_true rfl) (Nat.le_of_ble_eq_true rfl) ?_
  refine vx_ret ?_
  obtain ⟨hq8, hf8⟩ := xm_end (S := Option (Unit)) (pu := (xLp (S := Unit) (kAt tc ro p0))) (r := (xLr (S := Unit) (c2 (kAt tc ro p0)))) (wc := [xObj a tc rc ro, xArr (t 0) (a 5) 12 E, xLng (t 2) o 1 f]) (w1 := (xLw [xObj a tc rc ro, xArr (t 0) (a 5) 12 E, xLng (t 2) o 1 f] (fun u : Unit => [xObj a tc rc ro, xArr (t 0) (a 5) 12 E, xLng (t 2) o 1 (vp_updL f 0 (Int32.toInt64 (atF E tc (ix p0) tc 0)))]))) (o := some (.int 0)) (args := ([.ref (a 0), .int p0, .ref o] : List Value).toArray) (some ()) rfl (show (kAt tc ro p0) = 0 from ok_1) rfl hP hD hS
  exact W.iret hx hb hr hq8 hf8 dL_at_19 hlocks
