theorem xAd_ge {n : Nat} {a : Nat → Nat} (h : ∀ k, k < 10 → n ≤ a k) : ∀ k, n ≤ xAd (a 0) (a 1) (a 2) (a 3) (a 4) (a 5) (a 6) (a 7) (a 8) (a 9) k
  | 0 => h 0 (by omega) | 1 => h 1 (by omega) | 2 => h 2 (by omega) | 3 => h 3 (by omega) | 4 => h 4 (by omega) | 5 => h 5 (by omega) | 6 => h 6 (by omega) | 7 => h 7 (by omega) | 8 => h 8 (by omega) | _ + 9 => h 9 (by omega)
theorem ten_ge {n : Nat} {t a mb : Nat → Nat} {o tc rc : Nat} {F T : Nat → Nat} {L : Nat → Int32} {Z : Nat → Bool} {ro : Int32} {E B X R N : Nat → Int32} {th : Int32} {f : Nat → Int64} (hD : va_D (fun q => n ≤ q) (LWd t a mb o tc rc F T L Z ro E B X R N th f)) : ∀ k, k < 10 → n ≤ a k := fun k hk => by
  rcases (by omega : k = 0 ∨ k = 1 ∨ k = 2 ∨ k = 3 ∨ k = 4 ∨ k = 5 ∨ k = 6 ∨ k = 7 ∨ k = 8 ∨ k = 9) with rfl | rfl | rfl | rfl | rfl | rfl | rfl | rfl | rfl | rfl
  · exact hD.2 0 _ rfl
  · exact hD.2 1 _ rfl
  · exact hD.2 2 _ rfl
  · exact hD.2 3 _ rfl
  · exact hD.2 4 _ rfl
  · exact hD.2 5 _ rfl
  · exact hD.2 6 _ rfl
  · exact hD.2 7 _ rfl
  · exact hD.2 8 _ rfl
  · exact hD.2 9 _ rfl
set_option maxHeartbeats 4000000 in
set_option maxRecDepth 100000 in
theorem law_turn {p : Program} {l : Launch} {e : Env} {s : State} {m : MethodId} {below : List Frame} {meth : Method} {c : Code} {Q : State → Prop} {bs Ls : Nat} {xs : Nat → Int32} {D : va_G} {t sa a mb : Nat → Nat} {o j : Nat} (hV : lwEnv p l s m meth c bs Ls xs D t sa) (hj : 4 * j + 4 ≤ Ls) (hn : lwNext p l e s m below meth c Q bs D t a mb o j) {tc rc : Nat} {F T : Nat → Nat} {L : Nat → Int32} {Z : Nat → Bool} {ro : Int32} {E B X R N : Nat → Int32} {th : Int32} {f : Nat → Int64} {d0 : Drawn} (hI : xInv tc rc F T L Z ro E B) (hd0 : s.drawn.sameBut d0 lw_cs) {H : Heap} {locs : List Loc} (hP : va_P D vwCl (LWd t a mb o tc rc F T L Z ro E B X R N th f) H) (hD : va_D (fun q => s.heap.size ≤ q) (LWd t a mb o tc rc F T L Z ro E B X R N th f)) (hS : va_S (fun q => s.heap.size ≤ q) s.heap H locs) {ls : Array Slot} (hl : lv_has ls 9 [(4, .int (nI (4 * j))), (3, .ref o), (2, .ref (mb 0)), (1, .ref (a 0)), (0, .ref bs)]) : W p l e room_1 (s.setDrawn d0) m #[Value.ref bs] below meth c H locs (20 + 1100 * j) (1000 + 14000 * j) Q (F0 m 120 ls []) := by
  obtain ⟨hx, hb, hml, hown, hts0, hXs, hbl, hlocks, hK, hXL, hXX, hfl, hLs⟩ := hV
  obtain ⟨htc, hrc, hF, hL9, hro, hE, hB⟩ := id hI
  have hts := dr_words hts0 d0
  have hown : (s.setDrawn d0).vm.findClass RL = some m.cls := hown
  have hK : va_K D vwCl (xTy t) (s.setDrawn d0) := hK
  have hXs : va_X bs Ls xs (s.setDrawn d0) (s.setDrawn d0).heap := hXs
  have hS : va_S (fun q => s.heap.size ≤ q) (s.setDrawn d0).heap H locs := hS
  have hbl : bs < (s.setDrawn d0).heap.size := hbl
  have hXL : xTl s.heap.size sa (s.setDrawn d0) := xTl.trav _ _ s (s.setDrawn d0) rfl rfl hXL
  have hXX : va_AOA .int (s.setDrawn d0) := aoT s (s.setDrawn d0) rfl rfl hXX
  have hbA : ¬ (fun q : Nat => s.heap.size ≤ q) bs := Nat.not_le.mpr hbl
  have hA : ∀ q : Nat, s.heap.size ≤ q → (fun q : Nat => s.heap.size ≤ q) q := fun _ h => h
  refine lv_aload_n hx hb dL_law_120 rfl (lv_at hl 3 rfl) ?_
  refine lv_aload_n hx hb dL_law_121 rfl (lv_at hl 1 rfl) ?_
  refine xl_S (As := [.ref (a 0), .ref o]) (rest := []) (wr := [xArr (t 0) (a 7) 12 X, xArr (t 0) (a 8) 12 R, xArr (t 0) (a 9) 12 N, xMod mb th tc rc, xArr (t 0) (mb 1) 120 (mkM F T L Z)]) ⟨hx, hb, hml, hown, hts⟩ (xTl.trav _ _) (c_L_turn l hfl D t a tc rc ro F T L Z E B o f s.heap.size sa _ htc hrc hF) (vx_cwSW 2 hts gL_law_L_turn rfl rfl rfl hd_L_turn ⟨Nat.le_of_ble_eq_true rfl, Nat.le_of_ble_eq_true rfl⟩) hK hP hD hS hA (fun U hW hU => xTl.warm hW (fun q h1 h2 => by rw [hU]; exact hS.2.1 q h1 h2) hXL) [0, 1, 2, 3, 4, 5, 6, 12] [7, 8, 9, 10, 11] rfl rfl (by decide) (by decide) (by decide) rfl hl.1 rfl (Nat.le_of_ble_eq_true rfl) dL_law_122 ⟨(by show _ ≤ 601024; omega), (by show _ ≤ 7293034; omega)⟩ (fun u H locs hu hP hD hS hz => ?_)
  rcases u with _ | v9
  · have hk0 : ¬ kTurn tc = 0 := hu
    have hle9 : (kTurn tc) ≤ 3 := by unfold kTurn; (repeat' split) <;> omega
    have hne9 : ¬ nI (c1 (kTurn tc)) = 0 := k_ne (c1_ne hk0) (c1_le hle9)
    have hP : va_P D vwCl ([xObj a tc rc ro, xArr (t 0) (a 1) 30 (xN F), xArr (t 0) (a 2) 30 (xN T), xArr (t 0) (a 3) 30 L, xArr (t 1) (a 4) 30 (xB Z), xArr (t 0) (a 5) 12 E, xArr (t 0) (a 6) 144 B, xArr (t 0) (a 7) 12 X, xArr (t 0) (a 8) 12 R, xArr (t 0) (a 9) 12 N, xMod mb th tc rc, xArr (t 0) (mb 1) 120 (mkM F T L Z), xLng (t 2) o 1 f]) H := hP.sub [5, 6, 7, 8, 9, 10, 11, 0, 1, 2, 3, 4, 12] rfl
    have hD : va_D _ ([xObj a tc rc ro, xArr (t 0) (a 1) 30 (xN F), xArr (t 0) (a 2) 30 (xN T), xArr (t 0) (a 3) 30 L, xArr (t 1) (a 4) 30 (xB Z), xArr (t 0) (a 5) 12 E, xArr (t 0) (a 6) 144 B, xArr (t 0) (a 7) 12 X, xArr (t 0) (a 8) 12 R, xArr (t 0) (a 9) 12 N, xMod mb th tc rc, xArr (t 0) (mb 1) 120 (mkM F T L Z), xLng (t 2) o 1 f]) := hD.sub [5, 6, 7, 8, 9, 10, 11, 0, 1, 2, 3, 4, 12] (by decide) rfl
    refine lv_istore (lv' := [(5, .int (nI (c1 (kTurn tc)))), (4, .int (nI (4 * j))), (3, .ref o), (2, .ref (mb 0)), (1, .ref (a 0)), (0, .ref bs)]) hx hb dL_law_125 hl (by decide) rfl (fun ls hl => ?_)
    refine lv_aload_n hx hb dL_law_127 rfl (lv_at hl 3 rfl) ?_
    refine xm_V (b := mb 0) (As := []) (rest := []) (wr := [xObj a tc rc ro, xArr (t 0) (a 1) 30 (xN F), xArr (t 0) (a 2) 30 (xN T), xArr (t 0) (a 3) 30 L, xArr (t 1) (a 4) 30 (xB Z), xArr (t 0) (a 5) 12 E, xArr (t 0) (a 6) 144 B, xArr (t 0) (a 7) 12 X, xArr (t 0) (a 8) 12 R, xArr (t 0) (a 9) 12 N, xLng (t 2) o 1 f]) ⟨hx, hb, hml, hown, hts⟩ aoT (c_X1_turn l D t mb th tc rc F T L Z _ htc hrc hF) (cwV 0 hts gL_law_X1_turn rfl rfl rfl hd_X1_turn ⟨Nat.le_of_ble_eq_true rfl, Nat.le_of_ble_eq_true rfl⟩) hK hP hD hS hA (fun U hW hU => va_AOA.moved hW.alike hXX) (va_recv hK hP (ci := 1) (q0 := 10) rfl rfl) [10, 11] [0, 1, 2, 3, 4, 5, 6, 7, 8, 9, 12] rfl rfl (by decide) (by decide) (by decide) rfl hl.1 rfl (Nat.le_of_ble_eq_true rfl) dL_law_128 ⟨(by show _ ≤ 601024; omega), (by show _ ≤ 7293034; omega)⟩ (fun u_1 H locs hu9 hP hD hS hz => ?_)
    have hP : va_P D vwCl ([xObj a tc rc ro, xArr (t 0) (a 1) 30 (xN F), xArr (t 0) (a 2) 30 (xN T), xArr (t 0) (a 3) 30 L, xArr (t 1) (a 4) 30 (xB Z), xArr (t 0) (a 5) 12 E, xArr (t 0) (a 6) 144 B, xArr (t 0) (a 7) 12 X, xArr (t 0) (a 8) 12 R, xArr (t 0) (a 9) 12 N, xMod mb (nI (c1 (kTurn tc))) (if c1 (kTurn tc) = 0 then tc + 1 else tc) rc, xArr (t 0) (mb 1) 120 (mkM F T L Z), xLng (t 2) o 1 f]) H := hP.sub [0, 1, 2, 3, 4, 5, 6, 7, 8, 9, 11, 12, 10] rfl
    have hD : va_D _ ([xObj a tc rc ro, xArr (t 0) (a 1) 30 (xN F), xArr (t 0) (a 2) 30 (xN T), xArr (t 0) (a 3) 30 L, xArr (t 1) (a 4) 30 (xB Z), xArr (t 0) (a 5) 12 E, xArr (t 0) (a 6) 144 B, xArr (t 0) (a 7) 12 X, xArr (t 0) (a 8) 12 R, xArr (t 0) (a 9) 12 N, xMod mb (nI (c1 (kTurn tc))) (if c1 (kTurn tc) = 0 then tc + 1 else tc) rc, xArr (t 0) (mb 1) 120 (mkM F T L Z), xLng (t 2) o 1 f]) := hD.sub [0, 1, 2, 3, 4, 5, 6, 7, 8, 9, 11, 12, 10] (by decide) rfl
    have hkk : c1 (kTurn tc) = c1 (kTurn tc) := rfl
    have hkm : ¬ c1 (kTurn tc) = 0 := by rw [hkk]; exact c1_ne hk0
    try simp only [if_neg hkm] at hP hD
    have hP : va_P D vwCl ([xObj a tc rc ro, xArr (t 0) (a 1) 30 (xN F), xArr (t 0) (a 2) 30 (xN T), xArr (t 0) (a 3) 30 L, xArr (t 1) (a 4) 30 (xB Z), xArr (t 0) (a 5) 12 E, xArr (t 0) (a 6) 144 B, xArr (t 0) (a 7) 12 X, xArr (t 0) (a 8) 12 R, xArr (t 0) (a 9) 12 N, xMod mb (nI (c1 (kTurn tc))) tc rc, xArr (t 0) (mb 1) 120 (mkM F T L Z), xLng (t 2) o 1 f]) H := hP
    have hD : va_D _ ([xObj a tc rc ro, xArr (t 0) (a 1) 30 (xN F), xArr (t 0) (a 2) 30 (xN T), xArr (t 0) (a 3) 30 L, xArr (t 1) (a 4) 30 (xB Z), xArr (t 0) (a 5) 12 E, xArr (t 0) (a 6) 144 B, xArr (t 0) (a 7) 12 X, xArr (t 0) (a 8) 12 R, xArr (t 0) (a 9) 12 N, xMod mb (nI (c1 (kTurn tc))) tc rc, xArr (t 0) (mb 1) 120 (mkM F T L Z), xLng (t 2) o 1 f]) := hD
    refine lv_istore (lv' := [(6, .int (if c1 (kTurn tc) = 0 then nI tc else 0)), (5, .int (nI (c1 (kTurn tc)))), (4, .int (nI (4 * j))), (3, .ref o), (2, .ref (mb 0)), (1, .ref (a 0)), (0, .ref bs)]) hx hb dL_law_131 hl (by decide) rfl (fun ls hl => ?_)
    refine lv_aload_n hx hb dL_law_133 rfl (lv_at hl 4 rfl) ?_
    refine xr_V (b := mb 0) (As := []) (rest := []) ⟨hx, hb, hml, hown, hts⟩ (c_X1_thrown l D t mb (nI (c1 (kTurn tc))) tc rc ) (cwV 0 hts gL_law_X1_thrown rfl rfl rfl hd_X1_thrown ⟨Nat.le_of_ble_eq_true rfl, Nat.le_of_ble_eq_true rfl⟩) hK hP (va_recv hK hP (ci := 1) (q0 := 10) rfl rfl) [10] rfl rfl hl.1 rfl (Nat.le_of_ble_eq_true rfl) dL_law_134 ⟨(by show _ ≤ 601024; omega), (by show _ ≤ 7293034; omega)⟩ ?_
    refine lv_iload hx hb dL_law_137 (lv_at hl 1 rfl) ?_
    refine lv_icmp_eq (tgt := 144) hx hb dL_law_139 (by decide) (fun _ => ?_) (fun h9 => absurd rfl h9)
    refine lv_iload hx hb dL_law_144 (lv_at hl 1 rfl) ?_
    refine lv_if_ne (tgt := 161) hx hb dL_law_146 (by decide) (fun _ => ?_) (fun h9 => absurd h9 hne9)
    refine lv_goto (tgt := 996) hx hb dL_law_161 (by decide) ?_
    refine W.widen (k := 20 + 1100 * j + 1100) (n := 1000 + 14000 * j + 14000) (by omega) (by omega) ?_
    exact hn tc rc F T L Z ro E B X R N (nI (c1 (kTurn tc))) f d0 hI hd0 _ _ hP hD hS _ (lv_sub hl [2, 3, 4, 5, 6] rfl)
  · have hk0 : kTurn tc = 0 := hu
    have hP : va_P D vwCl ([xObj a (tc + 1) rc (sRo F T L Z (tc + 1) rc E), xArr (t 0) (a 1) 30 (xN F), xArr (t 0) (a 2) 30 (xN T), xArr (t 0) (a 3) 30 L, xArr (t 1) (a 4) 30 (xB Z), xArr (t 0) (a 5) 12 (sE F T L Z (tc + 1) rc E), xArr (t 0) (a 6) 144 (sB F T L Z (tc + 1) rc E B), xArr (t 0) (a 7) 12 X, xArr (t 0) (a 8) 12 R, xArr (t 0) (a 9) 12 N, xMod mb th tc rc, xArr (t 0) (mb 1) 120 (mkM F T L Z), xLng (t 2) o 1 (vp_updL f 0 (Int32.toInt64 (nI tc)))]) H := hP.sub [5, 6, 7, 8, 9, 10, 11, 0, 1, 2, 3, 4, 12] rfl
    have hD : va_D _ ([xObj a (tc + 1) rc (sRo F T L Z (tc + 1) rc E), xArr (t 0) (a 1) 30 (xN F), xArr (t 0) (a 2) 30 (xN T), xArr (t 0) (a 3) 30 L, xArr (t 1) (a 4) 30 (xB Z), xArr (t 0) (a 5) 12 (sE F T L Z (tc + 1) rc E), xArr (t 0) (a 6) 144 (sB F T L Z (tc + 1) rc E B), xArr (t 0) (a 7) 12 X, xArr (t 0) (a 8) 12 R, xArr (t 0) (a 9) 12 N, xMod mb th tc rc, xArr (t 0) (mb 1) 120 (mkM F T L Z), xLng (t 2) o 1 (vp_updL f 0 (Int32.toInt64 (nI tc)))]) := hD.sub [5, 6, 7, 8, 9, 10, 11, 0, 1, 2, 3, 4, 12] (by decide) rfl
    refine lv_istore (lv' := [(5, .int 0), (4, .int (nI (4 * j))), (3, .ref o), (2, .ref (mb 0)), (1, .ref (a 0)), (0, .ref bs)]) hx hb dL_law_125 hl (by decide) rfl (fun ls hl => ?_)
    refine lv_aload_n hx hb dL_law_127 rfl (lv_at hl 3 rfl) ?_
    refine xm_V (b := mb 0) (As := []) (rest := []) (wr := [xObj a (tc + 1) rc (sRo F T L Z (tc + 1) rc E), xArr (t 0) (a 1) 30 (xN F), xArr (t 0) (a 2) 30 (xN T), xArr (t 0) (a 3) 30 L, xArr (t 1) (a 4) 30 (xB Z), xArr (t 0) (a 5) 12 (sE F T L Z (tc + 1) rc E), xArr (t 0) (a 6) 144 (sB F T L Z (tc + 1) rc E B), xArr (t 0) (a 7) 12 X, xArr (t 0) (a 8) 12 R, xArr (t 0) (a 9) 12 N, xLng (t 2) o 1 (vp_updL f 0 (Int32.toInt64 (nI tc)))]) ⟨hx, hb, hml, hown, hts⟩ aoT (c_X1_turn l D t mb th tc rc F T L Z _ htc hrc hF) (cwV 0 hts gL_law_X1_turn rfl rfl rfl hd_X1_turn ⟨Nat.le_of_ble_eq_true rfl, Nat.le_of_ble_eq_true rfl⟩) hK hP hD hS hA (fun U hW hU => va_AOA.moved hW.alike hXX) (va_recv hK hP (ci := 1) (q0 := 10) rfl rfl) [10, 11] [0, 1, 2, 3, 4, 5, 6, 7, 8, 9, 12] rfl rfl (by decide) (by decide) (by decide) rfl hl.1 rfl (Nat.le_of_ble_eq_true rfl) dL_law_128 ⟨(by show _ ≤ 601024; omega), (by show _ ≤ 7293034; omega)⟩ (fun u_2 H locs hu9 hP hD hS hz => ?_)
    have hP : va_P D vwCl ([xObj a (tc + 1) rc (sRo F T L Z (tc + 1) rc E), xArr (t 0) (a 1) 30 (xN F), xArr (t 0) (a 2) 30 (xN T), xArr (t 0) (a 3) 30 L, xArr (t 1) (a 4) 30 (xB Z), xArr (t 0) (a 5) 12 (sE F T L Z (tc + 1) rc E), xArr (t 0) (a 6) 144 (sB F T L Z (tc + 1) rc E B), xArr (t 0) (a 7) 12 X, xArr (t 0) (a 8) 12 R, xArr (t 0) (a 9) 12 N, xMod mb (nI (c1 (kTurn tc))) (if c1 (kTurn tc) = 0 then tc + 1 else tc) rc, xArr (t 0) (mb 1) 120 (mkM F T L Z), xLng (t 2) o 1 (vp_updL f 0 (Int32.toInt64 (nI tc)))]) H := hP.sub [0, 1, 2, 3, 4, 5, 6, 7, 8, 9, 11, 12, 10] rfl
    have hD : va_D _ ([xObj a (tc + 1) rc (sRo F T L Z (tc + 1) rc E), xArr (t 0) (a 1) 30 (xN F), xArr (t 0) (a 2) 30 (xN T), xArr (t 0) (a 3) 30 L, xArr (t 1) (a 4) 30 (xB Z), xArr (t 0) (a 5) 12 (sE F T L Z (tc + 1) rc E), xArr (t 0) (a 6) 144 (sB F T L Z (tc + 1) rc E B), xArr (t 0) (a 7) 12 X, xArr (t 0) (a 8) 12 R, xArr (t 0) (a 9) 12 N, xMod mb (nI (c1 (kTurn tc))) (if c1 (kTurn tc) = 0 then tc + 1 else tc) rc, xArr (t 0) (mb 1) 120 (mkM F T L Z), xLng (t 2) o 1 (vp_updL f 0 (Int32.toInt64 (nI tc)))]) := hD.sub [0, 1, 2, 3, 4, 5, 6, 7, 8, 9, 11, 12, 10] (by decide) rfl
    have hkk : c1 (kTurn tc) = c1 (kTurn tc) := rfl
    have hkm : c1 (kTurn tc) = 0 := by rw [hkk]; first | exact hk0 | (rw [hk0]; rfl)
    rw [hkm] at hP hD
    have hP : va_P D vwCl ([xObj a (tc + 1) rc (sRo F T L Z (tc + 1) rc E), xArr (t 0) (a 1) 30 (xN F), xArr (t 0) (a 2) 30 (xN T), xArr (t 0) (a 3) 30 L, xArr (t 1) (a 4) 30 (xB Z), xArr (t 0) (a 5) 12 (sE F T L Z (tc + 1) rc E), xArr (t 0) (a 6) 144 (sB F T L Z (tc + 1) rc E B), xArr (t 0) (a 7) 12 X, xArr (t 0) (a 8) 12 R, xArr (t 0) (a 9) 12 N, xMod mb 0 (tc + 1) rc, xArr (t 0) (mb 1) 120 (mkM F T L Z), xLng (t 2) o 1 (vp_updL f 0 (Int32.toInt64 (nI tc)))]) H := hP
    have hD : va_D _ ([xObj a (tc + 1) rc (sRo F T L Z (tc + 1) rc E), xArr (t 0) (a 1) 30 (xN F), xArr (t 0) (a 2) 30 (xN T), xArr (t 0) (a 3) 30 L, xArr (t 1) (a 4) 30 (xB Z), xArr (t 0) (a 5) 12 (sE F T L Z (tc + 1) rc E), xArr (t 0) (a 6) 144 (sB F T L Z (tc + 1) rc E B), xArr (t 0) (a 7) 12 X, xArr (t 0) (a 8) 12 R, xArr (t 0) (a 9) 12 N, xMod mb 0 (tc + 1) rc, xArr (t 0) (mb 1) 120 (mkM F T L Z), xLng (t 2) o 1 (vp_updL f 0 (Int32.toInt64 (nI tc)))]) := hD
    refine x_top (w := nI tc) (by rw [if_pos hkm]) ?_
    refine lv_istore (lv' := [(6, .int (nI tc)), (5, .int 0), (4, .int (nI (4 * j))), (3, .ref o), (2, .ref (mb 0)), (1, .ref (a 0)), (0, .ref bs)]) hx hb dL_law_131 hl (by decide) rfl (fun ls hl => ?_)
    refine lv_aload_n hx hb dL_law_133 rfl (lv_at hl 4 rfl) ?_
    refine xr_V (b := mb 0) (As := []) (rest := []) ⟨hx, hb, hml, hown, hts⟩ (c_X1_thrown l D t mb 0 (tc + 1) rc ) (cwV 0 hts gL_law_X1_thrown rfl rfl rfl hd_X1_thrown ⟨Nat.le_of_ble_eq_true rfl, Nat.le_of_ble_eq_true rfl⟩) hK hP (va_recv hK hP (ci := 1) (q0 := 10) rfl rfl) [10] rfl rfl hl.1 rfl (Nat.le_of_ble_eq_true rfl) dL_law_134 ⟨(by show _ ≤ 601024; omega), (by show _ ≤ 7293034; omega)⟩ ?_
    refine x_top (w := 0) rfl ?_
    refine lv_iload hx hb dL_law_137 (lv_at hl 1 rfl) ?_
    refine lv_icmp_eq (tgt := 144) hx hb dL_law_139 (by decide) (fun c_3 => ?_) (fun c_3 => ?_)
    rotate_left
    · exact False.elim (by revert c_3; decide)
    refine lv_iload hx hb dL_law_144 (lv_at hl 1 rfl) ?_
    refine lv_if_ne (tgt := 161) hx hb dL_law_146 (by decide) (fun c_4 => ?_) (fun c_4 => ?_)
    · exact False.elim (by revert c_4; decide)
    refine lv_aload_n hx hb dL_law_149 rfl (lv_at hl 3 rfl) ?_
    refine lv_iconst (v := 0) hx hb dL_law_150 (by decide) ?_
    refine x_lald hx hb hK hP 12 2 rfl rfl (k := 0) (Nat.le_of_ble_eq_true rfl) (Nat.le_of_ble_eq_true rfl) dL_law_151 ?_
    refine x_topL (w := Int32.toInt64 (nI tc)) rfl ?_
    refine lv_iload hx hb dL_law_152 (lv_at hl 0 rfl) ?_
    refine lv_i2l (x := nI tc) (v := Int32.toInt64 (nI tc)) hx hb dL_law_154 rfl ?_
    refine x_lcmp (v := 0) hx hb (lcmp_self _) dL_law_155 ?_
    refine lv_if_eq (tgt := 161) hx hb dL_law_156 (by decide) (fun c_5 => ?_) (fun c_5 => ?_)
    rotate_left
    · exact False.elim (by revert c_5; decide)
    refine lv_goto (tgt := 996) hx hb dL_law_161 (by decide) ?_
    refine W.widen (k := 20 + 1100 * j + 1100) (n := 1000 + 14000 * j + 14000) (by omega) (by omega) ?_
    exact hn (tc + 1) rc F T L Z (sRo F T L Z (tc + 1) rc E) (sE F T L Z (tc + 1) rc E) (sB F T L Z (tc + 1) rc E B) X R N 0 (vp_updL f 0 (Int32.toInt64 (nI tc))) d0 (q_settle (by have := kTurn_0 hk0; omega) hrc (okR_turn hF) hL9 E B) hd0 _ _ hP hD hS _ (lv_sub hl [2, 3, 4, 5, 6] rfl)
set_option maxHeartbeats 4000000 in
set_option maxRecDepth 100000 in
theorem law_tie {p : Program} {l : Launch} {e : Env} {s : State} {m : MethodId} {below : List Frame} {meth : Method} {c : Code} {Q : State → Prop} {bs Ls : Nat} {xs : Nat → Int32} {D : va_G} {t sa a mb : Nat → Nat} {o j : Nat} (hV : lwEnv p l s m meth c bs Ls xs D t sa) (hj : 4 * j + 4 ≤ Ls) (hn : lwNext p l e s m below meth c Q bs D t a mb o j) {tc rc : Nat} {F T : Nat → Nat} {L : Nat → Int32} {Z : Nat → Bool} {ro : Int32} {E B X R N : Nat → Int32} {th : Int32} {f : Nat → Int64} {d0 : Drawn} (hI : xInv tc rc F T L Z ro E B) (hd0 : s.drawn.sameBut d0 lw_cs) {H : Heap} {locs : List Loc} (hP : va_P D vwCl (LWd t a mb o tc rc F T L Z ro E B X R N th f) H) (hD : va_D (fun q => s.heap.size ≤ q) (LWd t a mb o tc rc F T L Z ro E B X R N th f)) (hS : va_S (fun q => s.heap.size ≤ q) s.heap H locs) {ls : Array Slot} (hl : lv_has ls 9 [(4, .int (nI (4 * j))), (3, .ref o), (2, .ref (mb 0)), (1, .ref (a 0)), (0, .ref bs)]) : W p l e room_1 (s.setDrawn d0) m #[Value.ref bs] below meth c H locs (20 + 1100 * j) (1000 + 14000 * j) Q (F0 m 164 ls []) := by
  obtain ⟨hx, hb, hml, hown, hts0, hXs, hbl, hlocks, hK, hXL, hXX, hfl, hLs⟩ := hV
  obtain ⟨htc, hrc, hF, hL9, hro, hE, hB⟩ := id hI
  have hts := dr_words hts0 d0
  have hown : (s.setDrawn d0).vm.findClass RL = some m.cls := hown
  have hK : va_K D vwCl (xTy t) (s.setDrawn d0) := hK
  have hXs : va_X bs Ls xs (s.setDrawn d0) (s.setDrawn d0).heap := hXs
  have hS : va_S (fun q => s.heap.size ≤ q) (s.setDrawn d0).heap H locs := hS
  have hbl : bs < (s.setDrawn d0).heap.size := hbl
  have hXL : xTl s.heap.size sa (s.setDrawn d0) := xTl.trav _ _ s (s.setDrawn d0) rfl rfl hXL
  have hXX : va_AOA .int (s.setDrawn d0) := aoT s (s.setDrawn d0) rfl rfl hXX
  have hbA : ¬ (fun q : Nat => s.heap.size ≤ q) bs := Nat.not_le.mpr hbl
  have hA : ∀ q : Nat, s.heap.size ≤ q → (fun q : Nat => s.heap.size ≤ q) q := fun _ h => h
  obtain ⟨p0, hp0⟩ : ∃ x, x = xs (4 * j + 1) := ⟨_, rfl⟩
  obtain ⟨p1, hp1⟩ : ∃ x, x = xs (4 * j + 2) := ⟨_, rfl⟩
  obtain ⟨p2, hp2⟩ : ∃ x, x = xs (4 * j + 3) := ⟨_, rfl⟩
  refine lv_aload_n hx hb dL_law_164 rfl (lv_at hl 3 rfl) ?_
  refine lv_aload_n hx hb dL_law_165 rfl (lv_at hl 4 rfl) ?_
  refine lv_iload hx hb dL_law_166 (lv_at hl 0 rfl) ?_
  refine lv_iconst (v := 1) hx hb dL_law_168 (by decide) ?_
  refine lv_iadd (x := nI (4 * j)) (y := 1) hx hb dL_law_169 ?_
  refine x_top (w := nI (4 * j + 1)) (nI_add (4 * j) 1) ?_
  refine va_sld hx hb hXs hbl hbA hS (vp_in_nI (show 4 * j + 1 < Ls by omega) (by omega)) dL_law_170 ?_
  refine x_top (w := p0) (by rw [nI_clamp (by omega)]; exact hp0.symm) ?_
  refine lv_aload_n hx hb dL_law_171 rfl (lv_at hl 4 rfl) ?_
  refine lv_iload hx hb dL_law_172 (lv_at hl 0 rfl) ?_
  refine lv_iconst (v := 2) hx hb dL_law_174 (by decide) ?_
  refine lv_iadd (x := nI (4 * j)) (y := 2) hx hb dL_law_175 ?_
  refine x_top (w := nI (4 * j + 2)) (nI_add (4 * j) 2) ?_
  refine va_sld hx hb hXs hbl hbA hS (vp_in_nI (show 4 * j + 2 < Ls by omega) (by omega)) dL_law_176 ?_
  refine x_top (w := p1) (by rw [nI_clamp (by omega)]; exact hp1.symm) ?_
  refine lv_aload_n hx hb dL_law_177 rfl (lv_at hl 4 rfl) ?_
  refine lv_iload hx hb dL_law_178 (lv_at hl 0 rfl) ?_
  refine lv_iconst (v := 3) hx hb dL_law_180 (by decide) ?_
  refine lv_iadd (x := nI (4 * j)) (y := 3) hx hb dL_law_181 ?_
  refine x_top (w := nI (4 * j + 3)) (nI_add (4 * j) 3) ?_
  refine va_sld hx hb hXs hbl hbA hS (vp_in_nI (show 4 * j + 3 < Ls by omega) (by omega)) dL_law_182 ?_
  refine x_top (w := p2) (by rw [nI_clamp (by omega)]; exact hp2.symm) ?_
  refine lv_aload_n hx hb dL_law_183 rfl (lv_at hl 1 rfl) ?_
  refine xl_S (As := [.ref (a 0), .int p0, .int p1, .int p2, .ref o]) (rest := []) (wr := [xArr (t 0) (a 7) 12 X, xArr (t 0) (a 8) 12 R, xArr (t 0) (a 9) 12 N, xMod mb th tc rc, xArr (t 0) (mb 1) 120 (mkM F T L Z)]) ⟨hx, hb, hml, hown, hts⟩ (xTl.trav _ _) (c_L_tie l hfl D t a tc rc ro F T L Z E B p0 p1 p2 o f s.heap.size sa _ htc hrc hF) (vx_cwSW 5 hts gL_law_L_tie rfl rfl rfl hd_L_tie ⟨Nat.le_of_ble_eq_true rfl, Nat.le_of_ble_eq_true rfl⟩) hK hP hD hS hA (fun U hW hU => xTl.warm hW (fun q h1 h2 => by rw [hU]; exact hS.2.1 q h1 h2) hXL) [0, 1, 2, 3, 4, 5, 6, 12] [7, 8, 9, 10, 11] rfl rfl (by decide) (by decide) (by decide) rfl hl.1 rfl (Nat.le_of_ble_eq_true rfl) dL_law_184 ⟨(by show _ ≤ 601024; omega), (by show _ ≤ 7293034; omega)⟩ (fun u H locs hu hP hD hS hz => ?_)
  rcases u with _ | v9
  · have hk0 : ¬ kTie tc rc p0 p1 p2 = 0 := hu
    have hle9 : (kTie tc rc p0 p1 p2) ≤ 3 := by unfold kTie; (repeat' split) <;> omega
    have hne9 : ¬ nI (kTie tc rc p0 p1 p2) = 0 := k_ne hk0 hle9
    have hP : va_P D vwCl ([xObj a tc rc ro, xArr (t 0) (a 1) 30 (xN F), xArr (t 0) (a 2) 30 (xN T), xArr (t 0) (a 3) 30 L, xArr (t 1) (a 4) 30 (xB Z), xArr (t 0) (a 5) 12 E, xArr (t 0) (a 6) 144 B, xArr (t 0) (a 7) 12 X, xArr (t 0) (a 8) 12 R, xArr (t 0) (a 9) 12 N, xMod mb th tc rc, xArr (t 0) (mb 1) 120 (mkM F T L Z), xLng (t 2) o 1 f]) H := hP.sub [5, 6, 7, 8, 9, 10, 11, 0, 1, 2, 3, 4, 12] rfl
    have hD : va_D _ ([xObj a tc rc ro, xArr (t 0) (a 1) 30 (xN F), xArr (t 0) (a 2) 30 (xN T), xArr (t 0) (a 3) 30 L, xArr (t 1) (a 4) 30 (xB Z), xArr (t 0) (a 5) 12 E, xArr (t 0) (a 6) 144 B, xArr (t 0) (a 7) 12 X, xArr (t 0) (a 8) 12 R, xArr (t 0) (a 9) 12 N, xMod mb th tc rc, xArr (t 0) (mb 1) 120 (mkM F T L Z), xLng (t 2) o 1 f]) := hD.sub [5, 6, 7, 8, 9, 10, 11, 0, 1, 2, 3, 4, 12] (by decide) rfl
    refine lv_istore (lv' := [(5, .int (nI (kTie tc rc p0 p1 p2))), (4, .int (nI (4 * j))), (3, .ref o), (2, .ref (mb 0)), (1, .ref (a 0)), (0, .ref bs)]) hx hb dL_law_187 hl (by decide) rfl (fun ls hl => ?_)
    refine lv_aload_n hx hb dL_law_189 rfl (lv_at hl 3 rfl) ?_
    refine lv_aload_n hx hb dL_law_190 rfl (lv_at hl 5 rfl) ?_
    refine lv_iload hx hb dL_law_191 (lv_at hl 1 rfl) ?_
    refine lv_iconst (v := 1) hx hb dL_law_193 (by decide) ?_
    refine lv_iadd (x := nI (4 * j)) (y := 1) hx hb dL_law_194 ?_
    refine x_top (w := nI (4 * j + 1)) (nI_add (4 * j) 1) ?_
    refine va_sld hx hb hXs hbl hbA hS (vp_in_nI (show 4 * j + 1 < Ls by omega) (by omega)) dL_law_195 ?_
    refine x_top (w := p0) (by rw [nI_clamp (by omega)]; exact hp0.symm) ?_
    refine lv_aload_n hx hb dL_law_196 rfl (lv_at hl 5 rfl) ?_
    refine lv_iload hx hb dL_law_197 (lv_at hl 1 rfl) ?_
    refine lv_iconst (v := 2) hx hb dL_law_199 (by decide) ?_
    refine lv_iadd (x := nI (4 * j)) (y := 2) hx hb dL_law_200 ?_
    refine x_top (w := nI (4 * j + 2)) (nI_add (4 * j) 2) ?_
    refine va_sld hx hb hXs hbl hbA hS (vp_in_nI (show 4 * j + 2 < Ls by omega) (by omega)) dL_law_201 ?_
    refine x_top (w := p1) (by rw [nI_clamp (by omega)]; exact hp1.symm) ?_
    refine lv_aload_n hx hb dL_law_202 rfl (lv_at hl 5 rfl) ?_
    refine lv_iload hx hb dL_law_203 (lv_at hl 1 rfl) ?_
    refine lv_iconst (v := 3) hx hb dL_law_205 (by decide) ?_
    refine lv_iadd (x := nI (4 * j)) (y := 3) hx hb dL_law_206 ?_
    refine x_top (w := nI (4 * j + 3)) (nI_add (4 * j) 3) ?_
    refine va_sld hx hb hXs hbl hbA hS (vp_in_nI (show 4 * j + 3 < Ls by omega) (by omega)) dL_law_207 ?_
    refine x_top (w := p2) (by rw [nI_clamp (by omega)]; exact hp2.symm) ?_
    refine xm_V (b := mb 0) (As := [.int p0, .int p1, .int p2]) (rest := []) (wr := [xObj a tc rc ro, xArr (t 0) (a 1) 30 (xN F), xArr (t 0) (a 2) 30 (xN T), xArr (t 0) (a 3) 30 L, xArr (t 1) (a 4) 30 (xB Z), xArr (t 0) (a 5) 12 E, xArr (t 0) (a 6) 144 B, xArr (t 0) (a 7) 12 X, xArr (t 0) (a 8) 12 R, xArr (t 0) (a 9) 12 N, xLng (t 2) o 1 f]) ⟨hx, hb, hml, hown, hts⟩ aoT (c_X1_tie l D t mb th tc rc F T L Z p0 p1 p2 _ htc hrc hF) (cwV 3 hts gL_law_X1_tie rfl rfl rfl hd_X1_tie ⟨Nat.le_of_ble_eq_true rfl, Nat.le_of_ble_eq_true rfl⟩) hK hP hD hS hA (fun U hW hU => va_AOA.moved hW.alike hXX) (va_recv hK hP (ci := 1) (q0 := 10) rfl rfl) [10, 11] [0, 1, 2, 3, 4, 5, 6, 7, 8, 9, 12] rfl rfl (by decide) (by decide) (by decide) rfl hl.1 rfl (Nat.le_of_ble_eq_true rfl) dL_law_208 ⟨(by show _ ≤ 601024; omega), (by show _ ≤ 7293034; omega)⟩ (fun u_1 H locs hu9 hP hD hS hz => ?_)
    have hP : va_P D vwCl ([xObj a tc rc ro, xArr (t 0) (a 1) 30 (xN F), xArr (t 0) (a 2) 30 (xN T), xArr (t 0) (a 3) 30 L, xArr (t 1) (a 4) 30 (xB Z), xArr (t 0) (a 5) 12 E, xArr (t 0) (a 6) 144 B, xArr (t 0) (a 7) 12 X, xArr (t 0) (a 8) 12 R, xArr (t 0) (a 9) 12 N, xMod mb (nI (kTie tc rc p0 p1 p2)) tc (if kTie tc rc p0 p1 p2 = 0 then rc + 1 else rc), xArr (t 0) (mb 1) 120 (mkM (if kTie tc rc p0 p1 p2 = 0 then updN F rc (ix p0) else F) (if kTie tc rc p0 p1 p2 = 0 then updN T rc (ix p1) else T) (if kTie tc rc p0 p1 p2 = 0 then upd L rc p2 else L) (if kTie tc rc p0 p1 p2 = 0 then updB Z rc true else Z)), xLng (t 2) o 1 f]) H := hP.sub [0, 1, 2, 3, 4, 5, 6, 7, 8, 9, 11, 12, 10] rfl
    have hD : va_D _ ([xObj a tc rc ro, xArr (t 0) (a 1) 30 (xN F), xArr (t 0) (a 2) 30 (xN T), xArr (t 0) (a 3) 30 L, xArr (t 1) (a 4) 30 (xB Z), xArr (t 0) (a 5) 12 E, xArr (t 0) (a 6) 144 B, xArr (t 0) (a 7) 12 X, xArr (t 0) (a 8) 12 R, xArr (t 0) (a 9) 12 N, xMod mb (nI (kTie tc rc p0 p1 p2)) tc (if kTie tc rc p0 p1 p2 = 0 then rc + 1 else rc), xArr (t 0) (mb 1) 120 (mkM (if kTie tc rc p0 p1 p2 = 0 then updN F rc (ix p0) else F) (if kTie tc rc p0 p1 p2 = 0 then updN T rc (ix p1) else T) (if kTie tc rc p0 p1 p2 = 0 then upd L rc p2 else L) (if kTie tc rc p0 p1 p2 = 0 then updB Z rc true else Z)), xLng (t 2) o 1 f]) := hD.sub [0, 1, 2, 3, 4, 5, 6, 7, 8, 9, 11, 12, 10] (by decide) rfl
    have hkk : kTie tc rc p0 p1 p2 = kTie tc rc p0 p1 p2 := rfl
    have hkm : ¬ kTie tc rc p0 p1 p2 = 0 := by rw [hkk]; exact hk0
    try simp only [if_neg hkm] at hP hD
    have hP : va_P D vwCl ([xObj a tc rc ro, xArr (t 0) (a 1) 30 (xN F), xArr (t 0) (a 2) 30 (xN T), xArr (t 0) (a 3) 30 L, xArr (t 1) (a 4) 30 (xB Z), xArr (t 0) (a 5) 12 E, xArr (t 0) (a 6) 144 B, xArr (t 0) (a 7) 12 X, xArr (t 0) (a 8) 12 R, xArr (t 0) (a 9) 12 N, xMod mb (nI (kTie tc rc p0 p1 p2)) tc rc, xArr (t 0) (mb 1) 120 (mkM F T L Z), xLng (t 2) o 1 f]) H := hP
    have hD : va_D _ ([xObj a tc rc ro, xArr (t 0) (a 1) 30 (xN F), xArr (t 0) (a 2) 30 (xN T), xArr (t 0) (a 3) 30 L, xArr (t 1) (a 4) 30 (xB Z), xArr (t 0) (a 5) 12 E, xArr (t 0) (a 6) 144 B, xArr (t 0) (a 7) 12 X, xArr (t 0) (a 8) 12 R, xArr (t 0) (a 9) 12 N, xMod mb (nI (kTie tc rc p0 p1 p2)) tc rc, xArr (t 0) (mb 1) 120 (mkM F T L Z), xLng (t 2) o 1 f]) := hD
    refine lv_istore (lv' := [(6, .int (if kTie tc rc p0 p1 p2 = 0 then nI rc else 0)), (5, .int (nI (kTie tc rc p0 p1 p2))), (4, .int (nI (4 * j))), (3, .ref o), (2, .ref (mb 0)), (1, .ref (a 0)), (0, .ref bs)]) hx hb dL_law_211 hl (by decide) rfl (fun ls hl => ?_)
    refine lv_aload_n hx hb dL_law_213 rfl (lv_at hl 4 rfl) ?_
    refine xr_V (b := mb 0) (As := []) (rest := []) ⟨hx, hb, hml, hown, hts⟩ (c_X1_thrown l D t mb (nI (kTie tc rc p0 p1 p2)) tc rc ) (cwV 0 hts gL_law_X1_thrown rfl rfl rfl hd_X1_thrown ⟨Nat.le_of_ble_eq_true rfl, Nat.le_of_ble_eq_true rfl⟩) hK hP (va_recv hK hP (ci := 1) (q0 := 10) rfl rfl) [10] rfl rfl hl.1 rfl (Nat.le_of_ble_eq_true rfl) dL_law_214 ⟨(by show _ ≤ 601024; omega), (by show _ ≤ 7293034; omega)⟩ ?_
    refine lv_iload hx hb dL_law_217 (lv_at hl 1 rfl) ?_
    refine lv_icmp_eq (tgt := 224) hx hb dL_law_219 (by decide) (fun _ => ?_) (fun h9 => absurd rfl h9)
    refine lv_iload hx hb dL_law_224 (lv_at hl 1 rfl) ?_
    refine lv_if_ne (tgt := 241) hx hb dL_law_226 (by decide) (fun _ => ?_) (fun h9 => absurd h9 hne9)
    refine lv_goto (tgt := 996) hx hb dL_law_241 (by decide) ?_
    refine W.widen (k := 20 + 1100 * j + 1100) (n := 1000 + 14000 * j + 14000) (by omega) (by omega) ?_
    exact hn tc rc F T L Z ro E B X R N (nI (kTie tc rc p0 p1 p2)) f d0 hI hd0 _ _ hP hD hS _ (lv_sub hl [2, 3, 4, 5, 6] rfl)
  · have hk0 : kTie tc rc p0 p1 p2 = 0 := hu
    have hP : va_P D vwCl ([xObj a tc (rc + 1) (sRo (updN F rc (ix p0)) (updN T rc (ix p1)) (upd L rc p2) (updB Z rc true) tc (rc + 1) E), xArr (t 0) (a 1) 30 (xN (updN F rc (ix p0))), xArr (t 0) (a 2) 30 (xN (updN T rc (ix p1))), xArr (t 0) (a 3) 30 (upd L rc p2), xArr (t 1) (a 4) 30 (xB (updB Z rc true)), xArr (t 0) (a 5) 12 (sE (updN F rc (ix p0)) (updN T rc (ix p1)) (upd L rc p2) (updB Z rc true) tc (rc + 1) E), xArr (t 0) (a 6) 144 (sB (updN F rc (ix p0)) (updN T rc (ix p1)) (upd L rc p2) (updB Z rc true) tc (rc + 1) E B), xArr (t 0) (a 7) 12 X, xArr (t 0) (a 8) 12 R, xArr (t 0) (a 9) 12 N, xMod mb th tc rc, xArr (t 0) (mb 1) 120 (mkM F T L Z), xLng (t 2) o 1 (vp_updL f 0 (Int32.toInt64 (nI rc)))]) H := hP.sub [5, 6, 7, 8, 9, 10, 11, 0, 1, 2, 3, 4, 12] rfl
    have hD : va_D _ ([xObj a tc (rc + 1) (sRo (updN F rc (ix p0)) (updN T rc (ix p1)) (upd L rc p2) (updB Z rc true) tc (rc + 1) E), xArr (t 0) (a 1) 30 (xN (updN F rc (ix p0))), xArr (t 0) (a 2) 30 (xN (updN T rc (ix p1))), xArr (t 0) (a 3) 30 (upd L rc p2), xArr (t 1) (a 4) 30 (xB (updB Z rc true)), xArr (t 0) (a 5) 12 (sE (updN F rc (ix p0)) (updN T rc (ix p1)) (upd L rc p2) (updB Z rc true) tc (rc + 1) E), xArr (t 0) (a 6) 144 (sB (updN F rc (ix p0)) (updN T rc (ix p1)) (upd L rc p2) (updB Z rc true) tc (rc + 1) E B), xArr (t 0) (a 7) 12 X, xArr (t 0) (a 8) 12 R, xArr (t 0) (a 9) 12 N, xMod mb th tc rc, xArr (t 0) (mb 1) 120 (mkM F T L Z), xLng (t 2) o 1 (vp_updL f 0 (Int32.toInt64 (nI rc)))]) := hD.sub [5, 6, 7, 8, 9, 10, 11, 0, 1, 2, 3, 4, 12] (by decide) rfl
    refine lv_istore (lv' := [(5, .int 0), (4, .int (nI (4 * j))), (3, .ref o), (2, .ref (mb 0)), (1, .ref (a 0)), (0, .ref bs)]) hx hb dL_law_187 hl (by decide) rfl (fun ls hl => ?_)
    refine lv_aload_n hx hb dL_law_189 rfl (lv_at hl 3 rfl) ?_
    refine lv_aload_n hx hb dL_law_190 rfl (lv_at hl 5 rfl) ?_
    refine lv_iload hx hb dL_law_191 (lv_at hl 1 rfl) ?_
    refine lv_iconst (v := 1) hx hb dL_law_193 (by decide) ?_
    refine lv_iadd (x := nI (4 * j)) (y := 1) hx hb dL_law_194 ?_
    refine x_top (w := nI (4 * j + 1)) (nI_add (4 * j) 1) ?_
    refine va_sld hx hb hXs hbl hbA hS (vp_in_nI (show 4 * j + 1 < Ls by omega) (by omega)) dL_law_195 ?_
    refine x_top (w := p0) (by rw [nI_clamp (by omega)]; exact hp0.symm) ?_
    refine lv_aload_n hx hb dL_law_196 rfl (lv_at hl 5 rfl) ?_
    refine lv_iload hx hb dL_law_197 (lv_at hl 1 rfl) ?_
    refine lv_iconst (v := 2) hx hb dL_law_199 (by decide) ?_
    refine lv_iadd (x := nI (4 * j)) (y := 2) hx hb dL_law_200 ?_
    refine x_top (w := nI (4 * j + 2)) (nI_add (4 * j) 2) ?_
    refine va_sld hx hb hXs hbl hbA hS (vp_in_nI (show 4 * j + 2 < Ls by omega) (by omega)) dL_law_201 ?_
    refine x_top (w := p1) (by rw [nI_clamp (by omega)]; exact hp1.symm) ?_
    refine lv_aload_n hx hb dL_law_202 rfl (lv_at hl 5 rfl) ?_
    refine lv_iload hx hb dL_law_203 (lv_at hl 1 rfl) ?_
    refine lv_iconst (v := 3) hx hb dL_law_205 (by decide) ?_
    refine lv_iadd (x := nI (4 * j)) (y := 3) hx hb dL_law_206 ?_
    refine x_top (w := nI (4 * j + 3)) (nI_add (4 * j) 3) ?_
    refine va_sld hx hb hXs hbl hbA hS (vp_in_nI (show 4 * j + 3 < Ls by omega) (by omega)) dL_law_207 ?_
    refine x_top (w := p2) (by rw [nI_clamp (by omega)]; exact hp2.symm) ?_
    refine xm_V (b := mb 0) (As := [.int p0, .int p1, .int p2]) (rest := []) (wr := [xObj a tc (rc + 1) (sRo (updN F rc (ix p0)) (updN T rc (ix p1)) (upd L rc p2) (updB Z rc true) tc (rc + 1) E), xArr (t 0) (a 1) 30 (xN (updN F rc (ix p0))), xArr (t 0) (a 2) 30 (xN (updN T rc (ix p1))), xArr (t 0) (a 3) 30 (upd L rc p2), xArr (t 1) (a 4) 30 (xB (updB Z rc true)), xArr (t 0) (a 5) 12 (sE (updN F rc (ix p0)) (updN T rc (ix p1)) (upd L rc p2) (updB Z rc true) tc (rc + 1) E), xArr (t 0) (a 6) 144 (sB (updN F rc (ix p0)) (updN T rc (ix p1)) (upd L rc p2) (updB Z rc true) tc (rc + 1) E B), xArr (t 0) (a 7) 12 X, xArr (t 0) (a 8) 12 R, xArr (t 0) (a 9) 12 N, xLng (t 2) o 1 (vp_updL f 0 (Int32.toInt64 (nI rc)))]) ⟨hx, hb, hml, hown, hts⟩ aoT (c_X1_tie l D t mb th tc rc F T L Z p0 p1 p2 _ htc hrc hF) (cwV 3 hts gL_law_X1_tie rfl rfl rfl hd_X1_tie ⟨Nat.le_of_ble_eq_true rfl, Nat.le_of_ble_eq_true rfl⟩) hK hP hD hS hA (fun U hW hU => va_AOA.moved hW.alike hXX) (va_recv hK hP (ci := 1) (q0 := 10) rfl rfl) [10, 11] [0, 1, 2, 3, 4, 5, 6, 7, 8, 9, 12] rfl rfl (by decide) (by decide) (by decide) rfl hl.1 rfl (Nat.le_of_ble_eq_true rfl) dL_law_208 ⟨(by show _ ≤ 601024; omega), (by show _ ≤ 7293034; omega)⟩ (fun u_2 H locs hu9 hP hD hS hz => ?_)
    have hP : va_P D vwCl ([xObj a tc (rc + 1) (sRo (updN F rc (ix p0)) (updN T rc (ix p1)) (upd L rc p2) (updB Z rc true) tc (rc + 1) E), xArr (t 0) (a 1) 30 (xN (updN F rc (ix p0))), xArr (t 0) (a 2) 30 (xN (updN T rc (ix p1))), xArr (t 0) (a 3) 30 (upd L rc p2), xArr (t 1) (a 4) 30 (xB (updB Z rc true)), xArr (t 0) (a 5) 12 (sE (updN F rc (ix p0)) (updN T rc (ix p1)) (upd L rc p2) (updB Z rc true) tc (rc + 1) E), xArr (t 0) (a 6) 144 (sB (updN F rc (ix p0)) (updN T rc (ix p1)) (upd L rc p2) (updB Z rc true) tc (rc + 1) E B), xArr (t 0) (a 7) 12 X, xArr (t 0) (a 8) 12 R, xArr (t 0) (a 9) 12 N, xMod mb (nI (kTie tc rc p0 p1 p2)) tc (if kTie tc rc p0 p1 p2 = 0 then rc + 1 else rc), xArr (t 0) (mb 1) 120 (mkM (if kTie tc rc p0 p1 p2 = 0 then updN F rc (ix p0) else F) (if kTie tc rc p0 p1 p2 = 0 then updN T rc (ix p1) else T) (if kTie tc rc p0 p1 p2 = 0 then upd L rc p2 else L) (if kTie tc rc p0 p1 p2 = 0 then updB Z rc true else Z)), xLng (t 2) o 1 (vp_updL f 0 (Int32.toInt64 (nI rc)))]) H := hP.sub [0, 1, 2, 3, 4, 5, 6, 7, 8, 9, 11, 12, 10] rfl
    have hD : va_D _ ([xObj a tc (rc + 1) (sRo (updN F rc (ix p0)) (updN T rc (ix p1)) (upd L rc p2) (updB Z rc true) tc (rc + 1) E), xArr (t 0) (a 1) 30 (xN (updN F rc (ix p0))), xArr (t 0) (a 2) 30 (xN (updN T rc (ix p1))), xArr (t 0) (a 3) 30 (upd L rc p2), xArr (t 1) (a 4) 30 (xB (updB Z rc true)), xArr (t 0) (a 5) 12 (sE (updN F rc (ix p0)) (updN T rc (ix p1)) (upd L rc p2) (updB Z rc true) tc (rc + 1) E), xArr (t 0) (a 6) 144 (sB (updN F rc (ix p0)) (updN T rc (ix p1)) (upd L rc p2) (updB Z rc true) tc (rc + 1) E B), xArr (t 0) (a 7) 12 X, xArr (t 0) (a 8) 12 R, xArr (t 0) (a 9) 12 N, xMod mb (nI (kTie tc rc p0 p1 p2)) tc (if kTie tc rc p0 p1 p2 = 0 then rc + 1 else rc), xArr (t 0) (mb 1) 120 (mkM (if kTie tc rc p0 p1 p2 = 0 then updN F rc (ix p0) else F) (if kTie tc rc p0 p1 p2 = 0 then updN T rc (ix p1) else T) (if kTie tc rc p0 p1 p2 = 0 then upd L rc p2 else L) (if kTie tc rc p0 p1 p2 = 0 then updB Z rc true else Z)), xLng (t 2) o 1 (vp_updL f 0 (Int32.toInt64 (nI rc)))]) := hD.sub [0, 1, 2, 3, 4, 5, 6, 7, 8, 9, 11, 12, 10] (by decide) rfl
    have hkk : kTie tc rc p0 p1 p2 = kTie tc rc p0 p1 p2 := rfl
    have hkm : kTie tc rc p0 p1 p2 = 0 := by rw [hkk]; first | exact hk0 | (rw [hk0]; rfl)
    rw [hkm] at hP hD
    have hP : va_P D vwCl ([xObj a tc (rc + 1) (sRo (updN F rc (ix p0)) (updN T rc (ix p1)) (upd L rc p2) (updB Z rc true) tc (rc + 1) E), xArr (t 0) (a 1) 30 (xN (updN F rc (ix p0))), xArr (t 0) (a 2) 30 (xN (updN T rc (ix p1))), xArr (t 0) (a 3) 30 (upd L rc p2), xArr (t 1) (a 4) 30 (xB (updB Z rc true)), xArr (t 0) (a 5) 12 (sE (updN F rc (ix p0)) (updN T rc (ix p1)) (upd L rc p2) (updB Z rc true) tc (rc + 1) E), xArr (t 0) (a 6) 144 (sB (updN F rc (ix p0)) (updN T rc (ix p1)) (upd L rc p2) (updB Z rc true) tc (rc + 1) E B), xArr (t 0) (a 7) 12 X, xArr (t 0) (a 8) 12 R, xArr (t 0) (a 9) 12 N, xMod mb 0 tc (rc + 1), xArr (t 0) (mb 1) 120 (mkM (updN F rc (ix p0)) (updN T rc (ix p1)) (upd L rc p2) (updB Z rc true)), xLng (t 2) o 1 (vp_updL f 0 (Int32.toInt64 (nI rc)))]) H := hP
    have hD : va_D _ ([xObj a tc (rc + 1) (sRo (updN F rc (ix p0)) (updN T rc (ix p1)) (upd L rc p2) (updB Z rc true) tc (rc + 1) E), xArr (t 0) (a 1) 30 (xN (updN F rc (ix p0))), xArr (t 0) (a 2) 30 (xN (updN T rc (ix p1))), xArr (t 0) (a 3) 30 (upd L rc p2), xArr (t 1) (a 4) 30 (xB (updB Z rc true)), xArr (t 0) (a 5) 12 (sE (updN F rc (ix p0)) (updN T rc (ix p1)) (upd L rc p2) (updB Z rc true) tc (rc + 1) E), xArr (t 0) (a 6) 144 (sB (updN F rc (ix p0)) (updN T rc (ix p1)) (upd L rc p2) (updB Z rc true) tc (rc + 1) E B), xArr (t 0) (a 7) 12 X, xArr (t 0) (a 8) 12 R, xArr (t 0) (a 9) 12 N, xMod mb 0 tc (rc + 1), xArr (t 0) (mb 1) 120 (mkM (updN F rc (ix p0)) (updN T rc (ix p1)) (upd L rc p2) (updB Z rc true)), xLng (t 2) o 1 (vp_updL f 0 (Int32.toInt64 (nI rc)))]) := hD
    refine x_top (w := nI rc) (by rw [if_pos hkm]) ?_
    refine lv_istore (lv' := [(6, .int (nI rc)), (5, .int 0), (4, .int (nI (4 * j))), (3, .ref o), (2, .ref (mb 0)), (1, .ref (a 0)), (0, .ref bs)]) hx hb dL_law_211 hl (by decide) rfl (fun ls hl => ?_)
    refine lv_aload_n hx hb dL_law_213 rfl (lv_at hl 4 rfl) ?_
    refine xr_V (b := mb 0) (As := []) (rest := []) ⟨hx, hb, hml, hown, hts⟩ (c_X1_thrown l D t mb 0 tc (rc + 1) ) (cwV 0 hts gL_law_X1_thrown rfl rfl rfl hd_X1_thrown ⟨Nat.le_of_ble_eq_true rfl, Nat.le_of_ble_eq_true rfl⟩) hK hP (va_recv hK hP (ci := 1) (q0 := 10) rfl rfl) [10] rfl rfl hl.1 rfl (Nat.le_of_ble_eq_true rfl) dL_law_214 ⟨(by show _ ≤ 601024; omega), (by show _ ≤ 7293034; omega)⟩ ?_
    refine x_top (w := 0) rfl ?_
    refine lv_iload hx hb dL_law_217 (lv_at hl 1 rfl) ?_
    refine lv_icmp_eq (tgt := 224) hx hb dL_law_219 (by decide) (fun c_3 => ?_) (fun c_3 => ?_)
    rotate_left
    · exact False.elim (by revert c_3; decide)
    refine lv_iload hx hb dL_law_224 (lv_at hl 1 rfl) ?_
    refine lv_if_ne (tgt := 241) hx hb dL_law_226 (by decide) (fun c_4 => ?_) (fun c_4 => ?_)
    · exact False.elim (by revert c_4; decide)
    refine lv_aload_n hx hb dL_law_229 rfl (lv_at hl 3 rfl) ?_
    refine lv_iconst (v := 0) hx hb dL_law_230 (by decide) ?_
    refine x_lald hx hb hK hP 12 2 rfl rfl (k := 0) (Nat.le_of_ble_eq_true rfl) (Nat.le_of_ble_eq_true rfl) dL_law_231 ?_
    refine x_topL (w := Int32.toInt64 (nI rc)) rfl ?_
    refine lv_iload hx hb dL_law_232 (lv_at hl 0 rfl) ?_
    refine lv_i2l (x := nI rc) (v := Int32.toInt64 (nI rc)) hx hb dL_law_234 rfl ?_
    refine x_lcmp (v := 0) hx hb (lcmp_self _) dL_law_235 ?_
    refine lv_if_eq (tgt := 241) hx hb dL_law_236 (by decide) (fun c_5 => ?_) (fun c_5 => ?_)
    rotate_left
    · exact False.elim (by revert c_5; decide)
    refine lv_goto (tgt := 996) hx hb dL_law_241 (by decide) ?_
    refine W.widen (k := 20 + 1100 * j + 1100) (n := 1000 + 14000 * j + 14000) (by omega) (by omega) ?_
    exact hn tc (rc + 1) (updN F rc (ix p0)) (updN T rc (ix p1)) (upd L rc p2) (updB Z rc true) (sRo (updN F rc (ix p0)) (updN T rc (ix p1)) (upd L rc p2) (updB Z rc true) tc (rc + 1) E) (sE (updN F rc (ix p0)) (updN T rc (ix p1)) (upd L rc p2) (updB Z rc true) tc (rc + 1) E) (sB (updN F rc (ix p0)) (updN T rc (ix p1)) (upd L rc p2) (updB Z rc true) tc (rc + 1) E B) X R N 0 (vp_updL f 0 (Int32.toInt64 (nI rc))) d0 (q_settle htc (by have := (kTie_0 hk0).2.2.2; omega) (okR_tie hF (ix_lt (kTie_0 hk0).1 (by omega)) (ix_lt (kTie_0 hk0).2.1 (by omega))) (upd_len1 hL9 (lenB_of (kTie_0 hk0).2.2.1)) E B) hd0 _ _ hP hD hS _ (lv_sub hl [2, 3, 4, 5, 6] rfl)
set_option maxHeartbeats 4000000 in
set_option maxRecDepth 100000 in
theorem law_cut {p : Program} {l : Launch} {e : Env} {s : State} {m : MethodId} {below : List Frame} {meth : Method} {c : Code} {Q : State → Prop} {bs Ls : Nat} {xs : Nat → Int32} {D : va_G} {t sa a mb : Nat → Nat} {o j : Nat} (hV : lwEnv p l s m meth c bs Ls xs D t sa) (hj : 4 * j + 4 ≤ Ls) (hn : lwNext p l e s m below meth c Q bs D t a mb o j) {tc rc : Nat} {F T : Nat → Nat} {L : Nat → Int32} {Z : Nat → Bool} {ro : Int32} {E B X R N : Nat → Int32} {th : Int32} {f : Nat → Int64} {d0 : Drawn} (hI : xInv tc rc F T L Z ro E B) (hd0 : s.drawn.sameBut d0 lw_cs) {H : Heap} {locs : List Loc} (hP : va_P D vwCl (LWd t a mb o tc rc F T L Z ro E B X R N th f) H) (hD : va_D (fun q => s.heap.size ≤ q) (LWd t a mb o tc rc F T L Z ro E B X R N th f)) (hS : va_S (fun q => s.heap.size ≤ q) s.heap H locs) {ls : Array Slot} (hl : lv_has ls 9 [(4, .int (nI (4 * j))), (3, .ref o), (2, .ref (mb 0)), (1, .ref (a 0)), (0, .ref bs)]) : W p l e room_1 (s.setDrawn d0) m #[Value.ref bs] below meth c H locs (20 + 1100 * j) (1000 + 14000 * j) Q (F0 m 244 ls []) := by
  obtain ⟨hx, hb, hml, hown, hts0, hXs, hbl, hlocks, hK, hXL, hXX, hfl, hLs⟩ := hV
  obtain ⟨htc, hrc, hF, hL9, hro, hE, hB⟩ := id hI
  have hts := dr_words hts0 d0
  have hown : (s.setDrawn d0).vm.findClass RL = some m.cls := hown
  have hK : va_K D vwCl (xTy t) (s.setDrawn d0) := hK
  have hXs : va_X bs Ls xs (s.setDrawn d0) (s.setDrawn d0).heap := hXs
  have hS : va_S (fun q => s.heap.size ≤ q) (s.setDrawn d0).heap H locs := hS
  have hbl : bs < (s.setDrawn d0).heap.size := hbl
  have hXL : xTl s.heap.size sa (s.setDrawn d0) := xTl.trav _ _ s (s.setDrawn d0) rfl rfl hXL
  have hXX : va_AOA .int (s.setDrawn d0) := aoT s (s.setDrawn d0) rfl rfl hXX
  have hbA : ¬ (fun q : Nat => s.heap.size ≤ q) bs := Nat.not_le.mpr hbl
  have hA : ∀ q : Nat, s.heap.size ≤ q → (fun q : Nat => s.heap.size ≤ q) q := fun _ h => h
  obtain ⟨p0, hp0⟩ : ∃ x, x = xs (4 * j + 1) := ⟨_, rfl⟩
  obtain ⟨p1, hp1⟩ : ∃ x, x = xs (4 * j + 2) := ⟨_, rfl⟩
  refine lv_aload_n hx hb dL_law_244 rfl (lv_at hl 3 rfl) ?_
  refine lv_aload_n hx hb dL_law_245 rfl (lv_at hl 4 rfl) ?_
  refine lv_iload hx hb dL_law_246 (lv_at hl 0 rfl) ?_
  refine lv_iconst (v := 1) hx hb dL_law_248 (by decide) ?_
  refine lv_iadd (x := nI (4 * j)) (y := 1) hx hb dL_law_249 ?_
  refine x_top (w := nI (4 * j + 1)) (nI_add (4 * j) 1) ?_
  refine va_sld hx hb hXs hbl hbA hS (vp_in_nI (show 4 * j + 1 < Ls by omega) (by omega)) dL_law_250 ?_
  refine x_top (w := p0) (by rw [nI_clamp (by omega)]; exact hp0.symm) ?_
  refine lv_aload_n hx hb dL_law_251 rfl (lv_at hl 4 rfl) ?_
  refine lv_iload hx hb dL_law_252 (lv_at hl 0 rfl) ?_
  refine lv_iconst (v := 2) hx hb dL_law_254 (by decide) ?_
  refine lv_iadd (x := nI (4 * j)) (y := 2) hx hb dL_law_255 ?_
  refine x_top (w := nI (4 * j + 2)) (nI_add (4 * j) 2) ?_
  refine va_sld hx hb hXs hbl hbA hS (vp_in_nI (show 4 * j + 2 < Ls by omega) (by omega)) dL_law_256 ?_
  refine x_top (w := p1) (by rw [nI_clamp (by omega)]; exact hp1.symm) ?_
  refine lv_aload_n hx hb dL_law_257 rfl (lv_at hl 1 rfl) ?_
  refine xl_S (As := [.ref (a 0), .int p0, .int p1, .ref o]) (rest := []) (wr := [xArr (t 0) (a 7) 12 X, xArr (t 0) (a 8) 12 R, xArr (t 0) (a 9) 12 N, xMod mb th tc rc, xArr (t 0) (mb 1) 120 (mkM F T L Z)]) ⟨hx, hb, hml, hown, hts⟩ (xTl.trav _ _) (c_L_cut l hfl D t a tc rc ro F T L Z E B p0 p1 o f s.heap.size sa _ htc hrc hF) (vx_cwSW 4 hts gL_law_L_cut rfl rfl rfl hd_L_cut ⟨Nat.le_of_ble_eq_true rfl, Nat.le_of_ble_eq_true rfl⟩) hK hP hD hS hA (fun U hW hU => xTl.warm hW (fun q h1 h2 => by rw [hU]; exact hS.2.1 q h1 h2) hXL) [0, 1, 2, 3, 4, 5, 6, 12] [7, 8, 9, 10, 11] rfl rfl (by decide) (by decide) (by decide) rfl hl.1 rfl (Nat.le_of_ble_eq_true rfl) dL_law_258 ⟨(by show _ ≤ 601024; omega), (by show _ ≤ 7293034; omega)⟩ (fun u H locs hu hP hD hS hz => ?_)
  rcases u with _ | v9
  · have hk0 : ¬ kCut rc p0 p1 = 0 := hu
    have hle9 : (kCut rc p0 p1) ≤ 3 := by unfold kCut; (repeat' split) <;> omega
    have hne9 : ¬ nI (kCut rc p0 p1) = 0 := k_ne hk0 hle9
    have hP : va_P D vwCl ([xObj a tc rc ro, xArr (t 0) (a 1) 30 (xN F), xArr (t 0) (a 2) 30 (xN T), xArr (t 0) (a 3) 30 L, xArr (t 1) (a 4) 30 (xB Z), xArr (t 0) (a 5) 12 E, xArr (t 0) (a 6) 144 B, xArr (t 0) (a 7) 12 X, xArr (t 0) (a 8) 12 R, xArr (t 0) (a 9) 12 N, xMod mb th tc rc, xArr (t 0) (mb 1) 120 (mkM F T L Z), xLng (t 2) o 1 f]) H := hP.sub [5, 6, 7, 8, 9, 10, 11, 0, 1, 2, 3, 4, 12] rfl
    have hD : va_D _ ([xObj a tc rc ro, xArr (t 0) (a 1) 30 (xN F), xArr (t 0) (a 2) 30 (xN T), xArr (t 0) (a 3) 30 L, xArr (t 1) (a 4) 30 (xB Z), xArr (t 0) (a 5) 12 E, xArr (t 0) (a 6) 144 B, xArr (t 0) (a 7) 12 X, xArr (t 0) (a 8) 12 R, xArr (t 0) (a 9) 12 N, xMod mb th tc rc, xArr (t 0) (mb 1) 120 (mkM F T L Z), xLng (t 2) o 1 f]) := hD.sub [5, 6, 7, 8, 9, 10, 11, 0, 1, 2, 3, 4, 12] (by decide) rfl
    refine lv_istore (lv' := [(5, .int (nI (kCut rc p0 p1))), (4, .int (nI (4 * j))), (3, .ref o), (2, .ref (mb 0)), (1, .ref (a 0)), (0, .ref bs)]) hx hb dL_law_261 hl (by decide) rfl (fun ls hl => ?_)
    refine lv_aload_n hx hb dL_law_263 rfl (lv_at hl 3 rfl) ?_
    refine lv_aload_n hx hb dL_law_264 rfl (lv_at hl 5 rfl) ?_
    refine lv_iload hx hb dL_law_265 (lv_at hl 1 rfl) ?_
    refine lv_iconst (v := 1) hx hb dL_law_267 (by decide) ?_
    refine lv_iadd (x := nI (4 * j)) (y := 1) hx hb dL_law_268 ?_
    refine x_top (w := nI (4 * j + 1)) (nI_add (4 * j) 1) ?_
    refine va_sld hx hb hXs hbl hbA hS (vp_in_nI (show 4 * j + 1 < Ls by omega) (by omega)) dL_law_269 ?_
    refine x_top (w := p0) (by rw [nI_clamp (by omega)]; exact hp0.symm) ?_
    refine lv_aload_n hx hb dL_law_270 rfl (lv_at hl 5 rfl) ?_
    refine lv_iload hx hb dL_law_271 (lv_at hl 1 rfl) ?_
    refine lv_iconst (v := 2) hx hb dL_law_273 (by decide) ?_
    refine lv_iadd (x := nI (4 * j)) (y := 2) hx hb dL_law_274 ?_
    refine x_top (w := nI (4 * j + 2)) (nI_add (4 * j) 2) ?_
    refine va_sld hx hb hXs hbl hbA hS (vp_in_nI (show 4 * j + 2 < Ls by omega) (by omega)) dL_law_275 ?_
    refine x_top (w := p1) (by rw [nI_clamp (by omega)]; exact hp1.symm) ?_
    refine xm_V (b := mb 0) (As := [.int p0, .int p1]) (rest := []) (wr := [xObj a tc rc ro, xArr (t 0) (a 1) 30 (xN F), xArr (t 0) (a 2) 30 (xN T), xArr (t 0) (a 3) 30 L, xArr (t 1) (a 4) 30 (xB Z), xArr (t 0) (a 5) 12 E, xArr (t 0) (a 6) 144 B, xArr (t 0) (a 7) 12 X, xArr (t 0) (a 8) 12 R, xArr (t 0) (a 9) 12 N, xLng (t 2) o 1 f]) ⟨hx, hb, hml, hown, hts⟩ aoT (c_X1_cut l D t mb th tc rc F T L Z p0 p1 _ htc hrc hF) (cwV 2 hts gL_law_X1_cut rfl rfl rfl hd_X1_cut ⟨Nat.le_of_ble_eq_true rfl, Nat.le_of_ble_eq_true rfl⟩) hK hP hD hS hA (fun U hW hU => va_AOA.moved hW.alike hXX) (va_recv hK hP (ci := 1) (q0 := 10) rfl rfl) [10, 11] [0, 1, 2, 3, 4, 5, 6, 7, 8, 9, 12] rfl rfl (by decide) (by decide) (by decide) rfl hl.1 rfl (Nat.le_of_ble_eq_true rfl) dL_law_276 ⟨(by show _ ≤ 601024; omega), (by show _ ≤ 7293034; omega)⟩ (fun u_1 H locs hu9 hP hD hS hz => ?_)
    have hP : va_P D vwCl ([xObj a tc rc ro, xArr (t 0) (a 1) 30 (xN F), xArr (t 0) (a 2) 30 (xN T), xArr (t 0) (a 3) 30 L, xArr (t 1) (a 4) 30 (xB Z), xArr (t 0) (a 5) 12 E, xArr (t 0) (a 6) 144 B, xArr (t 0) (a 7) 12 X, xArr (t 0) (a 8) 12 R, xArr (t 0) (a 9) 12 N, xMod mb (nI (kCut rc p0 p1)) tc rc, xArr (t 0) (mb 1) 120 (mkM F T (if kCut rc p0 p1 = 0 then upd L (ix p0) p1 else L) Z), xLng (t 2) o 1 f]) H := hP.sub [0, 1, 2, 3, 4, 5, 6, 7, 8, 9, 11, 12, 10] rfl
    have hD : va_D _ ([xObj a tc rc ro, xArr (t 0) (a 1) 30 (xN F), xArr (t 0) (a 2) 30 (xN T), xArr (t 0) (a 3) 30 L, xArr (t 1) (a 4) 30 (xB Z), xArr (t 0) (a 5) 12 E, xArr (t 0) (a 6) 144 B, xArr (t 0) (a 7) 12 X, xArr (t 0) (a 8) 12 R, xArr (t 0) (a 9) 12 N, xMod mb (nI (kCut rc p0 p1)) tc rc, xArr (t 0) (mb 1) 120 (mkM F T (if kCut rc p0 p1 = 0 then upd L (ix p0) p1 else L) Z), xLng (t 2) o 1 f]) := hD.sub [0, 1, 2, 3, 4, 5, 6, 7, 8, 9, 11, 12, 10] (by decide) rfl
    have hkk : kCut rc p0 p1 = kCut rc p0 p1 := rfl
    have hkm : ¬ kCut rc p0 p1 = 0 := by rw [hkk]; exact hk0
    try simp only [if_neg hkm] at hP hD
    have hP : va_P D vwCl ([xObj a tc rc ro, xArr (t 0) (a 1) 30 (xN F), xArr (t 0) (a 2) 30 (xN T), xArr (t 0) (a 3) 30 L, xArr (t 1) (a 4) 30 (xB Z), xArr (t 0) (a 5) 12 E, xArr (t 0) (a 6) 144 B, xArr (t 0) (a 7) 12 X, xArr (t 0) (a 8) 12 R, xArr (t 0) (a 9) 12 N, xMod mb (nI (kCut rc p0 p1)) tc rc, xArr (t 0) (mb 1) 120 (mkM F T L Z), xLng (t 2) o 1 f]) H := hP
    have hD : va_D _ ([xObj a tc rc ro, xArr (t 0) (a 1) 30 (xN F), xArr (t 0) (a 2) 30 (xN T), xArr (t 0) (a 3) 30 L, xArr (t 1) (a 4) 30 (xB Z), xArr (t 0) (a 5) 12 E, xArr (t 0) (a 6) 144 B, xArr (t 0) (a 7) 12 X, xArr (t 0) (a 8) 12 R, xArr (t 0) (a 9) 12 N, xMod mb (nI (kCut rc p0 p1)) tc rc, xArr (t 0) (mb 1) 120 (mkM F T L Z), xLng (t 2) o 1 f]) := hD
    refine lv_istore (lv' := [(6, .int (if kCut rc p0 p1 = 0 then L (ix p0) else 0)), (5, .int (nI (kCut rc p0 p1))), (4, .int (nI (4 * j))), (3, .ref o), (2, .ref (mb 0)), (1, .ref (a 0)), (0, .ref bs)]) hx hb dL_law_279 hl (by decide) rfl (fun ls hl => ?_)
    refine lv_aload_n hx hb dL_law_281 rfl (lv_at hl 4 rfl) ?_
    refine xr_V (b := mb 0) (As := []) (rest := []) ⟨hx, hb, hml, hown, hts⟩ (c_X1_thrown l D t mb (nI (kCut rc p0 p1)) tc rc ) (cwV 0 hts gL_law_X1_thrown rfl rfl rfl hd_X1_thrown ⟨Nat.le_of_ble_eq_true rfl, Nat.le_of_ble_eq_true rfl⟩) hK hP (va_recv hK hP (ci := 1) (q0 := 10) rfl rfl) [10] rfl rfl hl.1 rfl (Nat.le_of_ble_eq_true rfl) dL_law_282 ⟨(by show _ ≤ 601024; omega), (by show _ ≤ 7293034; omega)⟩ ?_
    refine lv_iload hx hb dL_law_285 (lv_at hl 1 rfl) ?_
    refine lv_icmp_eq (tgt := 292) hx hb dL_law_287 (by decide) (fun _ => ?_) (fun h9 => absurd rfl h9)
    refine lv_iload hx hb dL_law_292 (lv_at hl 1 rfl) ?_
    refine lv_if_ne (tgt := 309) hx hb dL_law_294 (by decide) (fun _ => ?_) (fun h9 => absurd h9 hne9)
    refine lv_goto (tgt := 996) hx hb dL_law_309 (by decide) ?_
    refine W.widen (k := 20 + 1100 * j + 1100) (n := 1000 + 14000 * j + 14000) (by omega) (by omega) ?_
    exact hn tc rc F T L Z ro E B X R N (nI (kCut rc p0 p1)) f d0 hI hd0 _ _ hP hD hS _ (lv_sub hl [2, 3, 4, 5, 6] rfl)
  · have hk0 : kCut rc p0 p1 = 0 := hu
    have hP : va_P D vwCl ([xObj a tc rc (sRo F T (upd L (ix p0) p1) Z tc rc E), xArr (t 0) (a 1) 30 (xN F), xArr (t 0) (a 2) 30 (xN T), xArr (t 0) (a 3) 30 (upd L (ix p0) p1), xArr (t 1) (a 4) 30 (xB Z), xArr (t 0) (a 5) 12 (sE F T (upd L (ix p0) p1) Z tc rc E), xArr (t 0) (a 6) 144 (sB F T (upd L (ix p0) p1) Z tc rc E B), xArr (t 0) (a 7) 12 X, xArr (t 0) (a 8) 12 R, xArr (t 0) (a 9) 12 N, xMod mb th tc rc, xArr (t 0) (mb 1) 120 (mkM F T L Z), xLng (t 2) o 1 (vp_updL f 0 (Int32.toInt64 (L (ix p0))))]) H := hP.sub [5, 6, 7, 8, 9, 10, 11, 0, 1, 2, 3, 4, 12] rfl
    have hD : va_D _ ([xObj a tc rc (sRo F T (upd L (ix p0) p1) Z tc rc E), xArr (t 0) (a 1) 30 (xN F), xArr (t 0) (a 2) 30 (xN T), xArr (t 0) (a 3) 30 (upd L (ix p0) p1), xArr (t 1) (a 4) 30 (xB Z), xArr (t 0) (a 5) 12 (sE F T (upd L (ix p0) p1) Z tc rc E), xArr (t 0) (a 6) 144 (sB F T (upd L (ix p0) p1) Z tc rc E B), xArr (t 0) (a 7) 12 X, xArr (t 0) (a 8) 12 R, xArr (t 0) (a 9) 12 N, xMod mb th tc rc, xArr (t 0) (mb 1) 120 (mkM F T L Z), xLng (t 2) o 1 (vp_updL f 0 (Int32.toInt64 (L (ix p0))))]) := hD.sub [5, 6, 7, 8, 9, 10, 11, 0, 1, 2, 3, 4, 12] (by decide) rfl
    refine lv_istore (lv' := [(5, .int 0), (4, .int (nI (4 * j))), (3, .ref o), (2, .ref (mb 0)), (1, .ref (a 0)), (0, .ref bs)]) hx hb dL_law_261 hl (by decide) rfl (fun ls hl => ?_)
    refine lv_aload_n hx hb dL_law_263 rfl (lv_at hl 3 rfl) ?_
    refine lv_aload_n hx hb dL_law_264 rfl (lv_at hl 5 rfl) ?_
    refine lv_iload hx hb dL_law_265 (lv_at hl 1 rfl) ?_
    refine lv_iconst (v := 1) hx hb dL_law_267 (by decide) ?_
    refine lv_iadd (x := nI (4 * j)) (y := 1) hx hb dL_law_268 ?_
    refine x_top (w := nI (4 * j + 1)) (nI_add (4 * j) 1) ?_
    refine va_sld hx hb hXs hbl hbA hS (vp_in_nI (show 4 * j + 1 < Ls by omega) (by omega)) dL_law_269 ?_
    refine x_top (w := p0) (by rw [nI_clamp (by omega)]; exact hp0.symm) ?_
    refine lv_aload_n hx hb dL_law_270 rfl (lv_at hl 5 rfl) ?_
    refine lv_iload hx hb dL_law_271 (lv_at hl 1 rfl) ?_
    refine lv_iconst (v := 2) hx hb dL_law_273 (by decide) ?_
    refine lv_iadd (x := nI (4 * j)) (y := 2) hx hb dL_law_274 ?_
    refine x_top (w := nI (4 * j + 2)) (nI_add (4 * j) 2) ?_
    refine va_sld hx hb hXs hbl hbA hS (vp_in_nI (show 4 * j + 2 < Ls by omega) (by omega)) dL_law_275 ?_
    refine x_top (w := p1) (by rw [nI_clamp (by omega)]; exact hp1.symm) ?_
    refine xm_V (b := mb 0) (As := [.int p0, .int p1]) (rest := []) (wr := [xObj a tc rc (sRo F T (upd L (ix p0) p1) Z tc rc E), xArr (t 0) (a 1) 30 (xN F), xArr (t 0) (a 2) 30 (xN T), xArr (t 0) (a 3) 30 (upd L (ix p0) p1), xArr (t 1) (a 4) 30 (xB Z), xArr (t 0) (a 5) 12 (sE F T (upd L (ix p0) p1) Z tc rc E), xArr (t 0) (a 6) 144 (sB F T (upd L (ix p0) p1) Z tc rc E B), xArr (t 0) (a 7) 12 X, xArr (t 0) (a 8) 12 R, xArr (t 0) (a 9) 12 N, xLng (t 2) o 1 (vp_updL f 0 (Int32.toInt64 (L (ix p0))))]) ⟨hx, hb, hml, hown, hts⟩ aoT (c_X1_cut l D t mb th tc rc F T L Z p0 p1 _ htc hrc hF) (cwV 2 hts gL_law_X1_cut rfl rfl rfl hd_X1_cut ⟨Nat.le_of_ble_eq_true rfl, Nat.le_of_ble_eq_true rfl⟩) hK hP hD hS hA (fun U hW hU => va_AOA.moved hW.alike hXX) (va_recv hK hP (ci := 1) (q0 := 10) rfl rfl) [10, 11] [0, 1, 2, 3, 4, 5, 6, 7, 8, 9, 12] rfl rfl (by decide) (by decide) (by decide) rfl hl.1 rfl (Nat.le_of_ble_eq_true rfl) dL_law_276 ⟨(by show _ ≤ 601024; omega), (by show _ ≤ 7293034; omega)⟩ (fun u_2 H locs hu9 hP hD hS hz => ?_)
    have hP : va_P D vwCl ([xObj a tc rc (sRo F T (upd L (ix p0) p1) Z tc rc E), xArr (t 0) (a 1) 30 (xN F), xArr (t 0) (a 2) 30 (xN T), xArr (t 0) (a 3) 30 (upd L (ix p0) p1), xArr (t 1) (a 4) 30 (xB Z), xArr (t 0) (a 5) 12 (sE F T (upd L (ix p0) p1) Z tc rc E), xArr (t 0) (a 6) 144 (sB F T (upd L (ix p0) p1) Z tc rc E B), xArr (t 0) (a 7) 12 X, xArr (t 0) (a 8) 12 R, xArr (t 0) (a 9) 12 N, xMod mb (nI (kCut rc p0 p1)) tc rc, xArr (t 0) (mb 1) 120 (mkM F T (if kCut rc p0 p1 = 0 then upd L (ix p0) p1 else L) Z), xLng (t 2) o 1 (vp_updL f 0 (Int32.toInt64 (L (ix p0))))]) H := hP.sub [0, 1, 2, 3, 4, 5, 6, 7, 8, 9, 11, 12, 10] rfl
    have hD : va_D _ ([xObj a tc rc (sRo F T (upd L (ix p0) p1) Z tc rc E), xArr (t 0) (a 1) 30 (xN F), xArr (t 0) (a 2) 30 (xN T), xArr (t 0) (a 3) 30 (upd L (ix p0) p1), xArr (t 1) (a 4) 30 (xB Z), xArr (t 0) (a 5) 12 (sE F T (upd L (ix p0) p1) Z tc rc E), xArr (t 0) (a 6) 144 (sB F T (upd L (ix p0) p1) Z tc rc E B), xArr (t 0) (a 7) 12 X, xArr (t 0) (a 8) 12 R, xArr (t 0) (a 9) 12 N, xMod mb (nI (kCut rc p0 p1)) tc rc, xArr (t 0) (mb 1) 120 (mkM F T (if kCut rc p0 p1 = 0 then upd L (ix p0) p1 else L) Z), xLng (t 2) o 1 (vp_updL f 0 (Int32.toInt64 (L (ix p0))))]) := hD.sub [0, 1, 2, 3, 4, 5, 6, 7, 8, 9, 11, 12, 10] (by decide) rfl
    have hkk : kCut rc p0 p1 = kCut rc p0 p1 := rfl
    have hkm : kCut rc p0 p1 = 0 := by rw [hkk]; first | exact hk0 | (rw [hk0]; rfl)
    rw [hkm] at hP hD
    have hP : va_P D vwCl ([xObj a tc rc (sRo F T (upd L (ix p0) p1) Z tc rc E), xArr (t 0) (a 1) 30 (xN F), xArr (t 0) (a 2) 30 (xN T), xArr (t 0) (a 3) 30 (upd L (ix p0) p1), xArr (t 1) (a 4) 30 (xB Z), xArr (t 0) (a 5) 12 (sE F T (upd L (ix p0) p1) Z tc rc E), xArr (t 0) (a 6) 144 (sB F T (upd L (ix p0) p1) Z tc rc E B), xArr (t 0) (a 7) 12 X, xArr (t 0) (a 8) 12 R, xArr (t 0) (a 9) 12 N, xMod mb 0 tc rc, xArr (t 0) (mb 1) 120 (mkM F T (upd L (ix p0) p1) Z), xLng (t 2) o 1 (vp_updL f 0 (Int32.toInt64 (L (ix p0))))]) H := hP
    have hD : va_D _ ([xObj a tc rc (sRo F T (upd L (ix p0) p1) Z tc rc E), xArr (t 0) (a 1) 30 (xN F), xArr (t 0) (a 2) 30 (xN T), xArr (t 0) (a 3) 30 (upd L (ix p0) p1), xArr (t 1) (a 4) 30 (xB Z), xArr (t 0) (a 5) 12 (sE F T (upd L (ix p0) p1) Z tc rc E), xArr (t 0) (a 6) 144 (sB F T (upd L (ix p0) p1) Z tc rc E B), xArr (t 0) (a 7) 12 X, xArr (t 0) (a 8) 12 R, xArr (t 0) (a 9) 12 N, xMod mb 0 tc rc, xArr (t 0) (mb 1) 120 (mkM F T (upd L (ix p0) p1) Z), xLng (t 2) o 1 (vp_updL f 0 (Int32.toInt64 (L (ix p0))))]) := hD
    refine x_top (w := L (ix p0)) (by rw [if_pos hkm]) ?_
    refine lv_istore (lv' := [(6, .int (L (ix p0))), (5, .int 0), (4, .int (nI (4 * j))), (3, .ref o), (2, .ref (mb 0)), (1, .ref (a 0)), (0, .ref bs)]) hx hb dL_law_279 hl (by decide) rfl (fun ls hl => ?_)
    refine lv_aload_n hx hb dL_law_281 rfl (lv_at hl 4 rfl) ?_
    refine xr_V (b := mb 0) (As := []) (rest := []) ⟨hx, hb, hml, hown, hts⟩ (c_X1_thrown l D t mb 0 tc rc ) (cwV 0 hts gL_law_X1_thrown rfl rfl rfl hd_X1_thrown ⟨Nat.le_of_ble_eq_true rfl, Nat.le_of_ble_eq_true rfl⟩) hK hP (va_recv hK hP (ci := 1) (q0 := 10) rfl rfl) [10] rfl rfl hl.1 rfl (Nat.le_of_ble_eq_true rfl) dL_law_282 ⟨(by show _ ≤ 601024; omega), (by show _ ≤ 7293034; omega)⟩ ?_
    refine x_top (w := 0) rfl ?_
    refine lv_iload hx hb dL_law_285 (lv_at hl 1 rfl) ?_
    refine lv_icmp_eq (tgt := 292) hx hb dL_law_287 (by decide) (fun c_3 => ?_) (fun c_3 => ?_)
    rotate_left
    · exact False.elim (by revert c_3; decide)
    refine lv_iload hx hb dL_law_292 (lv_at hl 1 rfl) ?_
    refine lv_if_ne (tgt := 309) hx hb dL_law_294 (by decide) (fun c_4 => ?_) (fun c_4 => ?_)
    · exact False.elim (by revert c_4; decide)
    refine lv_aload_n hx hb dL_law_297 rfl (lv_at hl 3 rfl) ?_
    refine lv_iconst (v := 0) hx hb dL_law_298 (by decide) ?_
    refine x_lald hx hb hK hP 12 2 rfl rfl (k := 0) (Nat.le_of_ble_eq_true rfl) (Nat.le_of_ble_eq_true rfl) dL_law_299 ?_
    refine x_topL (w := Int32.toInt64 (L (ix p0))) rfl ?_
    refine lv_iload hx hb dL_law_300 (lv_at hl 0 rfl) ?_
    refine lv_i2l (x := L (ix p0)) (v := Int32.toInt64 (L (ix p0))) hx hb dL_law_302 rfl ?_
    refine x_lcmp (v := 0) hx hb (lcmp_self _) dL_law_303 ?_
    refine lv_if_eq (tgt := 309) hx hb dL_law_304 (by decide) (fun c_5 => ?_) (fun c_5 => ?_)
    rotate_left
    · exact False.elim (by revert c_5; decide)
    refine lv_goto (tgt := 996) hx hb dL_law_309 (by decide) ?_
    refine W.widen (k := 20 + 1100 * j + 1100) (n := 1000 + 14000 * j + 14000) (by omega) (by omega) ?_
    exact hn tc rc F T (upd L (ix p0) p1) Z (sRo F T (upd L (ix p0) p1) Z tc rc E) (sE F T (upd L (ix p0) p1) Z tc rc E) (sB F T (upd L (ix p0) p1) Z tc rc E B) X R N 0 (vp_updL f 0 (Int32.toInt64 (L (ix p0)))) d0 (q_settle htc hrc hF (upd_len hL9 (lenB_of (kCut_0 hk0).2) _) E B) hd0 _ _ hP hD hS _ (lv_sub hl [2, 3, 4, 5, 6] rfl)
set_option maxHeartbeats 4000000 in
set_option maxRecDepth 100000 in
theorem law_knot {p : Program} {l : Launch} {e : Env} {s : State} {m : MethodId} {below : List Frame} {meth : Method} {c : Code} {Q : State → Prop} {bs Ls : Nat} {xs : Nat → Int32} {D : va_G} {t sa a mb : Nat → Nat} {o j : Nat} (hV : lwEnv p l s m meth c bs Ls xs D t sa) (hj : 4 * j + 4 ≤ Ls) (hn : lwNext p l e s m below meth c Q bs D t a mb o j) {tc rc : Nat} {F T : Nat → Nat} {L : Nat → Int32} {Z : Nat → Bool} {ro : Int32} {E B X R N : Nat → Int32} {th : Int32} {f : Nat → Int64} {d0 : Drawn} (hI : xInv tc rc F T L Z ro E B) (hd0 : s.drawn.sameBut d0 lw_cs) {H : Heap} {locs : List Loc} (hP : va_P D vwCl (LWd t a mb o tc rc F T L Z ro E B X R N th f) H) (hD : va_D (fun q => s.heap.size ≤ q) (LWd t a mb o tc rc F T L Z ro E B X R N th f)) (hS : va_S (fun q => s.heap.size ≤ q) s.heap H locs) {ls : Array Slot} (hl : lv_has ls 9 [(4, .int (nI (4 * j))), (3, .ref o), (2, .ref (mb 0)), (1, .ref (a 0)), (0, .ref bs)]) : W p l e room_1 (s.setDrawn d0) m #[Value.ref bs] below meth c H locs (20 + 1100 * j) (1000 + 14000 * j) Q (F0 m 312 ls []) := by
  obtain ⟨hx, hb, hml, hown, hts0, hXs, hbl, hlocks, hK, hXL, hXX, hfl, hLs⟩ := hV
  obtain ⟨htc, hrc, hF, hL9, hro, hE, hB⟩ := id hI
  have hts := dr_words hts0 d0
  have hown : (s.setDrawn d0).vm.findClass RL = some m.cls := hown
  have hK : va_K D vwCl (xTy t) (s.setDrawn d0) := hK
  have hXs : va_X bs Ls xs (s.setDrawn d0) (s.setDrawn d0).heap := hXs
  have hS : va_S (fun q => s.heap.size ≤ q) (s.setDrawn d0).heap H locs := hS
  have hbl : bs < (s.setDrawn d0).heap.size := hbl
  have hXL : xTl s.heap.size sa (s.setDrawn d0) := xTl.trav _ _ s (s.setDrawn d0) rfl rfl hXL
  have hXX : va_AOA .int (s.setDrawn d0) := aoT s (s.setDrawn d0) rfl rfl hXX
  have hbA : ¬ (fun q : Nat => s.heap.size ≤ q) bs := Nat.not_le.mpr hbl
  have hA : ∀ q : Nat, s.heap.size ≤ q → (fun q : Nat => s.heap.size ≤ q) q := fun _ h => h
  obtain ⟨p0, hp0⟩ : ∃ x, x = xs (4 * j + 1) := ⟨_, rfl⟩
  refine lv_aload_n hx hb dL_law_312 rfl (lv_at hl 3 rfl) ?_
  refine lv_aload_n hx hb dL_law_313 rfl (lv_at hl 4 rfl) ?_
  refine lv_iload hx hb dL_law_314 (lv_at hl 0 rfl) ?_
  refine lv_iconst (v := 1) hx hb dL_law_316 (by decide) ?_
  refine lv_iadd (x := nI (4 * j)) (y := 1) hx hb dL_law_317 ?_
  refine x_top (w := nI (4 * j + 1)) (nI_add (4 * j) 1) ?_
  refine va_sld hx hb hXs hbl hbA hS (vp_in_nI (show 4 * j + 1 < Ls by omega) (by omega)) dL_law_318 ?_
  refine x_top (w := p0) (by rw [nI_clamp (by omega)]; exact hp0.symm) ?_
  refine lv_aload_n hx hb dL_law_319 rfl (lv_at hl 1 rfl) ?_
  refine xl_S (As := [.ref (a 0), .int p0, .ref o]) (rest := []) (wr := [xArr (t 0) (a 7) 12 X, xArr (t 0) (a 8) 12 R, xArr (t 0) (a 9) 12 N, xMod mb th tc rc, xArr (t 0) (mb 1) 120 (mkM F T L Z)]) ⟨hx, hb, hml, hown, hts⟩ (xTl.trav _ _) (c_L_knot l hfl D t a tc rc ro F T L Z E B p0 o f s.heap.size sa _ htc hrc hF) (vx_cwSW 3 hts gL_law_L_knot rfl rfl rfl hd_L_knot ⟨Nat.le_of_ble_eq_true rfl, Nat.le_of_ble_eq_true rfl⟩) hK hP hD hS hA (fun U hW hU => xTl.warm hW (fun q h1 h2 => by rw [hU]; exact hS.2.1 q h1 h2) hXL) [0, 1, 2, 3, 4, 5, 6, 12] [7, 8, 9, 10, 11] rfl rfl (by decide) (by decide) (by decide) rfl hl.1 rfl (Nat.le_of_ble_eq_true rfl) dL_law_320 ⟨(by show _ ≤ 601024; omega), (by show _ ≤ 7293034; omega)⟩ (fun u H locs hu hP hD hS hz => ?_)
  rcases u with _ | v9
  · have hk0 : ¬ kIn rc p0 = 0 := hu
    have hle9 : (kIn rc p0) ≤ 3 := by unfold kIn; (repeat' split) <;> omega
    have hne9 : ¬ nI (kIn rc p0) = 0 := k_ne hk0 hle9
    have hP : va_P D vwCl ([xObj a tc rc ro, xArr (t 0) (a 1) 30 (xN F), xArr (t 0) (a 2) 30 (xN T), xArr (t 0) (a 3) 30 L, xArr (t 1) (a 4) 30 (xB Z), xArr (t 0) (a 5) 12 E, xArr (t 0) (a 6) 144 B, xArr (t 0) (a 7) 12 X, xArr (t 0) (a 8) 12 R, xArr (t 0) (a 9) 12 N, xMod mb th tc rc, xArr (t 0) (mb 1) 120 (mkM F T L Z), xLng (t 2) o 1 f]) H := hP.sub [5, 6, 7, 8, 9, 10, 11, 0, 1, 2, 3, 4, 12] rfl
    have hD : va_D _ ([xObj a tc rc ro, xArr (t 0) (a 1) 30 (xN F), xArr (t 0) (a 2) 30 (xN T), xArr (t 0) (a 3) 30 L, xArr (t 1) (a 4) 30 (xB Z), xArr (t 0) (a 5) 12 E, xArr (t 0) (a 6) 144 B, xArr (t 0) (a 7) 12 X, xArr (t 0) (a 8) 12 R, xArr (t 0) (a 9) 12 N, xMod mb th tc rc, xArr (t 0) (mb 1) 120 (mkM F T L Z), xLng (t 2) o 1 f]) := hD.sub [5, 6, 7, 8, 9, 10, 11, 0, 1, 2, 3, 4, 12] (by decide) rfl
    refine lv_istore (lv' := [(5, .int (nI (kIn rc p0))), (4, .int (nI (4 * j))), (3, .ref o), (2, .ref (mb 0)), (1, .ref (a 0)), (0, .ref bs)]) hx hb dL_law_323 hl (by decide) rfl (fun ls hl => ?_)
    refine lv_aload_n hx hb dL_law_325 rfl (lv_at hl 3 rfl) ?_
    refine lv_aload_n hx hb dL_law_326 rfl (lv_at hl 5 rfl) ?_
    refine lv_iload hx hb dL_law_327 (lv_at hl 1 rfl) ?_
    refine lv_iconst (v := 1) hx hb dL_law_329 (by decide) ?_
    refine lv_iadd (x := nI (4 * j)) (y := 1) hx hb dL_law_330 ?_
    refine x_top (w := nI (4 * j + 1)) (nI_add (4 * j) 1) ?_
    refine va_sld hx hb hXs hbl hbA hS (vp_in_nI (show 4 * j + 1 < Ls by omega) (by omega)) dL_law_331 ?_
    refine x_top (w := p0) (by rw [nI_clamp (by omega)]; exact hp0.symm) ?_
    refine xm_V (b := mb 0) (As := [.int p0]) (rest := []) (wr := [xObj a tc rc ro, xArr (t 0) (a 1) 30 (xN F), xArr (t 0) (a 2) 30 (xN T), xArr (t 0) (a 3) 30 L, xArr (t 1) (a 4) 30 (xB Z), xArr (t 0) (a 5) 12 E, xArr (t 0) (a 6) 144 B, xArr (t 0) (a 7) 12 X, xArr (t 0) (a 8) 12 R, xArr (t 0) (a 9) 12 N, xLng (t 2) o 1 f]) ⟨hx, hb, hml, hown, hts⟩ aoT (c_X1_knot l D t mb th tc rc F T L Z p0 _ htc hrc hF) (cwV 1 hts gL_law_X1_knot rfl rfl rfl hd_X1_knot ⟨Nat.le_of_ble_eq_true rfl, Nat.le_of_ble_eq_true rfl⟩) hK hP hD hS hA (fun U hW hU => va_AOA.moved hW.alike hXX) (va_recv hK hP (ci := 1) (q0 := 10) rfl rfl) [10, 11] [0, 1, 2, 3, 4, 5, 6, 7, 8, 9, 12] rfl rfl (by decide) (by decide) (by decide) rfl hl.1 rfl (Nat.le_of_ble_eq_true rfl) dL_law_332 ⟨(by show _ ≤ 601024; omega), (by show _ ≤ 7293034; omega)⟩ (fun u_1 H locs hu9 hP hD hS hz => ?_)
    have hP : va_P D vwCl ([xObj a tc rc ro, xArr (t 0) (a 1) 30 (xN F), xArr (t 0) (a 2) 30 (xN T), xArr (t 0) (a 3) 30 L, xArr (t 1) (a 4) 30 (xB Z), xArr (t 0) (a 5) 12 E, xArr (t 0) (a 6) 144 B, xArr (t 0) (a 7) 12 X, xArr (t 0) (a 8) 12 R, xArr (t 0) (a 9) 12 N, xMod mb (nI (kIn rc p0)) tc rc, xArr (t 0) (mb 1) 120 (mkM F T L (if kIn rc p0 = 0 then updB Z (ix p0) (!(Z (ix p0))) else Z)), xLng (t 2) o 1 f]) H := hP.sub [0, 1, 2, 3, 4, 5, 6, 7, 8, 9, 11, 12, 10] rfl
    have hD : va_D _ ([xObj a tc rc ro, xArr (t 0) (a 1) 30 (xN F), xArr (t 0) (a 2) 30 (xN T), xArr (t 0) (a 3) 30 L, xArr (t 1) (a 4) 30 (xB Z), xArr (t 0) (a 5) 12 E, xArr (t 0) (a 6) 144 B, xArr (t 0) (a 7) 12 X, xArr (t 0) (a 8) 12 R, xArr (t 0) (a 9) 12 N, xMod mb (nI (kIn rc p0)) tc rc, xArr (t 0) (mb 1) 120 (mkM F T L (if kIn rc p0 = 0 then updB Z (ix p0) (!(Z (ix p0))) else Z)), xLng (t 2) o 1 f]) := hD.sub [0, 1, 2, 3, 4, 5, 6, 7, 8, 9, 11, 12, 10] (by decide) rfl
    have hkk : kIn rc p0 = kIn rc p0 := rfl
    have hkm : ¬ kIn rc p0 = 0 := by rw [hkk]; exact hk0
    try simp only [if_neg hkm] at hP hD
    have hP : va_P D vwCl ([xObj a tc rc ro, xArr (t 0) (a 1) 30 (xN F), xArr (t 0) (a 2) 30 (xN T), xArr (t 0) (a 3) 30 L, xArr (t 1) (a 4) 30 (xB Z), xArr (t 0) (a 5) 12 E, xArr (t 0) (a 6) 144 B, xArr (t 0) (a 7) 12 X, xArr (t 0) (a 8) 12 R, xArr (t 0) (a 9) 12 N, xMod mb (nI (kIn rc p0)) tc rc, xArr (t 0) (mb 1) 120 (mkM F T L Z), xLng (t 2) o 1 f]) H := hP
    have hD : va_D _ ([xObj a tc rc ro, xArr (t 0) (a 1) 30 (xN F), xArr (t 0) (a 2) 30 (xN T), xArr (t 0) (a 3) 30 L, xArr (t 1) (a 4) 30 (xB Z), xArr (t 0) (a 5) 12 E, xArr (t 0) (a 6) 144 B, xArr (t 0) (a 7) 12 X, xArr (t 0) (a 8) 12 R, xArr (t 0) (a 9) 12 N, xMod mb (nI (kIn rc p0)) tc rc, xArr (t 0) (mb 1) 120 (mkM F T L Z), xLng (t 2) o 1 f]) := hD
    refine lv_istore (lv' := [(6, .int (bI (if kIn rc p0 = 0 then updB Z (ix p0) (!(Z (ix p0))) (ix p0) else false))), (5, .int (nI (kIn rc p0))), (4, .int (nI (4 * j))), (3, .ref o), (2, .ref (mb 0)), (1, .ref (a 0)), (0, .ref bs)]) hx hb dL_law_335 hl (by decide) rfl (fun ls hl => ?_)
    refine lv_aload_n hx hb dL_law_337 rfl (lv_at hl 4 rfl) ?_
    refine xr_V (b := mb 0) (As := []) (rest := []) ⟨hx, hb, hml, hown, hts⟩ (c_X1_thrown l D t mb (nI (kIn rc p0)) tc rc ) (cwV 0 hts gL_law_X1_thrown rfl rfl rfl hd_X1_thrown ⟨Nat.le_of_ble_eq_true rfl, Nat.le_of_ble_eq_true rfl⟩) hK hP (va_recv hK hP (ci := 1) (q0 := 10) rfl rfl) [10] rfl rfl hl.1 rfl (Nat.le_of_ble_eq_true rfl) dL_law_338 ⟨(by show _ ≤ 601024; omega), (by show _ ≤ 7293034; omega)⟩ ?_
    refine lv_iload hx hb dL_law_341 (lv_at hl 1 rfl) ?_
    refine lv_icmp_eq (tgt := 348) hx hb dL_law_343 (by decide) (fun _ => ?_) (fun h9 => absurd rfl h9)
    refine lv_iload hx hb dL_law_348 (lv_at hl 1 rfl) ?_
    refine lv_if_ne (tgt := 372) hx hb dL_law_350 (by decide) (fun _ => ?_) (fun h9 => absurd h9 hne9)
    refine lv_goto (tgt := 996) hx hb dL_law_372 (by decide) ?_
    refine W.widen (k := 20 + 1100 * j + 1100) (n := 1000 + 14000 * j + 14000) (by omega) (by omega) ?_
    exact hn tc rc F T L Z ro E B X R N (nI (kIn rc p0)) f d0 hI hd0 _ _ hP hD hS _ (lv_sub hl [2, 3, 4, 5, 6] rfl)
  · have hk0 : kIn rc p0 = 0 := hu
    have hP : va_P D vwCl ([xObj a tc rc (sRo F T L (updB Z (ix p0) (!(Z (ix p0)))) tc rc E), xArr (t 0) (a 1) 30 (xN F), xArr (t 0) (a 2) 30 (xN T), xArr (t 0) (a 3) 30 L, xArr (t 1) (a 4) 30 (xB (updB Z (ix p0) (!(Z (ix p0))))), xArr (t 0) (a 5) 12 (sE F T L (updB Z (ix p0) (!(Z (ix p0)))) tc rc E), xArr (t 0) (a 6) 144 (sB F T L (updB Z (ix p0) (!(Z (ix p0)))) tc rc E B), xArr (t 0) (a 7) 12 X, xArr (t 0) (a 8) 12 R, xArr (t 0) (a 9) 12 N, xMod mb th tc rc, xArr (t 0) (mb 1) 120 (mkM F T L Z), xLng (t 2) o 1 (vp_updL f 0 (Int32.toInt64 (bI (updB Z (ix p0) (!(Z (ix p0))) (ix p0)))))]) H := hP.sub [5, 6, 7, 8, 9, 10, 11, 0, 1, 2, 3, 4, 12] rfl
    have hD : va_D _ ([xObj a tc rc (sRo F T L (updB Z (ix p0) (!(Z (ix p0)))) tc rc E), xArr (t 0) (a 1) 30 (xN F), xArr (t 0) (a 2) 30 (xN T), xArr (t 0) (a 3) 30 L, xArr (t 1) (a 4) 30 (xB (updB Z (ix p0) (!(Z (ix p0))))), xArr (t 0) (a 5) 12 (sE F T L (updB Z (ix p0) (!(Z (ix p0)))) tc rc E), xArr (t 0) (a 6) 144 (sB F T L (updB Z (ix p0) (!(Z (ix p0)))) tc rc E B), xArr (t 0) (a 7) 12 X, xArr (t 0) (a 8) 12 R, xArr (t 0) (a 9) 12 N, xMod mb th tc rc, xArr (t 0) (mb 1) 120 (mkM F T L Z), xLng (t 2) o 1 (vp_updL f 0 (Int32.toInt64 (bI (updB Z (ix p0) (!(Z (ix p0))) (ix p0)))))]) := hD.sub [5, 6, 7, 8, 9, 10, 11, 0, 1, 2, 3, 4, 12] (by decide) rfl
    refine lv_istore (lv' := [(5, .int 0), (4, .int (nI (4 * j))), (3, .ref o), (2, .ref (mb 0)), (1, .ref (a 0)), (0, .ref bs)]) hx hb dL_law_323 hl (by decide) rfl (fun ls hl => ?_)
    refine lv_aload_n hx hb dL_law_325 rfl (lv_at hl 3 rfl) ?_
    refine lv_aload_n hx hb dL_law_326 rfl (lv_at hl 5 rfl) ?_
    refine lv_iload hx hb dL_law_327 (lv_at hl 1 rfl) ?_
    refine lv_iconst (v := 1) hx hb dL_law_329 (by decide) ?_
    refine lv_iadd (x := nI (4 * j)) (y := 1) hx hb dL_law_330 ?_
    refine x_top (w := nI (4 * j + 1)) (nI_add (4 * j) 1) ?_
    refine va_sld hx hb hXs hbl hbA hS (vp_in_nI (show 4 * j + 1 < Ls by omega) (by omega)) dL_law_331 ?_
    refine x_top (w := p0) (by rw [nI_clamp (by omega)]; exact hp0.symm) ?_
    refine xm_V (b := mb 0) (As := [.int p0]) (rest := []) (wr := [xObj a tc rc (sRo F T L (updB Z (ix p0) (!(Z (ix p0)))) tc rc E), xArr (t 0) (a 1) 30 (xN F), xArr (t 0) (a 2) 30 (xN T), xArr (t 0) (a 3) 30 L, xArr (t 1) (a 4) 30 (xB (updB Z (ix p0) (!(Z (ix p0))))), xArr (t 0) (a 5) 12 (sE F T L (updB Z (ix p0) (!(Z (ix p0)))) tc rc E), xArr (t 0) (a 6) 144 (sB F T L (updB Z (ix p0) (!(Z (ix p0)))) tc rc E B), xArr (t 0) (a 7) 12 X, xArr (t 0) (a 8) 12 R, xArr (t 0) (a 9) 12 N, xLng (t 2) o 1 (vp_updL f 0 (Int32.toInt64 (bI (updB Z (ix p0) (!(Z (ix p0))) (ix p0)))))]) ⟨hx, hb, hml, hown, hts⟩ aoT (c_X1_knot l D t mb th tc rc F T L Z p0 _ htc hrc hF) (cwV 1 hts gL_law_X1_knot rfl rfl rfl hd_X1_knot ⟨Nat.le_of_ble_eq_true rfl, Nat.le_of_ble_eq_true rfl⟩) hK hP hD hS hA (fun U hW hU => va_AOA.moved hW.alike hXX) (va_recv hK hP (ci := 1) (q0 := 10) rfl rfl) [10, 11] [0, 1, 2, 3, 4, 5, 6, 7, 8, 9, 12] rfl rfl (by decide) (by decide) (by decide) rfl hl.1 rfl (Nat.le_of_ble_eq_true rfl) dL_law_332 ⟨(by show _ ≤ 601024; omega), (by show _ ≤ 7293034; omega)⟩ (fun u_2 H locs hu9 hP hD hS hz => ?_)
    have hP : va_P D vwCl ([xObj a tc rc (sRo F T L (updB Z (ix p0) (!(Z (ix p0)))) tc rc E), xArr (t 0) (a 1) 30 (xN F), xArr (t 0) (a 2) 30 (xN T), xArr (t 0) (a 3) 30 L, xArr (t 1) (a 4) 30 (xB (updB Z (ix p0) (!(Z (ix p0))))), xArr (t 0) (a 5) 12 (sE F T L (updB Z (ix p0) (!(Z (ix p0)))) tc rc E), xArr (t 0) (a 6) 144 (sB F T L (updB Z (ix p0) (!(Z (ix p0)))) tc rc E B), xArr (t 0) (a 7) 12 X, xArr (t 0) (a 8) 12 R, xArr (t 0) (a 9) 12 N, xMod mb (nI (kIn rc p0)) tc rc, xArr (t 0) (mb 1) 120 (mkM F T L (if kIn rc p0 = 0 then updB Z (ix p0) (!(Z (ix p0))) else Z)), xLng (t 2) o 1 (vp_updL f 0 (Int32.toInt64 (bI (updB Z (ix p0) (!(Z (ix p0))) (ix p0)))))]) H := hP.sub [0, 1, 2, 3, 4, 5, 6, 7, 8, 9, 11, 12, 10] rfl
    have hD : va_D _ ([xObj a tc rc (sRo F T L (updB Z (ix p0) (!(Z (ix p0)))) tc rc E), xArr (t 0) (a 1) 30 (xN F), xArr (t 0) (a 2) 30 (xN T), xArr (t 0) (a 3) 30 L, xArr (t 1) (a 4) 30 (xB (updB Z (ix p0) (!(Z (ix p0))))), xArr (t 0) (a 5) 12 (sE F T L (updB Z (ix p0) (!(Z (ix p0)))) tc rc E), xArr (t 0) (a 6) 144 (sB F T L (updB Z (ix p0) (!(Z (ix p0)))) tc rc E B), xArr (t 0) (a 7) 12 X, xArr (t 0) (a 8) 12 R, xArr (t 0) (a 9) 12 N, xMod mb (nI (kIn rc p0)) tc rc, xArr (t 0) (mb 1) 120 (mkM F T L (if kIn rc p0 = 0 then updB Z (ix p0) (!(Z (ix p0))) else Z)), xLng (t 2) o 1 (vp_updL f 0 (Int32.toInt64 (bI (updB Z (ix p0) (!(Z (ix p0))) (ix p0)))))]) := hD.sub [0, 1, 2, 3, 4, 5, 6, 7, 8, 9, 11, 12, 10] (by decide) rfl
    have hkk : kIn rc p0 = kIn rc p0 := rfl
    have hkm : kIn rc p0 = 0 := by rw [hkk]; first | exact hk0 | (rw [hk0]; rfl)
    rw [hkm] at hP hD
    have hP : va_P D vwCl ([xObj a tc rc (sRo F T L (updB Z (ix p0) (!(Z (ix p0)))) tc rc E), xArr (t 0) (a 1) 30 (xN F), xArr (t 0) (a 2) 30 (xN T), xArr (t 0) (a 3) 30 L, xArr (t 1) (a 4) 30 (xB (updB Z (ix p0) (!(Z (ix p0))))), xArr (t 0) (a 5) 12 (sE F T L (updB Z (ix p0) (!(Z (ix p0)))) tc rc E), xArr (t 0) (a 6) 144 (sB F T L (updB Z (ix p0) (!(Z (ix p0)))) tc rc E B), xArr (t 0) (a 7) 12 X, xArr (t 0) (a 8) 12 R, xArr (t 0) (a 9) 12 N, xMod mb 0 tc rc, xArr (t 0) (mb 1) 120 (mkM F T L (updB Z (ix p0) (!(Z (ix p0))))), xLng (t 2) o 1 (vp_updL f 0 (Int32.toInt64 (bI (updB Z (ix p0) (!(Z (ix p0))) (ix p0)))))]) H := hP
    have hD : va_D _ ([xObj a tc rc (sRo F T L (updB Z (ix p0) (!(Z (ix p0)))) tc rc E), xArr (t 0) (a 1) 30 (xN F), xArr (t 0) (a 2) 30 (xN T), xArr (t 0) (a 3) 30 L, xArr (t 1) (a 4) 30 (xB (updB Z (ix p0) (!(Z (ix p0))))), xArr (t 0) (a 5) 12 (sE F T L (updB Z (ix p0) (!(Z (ix p0)))) tc rc E), xArr (t 0) (a 6) 144 (sB F T L (updB Z (ix p0) (!(Z (ix p0)))) tc rc E B), xArr (t 0) (a 7) 12 X, xArr (t 0) (a 8) 12 R, xArr (t 0) (a 9) 12 N, xMod mb 0 tc rc, xArr (t 0) (mb 1) 120 (mkM F T L (updB Z (ix p0) (!(Z (ix p0))))), xLng (t 2) o 1 (vp_updL f 0 (Int32.toInt64 (bI (updB Z (ix p0) (!(Z (ix p0))) (ix p0)))))]) := hD
    refine x_top (w := bI (updB Z (ix p0) (!(Z (ix p0))) (ix p0))) (by rw [if_pos hkm]) ?_
    refine lv_istore (lv' := [(6, .int (bI (updB Z (ix p0) (!(Z (ix p0))) (ix p0)))), (5, .int 0), (4, .int (nI (4 * j))), (3, .ref o), (2, .ref (mb 0)), (1, .ref (a 0)), (0, .ref bs)]) hx hb dL_law_335 hl (by decide) rfl (fun ls hl => ?_)
    refine lv_aload_n hx hb dL_law_337 rfl (lv_at hl 4 rfl) ?_
    refine xr_V (b := mb 0) (As := []) (rest := []) ⟨hx, hb, hml, hown, hts⟩ (c_X1_thrown l D t mb 0 tc rc ) (cwV 0 hts gL_law_X1_thrown rfl rfl rfl hd_X1_thrown ⟨Nat.le_of_ble_eq_true rfl, Nat.le_of_ble_eq_true rfl⟩) hK hP (va_recv hK hP (ci := 1) (q0 := 10) rfl rfl) [10] rfl rfl hl.1 rfl (Nat.le_of_ble_eq_true rfl) dL_law_338 ⟨(by show _ ≤ 601024; omega), (by show _ ≤ 7293034; omega)⟩ ?_
    refine x_top (w := 0) rfl ?_
    refine lv_iload hx hb dL_law_341 (lv_at hl 1 rfl) ?_
    refine lv_icmp_eq (tgt := 348) hx hb dL_law_343 (by decide) (fun c_3 => ?_) (fun c_3 => ?_)
    rotate_left
    · exact False.elim (by revert c_3; decide)
    refine lv_iload hx hb dL_law_348 (lv_at hl 1 rfl) ?_
    refine lv_if_ne (tgt := 372) hx hb dL_law_350 (by decide) (fun c_4 => ?_) (fun c_4 => ?_)
    · exact False.elim (by revert c_4; decide)
    refine lv_aload_n hx hb dL_law_353 rfl (lv_at hl 3 rfl) ?_
    refine lv_iconst (v := 0) hx hb dL_law_354 (by decide) ?_
    refine x_lald hx hb hK hP 12 2 rfl rfl (k := 0) (Nat.le_of_ble_eq_true rfl) (Nat.le_of_ble_eq_true rfl) dL_law_355 ?_
    refine x_topL (w := Int32.toInt64 (bI (updB Z (ix p0) (!(Z (ix p0))) (ix p0)))) rfl ?_
    refine lv_iload hx hb dL_law_356 (lv_at hl 0 rfl) ?_
    refine lv_if_eq (x := bI (updB Z (ix p0) (!(Z (ix p0))) (ix p0))) (tgt := 365) hx hb dL_law_358 (by decide) (fun c_5 => ?_) (fun c_5 => ?_)
    · have c_5 := bI_0 c_5
      refine lv_lconst (v := 0) hx hb dL_law_365 rfl ?_
      refine x_topL (w := Int32.toInt64 (bI (updB Z (ix p0) (!(Z (ix p0))) (ix p0)))) (by rw [c_5]; rfl) ?_
      refine x_lcmp (v := 0) hx hb (lcmp_self _) dL_law_366 ?_
      refine lv_if_eq (tgt := 372) hx hb dL_law_367 (by decide) (fun c_6 => ?_) (fun c_6 => ?_)
      rotate_left
      · exact False.elim (by revert c_6; decide)
      refine lv_goto (tgt := 996) hx hb dL_law_372 (by decide) ?_
      refine W.widen (k := 20 + 1100 * j + 1100) (n := 1000 + 14000 * j + 14000) (by omega) (by omega) ?_
      exact hn tc rc F T L (updB Z (ix p0) (!(Z (ix p0)))) (sRo F T L (updB Z (ix p0) (!(Z (ix p0)))) tc rc E) (sE F T L (updB Z (ix p0) (!(Z (ix p0)))) tc rc E) (sB F T L (updB Z (ix p0) (!(Z (ix p0)))) tc rc E B) X R N 0 (vp_updL f 0 (Int32.toInt64 (bI (updB Z (ix p0) (!(Z (ix p0))) (ix p0))))) d0 (q_settle htc hrc hF hL9 E B) hd0 _ _ hP hD hS _ (lv_sub hl [2, 3, 4, 5, 6] rfl)
    · have c_5 := bI_n0 c_5
      refine lv_lconst (v := 1) hx hb dL_law_361 rfl ?_
      refine lv_goto (tgt := 366) hx hb dL_law_362 (by decide) ?_
      refine x_topL (w := Int32.toInt64 (bI (updB Z (ix p0) (!(Z (ix p0))) (ix p0)))) (by rw [c_5]; rfl) ?_
      refine x_lcmp (v := 0) hx hb (lcmp_self _) dL_law_366 ?_
      refine lv_if_eq (tgt := 372) hx hb dL_law_367 (by decide) (fun c_7 => ?_) (fun c_7 => ?_)
      rotate_left
      · exact False.elim (by revert c_7; decide)
      refine lv_goto (tgt := 996) hx hb dL_law_372 (by decide) ?_
      refine W.widen (k := 20 + 1100 * j + 1100) (n := 1000 + 14000 * j + 14000) (by omega) (by omega) ?_
      exact hn tc rc F T L (updB Z (ix p0) (!(Z (ix p0)))) (sRo F T L (updB Z (ix p0) (!(Z (ix p0)))) tc rc E) (sE F T L (updB Z (ix p0) (!(Z (ix p0)))) tc rc E) (sB F T L (updB Z (ix p0) (!(Z (ix p0)))) tc rc E B) X R N 0 (vp_updL f 0 (Int32.toInt64 (bI (updB Z (ix p0) (!(Z (ix p0))) (ix p0))))) d0 (q_settle htc hrc hF hL9 E B) hd0 _ _ hP hD hS _ (lv_sub hl [2, 3, 4, 5, 6] rfl)
set_option maxHeartbeats 4000000 in
set_option maxRecDepth 100000 in
theorem law_tighten {p : Program} {l : Launch} {e : Env} {s : State} {m : MethodId} {below : List Frame} {meth : Method} {c : Code} {Q : State → Prop} {bs Ls : Nat} {xs : Nat → Int32} {D : va_G} {t sa a mb : Nat → Nat} {o j : Nat} (hV : lwEnv p l s m meth c bs Ls xs D t sa) (hj : 4 * j + 4 ≤ Ls) (hn : lwNext p l e s m below meth c Q bs D t a mb o j) {tc rc : Nat} {F T : Nat → Nat} {L : Nat → Int32} {Z : Nat → Bool} {ro : Int32} {E B X R N : Nat → Int32} {th : Int32} {f : Nat → Int64} {d0 : Drawn} (hI : xInv tc rc F T L Z ro E B) (hd0 : s.drawn.sameBut d0 lw_cs) {H : Heap} {locs : List Loc} (hP : va_P D vwCl (LWd t a mb o tc rc F T L Z ro E B X R N th f) H) (hD : va_D (fun q => s.heap.size ≤ q) (LWd t a mb o tc rc F T L Z ro E B X R N th f)) (hS : va_S (fun q => s.heap.size ≤ q) s.heap H locs) {ls : Array Slot} (hl : lv_has ls 9 [(4, .int (nI (4 * j))), (3, .ref o), (2, .ref (mb 0)), (1, .ref (a 0)), (0, .ref bs)]) : W p l e room_1 (s.setDrawn d0) m #[Value.ref bs] below meth c H locs (20 + 1100 * j) (1000 + 14000 * j) Q (F0 m 375 ls []) := by
  obtain ⟨hx, hb, hml, hown, hts0, hXs, hbl, hlocks, hK, hXL, hXX, hfl, hLs⟩ := hV
  obtain ⟨htc, hrc, hF, hL9, hro, hE, hB⟩ := id hI
  have hts := dr_words hts0 d0
  have hown : (s.setDrawn d0).vm.findClass RL = some m.cls := hown
  have hK : va_K D vwCl (xTy t) (s.setDrawn d0) := hK
  have hXs : va_X bs Ls xs (s.setDrawn d0) (s.setDrawn d0).heap := hXs
  have hS : va_S (fun q => s.heap.size ≤ q) (s.setDrawn d0).heap H locs := hS
  have hbl : bs < (s.setDrawn d0).heap.size := hbl
  have hXL : xTl s.heap.size sa (s.setDrawn d0) := xTl.trav _ _ s (s.setDrawn d0) rfl rfl hXL
  have hXX : va_AOA .int (s.setDrawn d0) := aoT s (s.setDrawn d0) rfl rfl hXX
  have hbA : ¬ (fun q : Nat => s.heap.size ≤ q) bs := Nat.not_le.mpr hbl
  have hA : ∀ q : Nat, s.heap.size ≤ q → (fun q : Nat => s.heap.size ≤ q) q := fun _ h => h
  refine lv_aload_n hx hb dL_law_375 rfl (lv_at hl 3 rfl) ?_
  refine xm_V (b := a 0) (As := []) (rest := []) (wr := [xArr (t 0) (a 7) 12 X, xArr (t 0) (a 8) 12 R, xArr (t 0) (a 9) 12 N, xMod mb th tc rc, xArr (t 0) (mb 1) 120 (mkM F T L Z), xLng (t 2) o 1 f]) ⟨hx, hb, hml, hown, hts⟩ xTrav_T (c_X0_tighten l D t a tc rc ro F T L Z E B _ htc hrc hF) (cwV 0 hts gL_law_X0_tighten rfl rfl rfl hd_X0_tighten ⟨Nat.le_of_ble_eq_true rfl, Nat.le_of_ble_eq_true rfl⟩) hK hP hD hS hA (fun _ _ _ => trivial) (va_recv hK hP (ci := 0) (q0 := 0) rfl rfl) [0, 1, 2, 3, 4, 5, 6] [7, 8, 9, 10, 11, 12] rfl rfl (by decide) (by decide) (by decide) rfl hl.1 rfl (Nat.le_of_ble_eq_true rfl) dL_law_376 ⟨(by show _ ≤ 601024; omega), (by show _ ≤ 7293034; omega)⟩ (fun u_1 H locs hu9 hP hD hS hz => ?_)
  have hP : va_P D vwCl ([xObj a tc rc ((tightA F T Z tc rc (L, ro, E, B)).2.2.1), xArr (t 0) (a 1) 30 (xN F), xArr (t 0) (a 2) 30 (xN T), xArr (t 0) (a 3) 30 ((tightA F T Z tc rc (L, ro, E, B)).2.1), xArr (t 1) (a 4) 30 (xB Z), xArr (t 0) (a 5) 12 ((tightA F T Z tc rc (L, ro, E, B)).2.2.2.1), xArr (t 0) (a 6) 144 ((tightA F T Z tc rc (L, ro, E, B)).2.2.2.2), xArr (t 0) (a 7) 12 X, xArr (t 0) (a 8) 12 R, xArr (t 0) (a 9) 12 N, xMod mb th tc rc, xArr (t 0) (mb 1) 120 (mkM F T L Z), xLng (t 2) o 1 f]) H := hP.sub [6, 7, 8, 9, 10, 11, 12, 0, 1, 2, 3, 4, 5] rfl
  have hD : va_D _ ([xObj a tc rc ((tightA F T Z tc rc (L, ro, E, B)).2.2.1), xArr (t 0) (a 1) 30 (xN F), xArr (t 0) (a 2) 30 (xN T), xArr (t 0) (a 3) 30 ((tightA F T Z tc rc (L, ro, E, B)).2.1), xArr (t 1) (a 4) 30 (xB Z), xArr (t 0) (a 5) 12 ((tightA F T Z tc rc (L, ro, E, B)).2.2.2.1), xArr (t 0) (a 6) 144 ((tightA F T Z tc rc (L, ro, E, B)).2.2.2.2), xArr (t 0) (a 7) 12 X, xArr (t 0) (a 8) 12 R, xArr (t 0) (a 9) 12 N, xMod mb th tc rc, xArr (t 0) (mb 1) 120 (mkM F T L Z), xLng (t 2) o 1 f]) := hD.sub [6, 7, 8, 9, 10, 11, 12, 0, 1, 2, 3, 4, 5] (by decide) rfl
  refine lv_aload_n hx hb dL_law_379 rfl (lv_at hl 2 rfl) ?_
  refine xm_V (b := mb 0) (As := []) (rest := [.int ((tightA F T Z tc rc (L, ro, E, B)).1)]) (wr := [xObj a tc rc ((tightA F T Z tc rc (L, ro, E, B)).2.2.1), xArr (t 0) (a 1) 30 (xN F), xArr (t 0) (a 2) 30 (xN T), xArr (t 0) (a 3) 30 ((tightA F T Z tc rc (L, ro, E, B)).2.1), xArr (t 1) (a 4) 30 (xB Z), xArr (t 0) (a 5) 12 ((tightA F T Z tc rc (L, ro, E, B)).2.2.2.1), xArr (t 0) (a 6) 144 ((tightA F T Z tc rc (L, ro, E, B)).2.2.2.2), xArr (t 0) (a 7) 12 X, xArr (t 0) (a 8) 12 R, xArr (t 0) (a 9) 12 N, xLng (t 2) o 1 f]) ⟨hx, hb, hml, hown, hts⟩ aoT (c_X1_tighten l D t mb th tc rc F T L Z _ htc hrc hF) (cwV 0 hts gL_law_X1_tighten rfl rfl rfl hd_X1_tighten ⟨Nat.le_of_ble_eq_true rfl, Nat.le_of_ble_eq_true rfl⟩) hK hP hD hS hA (fun U hW hU => va_AOA.moved hW.alike hXX) (va_recv hK hP (ci := 1) (q0 := 10) rfl rfl) [10, 11] [0, 1, 2, 3, 4, 5, 6, 7, 8, 9, 12] rfl rfl (by decide) (by decide) (by decide) rfl hl.1 rfl (Nat.le_of_ble_eq_true rfl) dL_law_380 ⟨(by show _ ≤ 601024; omega), (by show _ ≤ 7293034; omega)⟩ (fun u_2 H locs hu9 hP hD hS hz => ?_)
  have hP : va_P D vwCl ([xObj a tc rc ((tightA F T Z tc rc (L, ro, E, B)).2.2.1), xArr (t 0) (a 1) 30 (xN F), xArr (t 0) (a 2) 30 (xN T), xArr (t 0) (a 3) 30 ((tightA F T Z tc rc (L, ro, E, B)).2.1), xArr (t 1) (a 4) 30 (xB Z), xArr (t 0) (a 5) 12 ((tightA F T Z tc rc (L, ro, E, B)).2.2.2.1), xArr (t 0) (a 6) 144 ((tightA F T Z tc rc (L, ro, E, B)).2.2.2.2), xArr (t 0) (a 7) 12 X, xArr (t 0) (a 8) 12 R, xArr (t 0) (a 9) 12 N, xMod mb 0 tc rc, xArr (t 0) (mb 1) 120 (mkM F T ((tgA F T Z tc rc L).2) Z), xLng (t 2) o 1 f]) H := hP.sub [0, 1, 2, 3, 4, 5, 6, 7, 8, 9, 11, 12, 10] rfl
  have hD : va_D _ ([xObj a tc rc ((tightA F T Z tc rc (L, ro, E, B)).2.2.1), xArr (t 0) (a 1) 30 (xN F), xArr (t 0) (a 2) 30 (xN T), xArr (t 0) (a 3) 30 ((tightA F T Z tc rc (L, ro, E, B)).2.1), xArr (t 1) (a 4) 30 (xB Z), xArr (t 0) (a 5) 12 ((tightA F T Z tc rc (L, ro, E, B)).2.2.2.1), xArr (t 0) (a 6) 144 ((tightA F T Z tc rc (L, ro, E, B)).2.2.2.2), xArr (t 0) (a 7) 12 X, xArr (t 0) (a 8) 12 R, xArr (t 0) (a 9) 12 N, xMod mb 0 tc rc, xArr (t 0) (mb 1) 120 (mkM F T ((tgA F T Z tc rc L).2) Z), xLng (t 2) o 1 f]) := hD.sub [0, 1, 2, 3, 4, 5, 6, 7, 8, 9, 11, 12, 10] (by decide) rfl
  rw [← (q_tight hI).2.1] at hP hD
  have hP : va_P D vwCl ([xObj a tc rc ((tightA F T Z tc rc (L, ro, E, B)).2.2.1), xArr (t 0) (a 1) 30 (xN F), xArr (t 0) (a 2) 30 (xN T), xArr (t 0) (a 3) 30 ((tightA F T Z tc rc (L, ro, E, B)).2.1), xArr (t 1) (a 4) 30 (xB Z), xArr (t 0) (a 5) 12 ((tightA F T Z tc rc (L, ro, E, B)).2.2.2.1), xArr (t 0) (a 6) 144 ((tightA F T Z tc rc (L, ro, E, B)).2.2.2.2), xArr (t 0) (a 7) 12 X, xArr (t 0) (a 8) 12 R, xArr (t 0) (a 9) 12 N, xMod mb 0 tc rc, xArr (t 0) (mb 1) 120 (mkM F T (tightA F T Z tc rc (L, ro, E, B)).2.1 Z), xLng (t 2) o 1 f]) H := hP
  have hD : va_D _ ([xObj a tc rc ((tightA F T Z tc rc (L, ro, E, B)).2.2.1), xArr (t 0) (a 1) 30 (xN F), xArr (t 0) (a 2) 30 (xN T), xArr (t 0) (a 3) 30 ((tightA F T Z tc rc (L, ro, E, B)).2.1), xArr (t 1) (a 4) 30 (xB Z), xArr (t 0) (a 5) 12 ((tightA F T Z tc rc (L, ro, E, B)).2.2.2.1), xArr (t 0) (a 6) 144 ((tightA F T Z tc rc (L, ro, E, B)).2.2.2.2), xArr (t 0) (a 7) 12 X, xArr (t 0) (a 8) 12 R, xArr (t 0) (a 9) 12 N, xMod mb 0 tc rc, xArr (t 0) (mb 1) 120 (mkM F T (tightA F T Z tc rc (L, ro, E, B)).2.1 Z), xLng (t 2) o 1 f]) := hD
  refine x_top (w := (tightA F T Z tc rc (L, ro, E, B)).1) (q_tight hI).1.symm ?_
  refine lv_icmp_eq (tgt := 996) hx hb dL_law_383 (by decide) (fun _ => ?_) (fun h9 => absurd rfl h9)
  refine W.widen (k := 20 + 1100 * j + 1100) (n := 1000 + 14000 * j + 14000) (by omega) (by omega) ?_
  exact hn tc rc F T ((tightA F T Z tc rc (L, ro, E, B)).2.1) Z ((tightA F T Z tc rc (L, ro, E, B)).2.2.1) ((tightA F T Z tc rc (L, ro, E, B)).2.2.2.1) ((tightA F T Z tc rc (L, ro, E, B)).2.2.2.2) X R N 0 f d0 (q_tight hI).2.2 hd0 _ _ hP hD hS _ (lv_sub hl [0, 1, 2, 3, 4] rfl)
set_option maxHeartbeats 4000000 in
set_option maxRecDepth 100000 in
theorem law_told {p : Program} {l : Launch} {e : Env} {s : State} {m : MethodId} {below : List Frame} {meth : Method} {c : Code} {Q : State → Prop} {bs Ls : Nat} {xs : Nat → Int32} {D : va_G} {t sa a mb : Nat → Nat} {o j : Nat} (hV : lwEnv p l s m meth c bs Ls xs D t sa) (hj : 4 * j + 4 ≤ Ls) (hn : lwNext p l e s m below meth c Q bs D t a mb o j) {tc rc : Nat} {F T : Nat → Nat} {L : Nat → Int32} {Z : Nat → Bool} {ro : Int32} {E B X R N : Nat → Int32} {th : Int32} {f : Nat → Int64} {d0 : Drawn} (hI : xInv tc rc F T L Z ro E B) (hd0 : s.drawn.sameBut d0 lw_cs) {H : Heap} {locs : List Loc} (hP : va_P D vwCl (LWd t a mb o tc rc F T L Z ro E B X R N th f) H) (hD : va_D (fun q => s.heap.size ≤ q) (LWd t a mb o tc rc F T L Z ro E B X R N th f)) (hS : va_S (fun q => s.heap.size ≤ q) s.heap H locs) {ls : Array Slot} (hl : lv_has ls 9 [(4, .int (nI (4 * j))), (3, .ref o), (2, .ref (mb 0)), (1, .ref (a 0)), (0, .ref bs)]) : W p l e room_1 (s.setDrawn d0) m #[Value.ref bs] below meth c H locs (20 + 1100 * j) (1000 + 14000 * j) Q (F0 m 388 ls []) := by
  obtain ⟨hx, hb, hml, hown, hts0, hXs, hbl, hlocks, hK, hXL, hXX, hfl, hLs⟩ := hV
  obtain ⟨htc, hrc, hF, hL9, hro, hE, hB⟩ := id hI
  have hts := dr_words hts0 d0
  have hown : (s.setDrawn d0).vm.findClass RL = some m.cls := hown
  have hK : va_K D vwCl (xTy t) (s.setDrawn d0) := hK
  have hXs : va_X bs Ls xs (s.setDrawn d0) (s.setDrawn d0).heap := hXs
  have hS : va_S (fun q => s.heap.size ≤ q) (s.setDrawn d0).heap H locs := hS
  have hbl : bs < (s.setDrawn d0).heap.size := hbl
  have hXL : xTl s.heap.size sa (s.setDrawn d0) := xTl.trav _ _ s (s.setDrawn d0) rfl rfl hXL
  have hXX : va_AOA .int (s.setDrawn d0) := aoT s (s.setDrawn d0) rfl rfl hXX
  have hbA : ¬ (fun q : Nat => s.heap.size ≤ q) bs := Nat.not_le.mpr hbl
  have hA : ∀ q : Nat, s.heap.size ≤ q → (fun q : Nat => s.heap.size ≤ q) q := fun _ h => h
  obtain ⟨p0, hp0⟩ : ∃ x, x = xs (4 * j + 1) := ⟨_, rfl⟩
  obtain ⟨p1, hp1⟩ : ∃ x, x = xs (4 * j + 2) := ⟨_, rfl⟩
  refine lv_aload_n hx hb dL_law_388 rfl (lv_at hl 3 rfl) ?_
  refine lv_aload_n hx hb dL_law_389 rfl (lv_at hl 4 rfl) ?_
  refine lv_iload hx hb dL_law_390 (lv_at hl 0 rfl) ?_
  refine lv_iconst (v := 1) hx hb dL_law_392 (by decide) ?_
  refine lv_iadd (x := nI (4 * j)) (y := 1) hx hb dL_law_393 ?_
  refine x_top (w := nI (4 * j + 1)) (nI_add (4 * j) 1) ?_
  refine va_sld hx hb hXs hbl hbA hS (vp_in_nI (show 4 * j + 1 < Ls by omega) (by omega)) dL_law_394 ?_
  refine x_top (w := p0) (by rw [nI_clamp (by omega)]; exact hp0.symm) ?_
  refine lv_aload_n hx hb dL_law_395 rfl (lv_at hl 4 rfl) ?_
  refine lv_iload hx hb dL_law_396 (lv_at hl 0 rfl) ?_
  refine lv_iconst (v := 2) hx hb dL_law_398 (by decide) ?_
  refine lv_iadd (x := nI (4 * j)) (y := 2) hx hb dL_law_399 ?_
  refine x_top (w := nI (4 * j + 2)) (nI_add (4 * j) 2) ?_
  refine va_sld hx hb hXs hbl hbA hS (vp_in_nI (show 4 * j + 2 < Ls by omega) (by omega)) dL_law_400 ?_
  refine x_top (w := p1) (by rw [nI_clamp (by omega)]; exact hp1.symm) ?_
  refine lv_aload_n hx hb dL_law_401 rfl (lv_at hl 1 rfl) ?_
  refine xl_S (As := [.ref (a 0), .int p0, .int p1, .ref o]) (rest := []) (wr := [xArr (t 0) (a 6) 144 B, xArr (t 0) (a 7) 12 X, xArr (t 0) (a 8) 12 R, xArr (t 0) (a 9) 12 N, xMod mb th tc rc, xArr (t 0) (mb 1) 120 (mkM F T L Z)]) ⟨hx, hb, hml, hown, hts⟩ (xTl.trav _ _) (c_L_told l hfl D t a tc rc ro F T L Z E p0 p1 o f s.heap.size sa _ htc hrc hF) (vx_cwSW 4 hts gL_law_L_told rfl rfl rfl hd_L_told ⟨Nat.le_of_ble_eq_true rfl, Nat.le_of_ble_eq_true rfl⟩) hK hP hD hS hA (fun U hW hU => xTl.warm hW (fun q h1 h2 => by rw [hU]; exact hS.2.1 q h1 h2) hXL) [0, 1, 2, 3, 4, 5, 12] [6, 7, 8, 9, 10, 11] rfl rfl (by decide) (by decide) (by decide) rfl hl.1 rfl (Nat.le_of_ble_eq_true rfl) dL_law_402 ⟨(by show _ ≤ 601024; omega), (by show _ ≤ 7293034; omega)⟩ (fun u H locs hu hP hD hS hz => ?_)
  rcases u with _ | v9
  · have hk0 : ¬ kIn2 rc 5 p0 p1 = 0 := hu
    have hle9 : (kIn2 rc 5 p0 p1) ≤ 3 := by unfold kIn2; (repeat' split) <;> omega
    have hne9 : ¬ nI (kIn2 rc 5 p0 p1) = 0 := k_ne hk0 hle9
    have hP : va_P D vwCl ([xObj a tc rc ro, xArr (t 0) (a 1) 30 (xN F), xArr (t 0) (a 2) 30 (xN T), xArr (t 0) (a 3) 30 L, xArr (t 1) (a 4) 30 (xB Z), xArr (t 0) (a 5) 12 E, xArr (t 0) (a 6) 144 B, xArr (t 0) (a 7) 12 X, xArr (t 0) (a 8) 12 R, xArr (t 0) (a 9) 12 N, xMod mb th tc rc, xArr (t 0) (mb 1) 120 (mkM F T L Z), xLng (t 2) o 1 f]) H := hP.sub [6, 7, 8, 9, 10, 11, 0, 1, 2, 3, 4, 5, 12] rfl
    have hD : va_D _ ([xObj a tc rc ro, xArr (t 0) (a 1) 30 (xN F), xArr (t 0) (a 2) 30 (xN T), xArr (t 0) (a 3) 30 L, xArr (t 1) (a 4) 30 (xB Z), xArr (t 0) (a 5) 12 E, xArr (t 0) (a 6) 144 B, xArr (t 0) (a 7) 12 X, xArr (t 0) (a 8) 12 R, xArr (t 0) (a 9) 12 N, xMod mb th tc rc, xArr (t 0) (mb 1) 120 (mkM F T L Z), xLng (t 2) o 1 f]) := hD.sub [6, 7, 8, 9, 10, 11, 0, 1, 2, 3, 4, 5, 12] (by decide) rfl
    refine lv_istore (lv' := [(5, .int (nI (kIn2 rc 5 p0 p1))), (4, .int (nI (4 * j))), (3, .ref o), (2, .ref (mb 0)), (1, .ref (a 0)), (0, .ref bs)]) hx hb dL_law_405 hl (by decide) rfl (fun ls hl => ?_)
    refine lv_aload_n hx hb dL_law_407 rfl (lv_at hl 3 rfl) ?_
    refine lv_aload_n hx hb dL_law_408 rfl (lv_at hl 5 rfl) ?_
    refine lv_iload hx hb dL_law_409 (lv_at hl 1 rfl) ?_
    refine lv_iconst (v := 1) hx hb dL_law_411 (by decide) ?_
    refine lv_iadd (x := nI (4 * j)) (y := 1) hx hb dL_law_412 ?_
    refine x_top (w := nI (4 * j + 1)) (nI_add (4 * j) 1) ?_
    refine va_sld hx hb hXs hbl hbA hS (vp_in_nI (show 4 * j + 1 < Ls by omega) (by omega)) dL_law_413 ?_
    refine x_top (w := p0) (by rw [nI_clamp (by omega)]; exact hp0.symm) ?_
    refine lv_aload_n hx hb dL_law_414 rfl (lv_at hl 5 rfl) ?_
    refine lv_iload hx hb dL_law_415 (lv_at hl 1 rfl) ?_
    refine lv_iconst (v := 2) hx hb dL_law_417 (by decide) ?_
    refine lv_iadd (x := nI (4 * j)) (y := 2) hx hb dL_law_418 ?_
    refine x_top (w := nI (4 * j + 2)) (nI_add (4 * j) 2) ?_
    refine va_sld hx hb hXs hbl hbA hS (vp_in_nI (show 4 * j + 2 < Ls by omega) (by omega)) dL_law_419 ?_
    refine x_top (w := p1) (by rw [nI_clamp (by omega)]; exact hp1.symm) ?_
    refine xm_V (b := mb 0) (As := [.int p0, .int p1]) (rest := []) (wr := [xObj a tc rc ro, xArr (t 0) (a 1) 30 (xN F), xArr (t 0) (a 2) 30 (xN T), xArr (t 0) (a 3) 30 L, xArr (t 1) (a 4) 30 (xB Z), xArr (t 0) (a 5) 12 E, xArr (t 0) (a 6) 144 B, xArr (t 0) (a 7) 12 X, xArr (t 0) (a 8) 12 R, xArr (t 0) (a 9) 12 N, xLng (t 2) o 1 f]) ⟨hx, hb, hml, hown, hts⟩ aoT (c_X1_told l D t mb th tc rc F T L Z p0 p1 _ htc hrc hF) (cwV 2 hts gL_law_X1_told rfl rfl rfl hd_X1_told ⟨Nat.le_of_ble_eq_true rfl, Nat.le_of_ble_eq_true rfl⟩) hK hP hD hS hA (fun U hW hU => va_AOA.moved hW.alike hXX) (va_recv hK hP (ci := 1) (q0 := 10) rfl rfl) [10, 11] [0, 1, 2, 3, 4, 5, 6, 7, 8, 9, 12] rfl rfl (by decide) (by decide) (by decide) rfl hl.1 rfl (Nat.le_of_ble_eq_true rfl) dL_law_420 ⟨(by show _ ≤ 601024; omega), (by show _ ≤ 7293034; omega)⟩ (fun u_1 H locs hu9 hP hD hS hz => ?_)
    have hP : va_P D vwCl ([xObj a tc rc ro, xArr (t 0) (a 1) 30 (xN F), xArr (t 0) (a 2) 30 (xN T), xArr (t 0) (a 3) 30 L, xArr (t 1) (a 4) 30 (xB Z), xArr (t 0) (a 5) 12 E, xArr (t 0) (a 6) 144 B, xArr (t 0) (a 7) 12 X, xArr (t 0) (a 8) 12 R, xArr (t 0) (a 9) 12 N, xMod mb (nI (kIn2 rc 5 p0 p1)) tc rc, xArr (t 0) (mb 1) 120 (mkM F T L Z), xLng (t 2) o 1 f]) H := hP.sub [0, 1, 2, 3, 4, 5, 6, 7, 8, 9, 11, 12, 10] rfl
    have hD : va_D _ ([xObj a tc rc ro, xArr (t 0) (a 1) 30 (xN F), xArr (t 0) (a 2) 30 (xN T), xArr (t 0) (a 3) 30 L, xArr (t 1) (a 4) 30 (xB Z), xArr (t 0) (a 5) 12 E, xArr (t 0) (a 6) 144 B, xArr (t 0) (a 7) 12 X, xArr (t 0) (a 8) 12 R, xArr (t 0) (a 9) 12 N, xMod mb (nI (kIn2 rc 5 p0 p1)) tc rc, xArr (t 0) (mb 1) 120 (mkM F T L Z), xLng (t 2) o 1 f]) := hD.sub [0, 1, 2, 3, 4, 5, 6, 7, 8, 9, 11, 12, 10] (by decide) rfl
    have hkk : kIn2 rc 5 p0 p1 = kIn2 rc 5 p0 p1 := rfl
    have hkm : ¬ kIn2 rc 5 p0 p1 = 0 := by rw [hkk]; exact hk0
    try simp only [if_neg hkm] at hP hD
    have hP : va_P D vwCl ([xObj a tc rc ro, xArr (t 0) (a 1) 30 (xN F), xArr (t 0) (a 2) 30 (xN T), xArr (t 0) (a 3) 30 L, xArr (t 1) (a 4) 30 (xB Z), xArr (t 0) (a 5) 12 E, xArr (t 0) (a 6) 144 B, xArr (t 0) (a 7) 12 X, xArr (t 0) (a 8) 12 R, xArr (t 0) (a 9) 12 N, xMod mb (nI (kIn2 rc 5 p0 p1)) tc rc, xArr (t 0) (mb 1) 120 (mkM F T L Z), xLng (t 2) o 1 f]) H := hP
    have hD : va_D _ ([xObj a tc rc ro, xArr (t 0) (a 1) 30 (xN F), xArr (t 0) (a 2) 30 (xN T), xArr (t 0) (a 3) 30 L, xArr (t 1) (a 4) 30 (xB Z), xArr (t 0) (a 5) 12 E, xArr (t 0) (a 6) 144 B, xArr (t 0) (a 7) 12 X, xArr (t 0) (a 8) 12 R, xArr (t 0) (a 9) 12 N, xMod mb (nI (kIn2 rc 5 p0 p1)) tc rc, xArr (t 0) (mb 1) 120 (mkM F T L Z), xLng (t 2) o 1 f]) := hD
    refine lv_istore (lv' := [(6, .int (if kIn2 rc 5 p0 p1 = 0 then toldF (earM F T L Z tc rc 12) (earM F T L Z tc rc) F T L Z (ix p0) (ix p1) else 0)), (5, .int (nI (kIn2 rc 5 p0 p1))), (4, .int (nI (4 * j))), (3, .ref o), (2, .ref (mb 0)), (1, .ref (a 0)), (0, .ref bs)]) hx hb dL_law_423 hl (by decide) rfl (fun ls hl => ?_)
    refine lv_aload_n hx hb dL_law_425 rfl (lv_at hl 4 rfl) ?_
    refine xr_V (b := mb 0) (As := []) (rest := []) ⟨hx, hb, hml, hown, hts⟩ (c_X1_thrown l D t mb (nI (kIn2 rc 5 p0 p1)) tc rc ) (cwV 0 hts gL_law_X1_thrown rfl rfl rfl hd_X1_thrown ⟨Nat.le_of_ble_eq_true rfl, Nat.le_of_ble_eq_true rfl⟩) hK hP (va_recv hK hP (ci := 1) (q0 := 10) rfl rfl) [10] rfl rfl hl.1 rfl (Nat.le_of_ble_eq_true rfl) dL_law_426 ⟨(by show _ ≤ 601024; omega), (by show _ ≤ 7293034; omega)⟩ ?_
    refine lv_iload hx hb dL_law_429 (lv_at hl 1 rfl) ?_
    refine lv_icmp_eq (tgt := 436) hx hb dL_law_431 (by decide) (fun _ => ?_) (fun h9 => absurd rfl h9)
    refine lv_iload hx hb dL_law_436 (lv_at hl 1 rfl) ?_
    refine lv_if_ne (tgt := 453) hx hb dL_law_438 (by decide) (fun _ => ?_) (fun h9 => absurd h9 hne9)
    refine lv_goto (tgt := 996) hx hb dL_law_453 (by decide) ?_
    refine W.widen (k := 20 + 1100 * j + 1100) (n := 1000 + 14000 * j + 14000) (by omega) (by omega) ?_
    exact hn tc rc F T L Z ro E B X R N (nI (kIn2 rc 5 p0 p1)) f d0 hI hd0 _ _ hP hD hS _ (lv_sub hl [2, 3, 4, 5, 6] rfl)
  · have hk0 : kIn2 rc 5 p0 p1 = 0 := hu
    have hP : va_P D vwCl ([xObj a tc rc ro, xArr (t 0) (a 1) 30 (xN F), xArr (t 0) (a 2) 30 (xN T), xArr (t 0) (a 3) 30 L, xArr (t 1) (a 4) 30 (xB Z), xArr (t 0) (a 5) 12 E, xArr (t 0) (a 6) 144 B, xArr (t 0) (a 7) 12 X, xArr (t 0) (a 8) 12 R, xArr (t 0) (a 9) 12 N, xMod mb th tc rc, xArr (t 0) (mb 1) 120 (mkM F T L Z), xLng (t 2) o 1 (vp_updL f 0 (Int32.toInt64 (toldF ro E F T L Z (ix p0) (ix p1))))]) H := hP.sub [6, 7, 8, 9, 10, 11, 0, 1, 2, 3, 4, 5, 12] rfl
    have hD : va_D _ ([xObj a tc rc ro, xArr (t 0) (a 1) 30 (xN F), xArr (t 0) (a 2) 30 (xN T), xArr (t 0) (a 3) 30 L, xArr (t 1) (a 4) 30 (xB Z), xArr (t 0) (a 5) 12 E, xArr (t 0) (a 6) 144 B, xArr (t 0) (a 7) 12 X, xArr (t 0) (a 8) 12 R, xArr (t 0) (a 9) 12 N, xMod mb th tc rc, xArr (t 0) (mb 1) 120 (mkM F T L Z), xLng (t 2) o 1 (vp_updL f 0 (Int32.toInt64 (toldF ro E F T L Z (ix p0) (ix p1))))]) := hD.sub [6, 7, 8, 9, 10, 11, 0, 1, 2, 3, 4, 5, 12] (by decide) rfl
    refine lv_istore (lv' := [(5, .int 0), (4, .int (nI (4 * j))), (3, .ref o), (2, .ref (mb 0)), (1, .ref (a 0)), (0, .ref bs)]) hx hb dL_law_405 hl (by decide) rfl (fun ls hl => ?_)
    refine lv_aload_n hx hb dL_law_407 rfl (lv_at hl 3 rfl) ?_
    refine lv_aload_n hx hb dL_law_408 rfl (lv_at hl 5 rfl) ?_
    refine lv_iload hx hb dL_law_409 (lv_at hl 1 rfl) ?_
    refine lv_iconst (v := 1) hx hb dL_law_411 (by decide) ?_
    refine lv_iadd (x := nI (4 * j)) (y := 1) hx hb dL_law_412 ?_
    refine x_top (w := nI (4 * j + 1)) (nI_add (4 * j) 1) ?_
    refine va_sld hx hb hXs hbl hbA hS (vp_in_nI (show 4 * j + 1 < Ls by omega) (by omega)) dL_law_413 ?_
    refine x_top (w := p0) (by rw [nI_clamp (by omega)]; exact hp0.symm) ?_
    refine lv_aload_n hx hb dL_law_414 rfl (lv_at hl 5 rfl) ?_
    refine lv_iload hx hb dL_law_415 (lv_at hl 1 rfl) ?_
    refine lv_iconst (v := 2) hx hb dL_law_417 (by decide) ?_
    refine lv_iadd (x := nI (4 * j)) (y := 2) hx hb dL_law_418 ?_
    refine x_top (w := nI (4 * j + 2)) (nI_add (4 * j) 2) ?_
    refine va_sld hx hb hXs hbl hbA hS (vp_in_nI (show 4 * j + 2 < Ls by omega) (by omega)) dL_law_419 ?_
    refine x_top (w := p1) (by rw [nI_clamp (by omega)]; exact hp1.symm) ?_
    refine xm_V (b := mb 0) (As := [.int p0, .int p1]) (rest := []) (wr := [xObj a tc rc ro, xArr (t 0) (a 1) 30 (xN F), xArr (t 0) (a 2) 30 (xN T), xArr (t 0) (a 3) 30 L, xArr (t 1) (a 4) 30 (xB Z), xArr (t 0) (a 5) 12 E, xArr (t 0) (a 6) 144 B, xArr (t 0) (a 7) 12 X, xArr (t 0) (a 8) 12 R, xArr (t 0) (a 9) 12 N, xLng (t 2) o 1 (vp_updL f 0 (Int32.toInt64 (toldF ro E F T L Z (ix p0) (ix p1))))]) ⟨hx, hb, hml, hown, hts⟩ aoT (c_X1_told l D t mb th tc rc F T L Z p0 p1 _ htc hrc hF) (cwV 2 hts gL_law_X1_told rfl rfl rfl hd_X1_told ⟨Nat.le_of_ble_eq_true rfl, Nat.le_of_ble_eq_true rfl⟩) hK hP hD hS hA (fun U hW hU => va_AOA.moved hW.alike hXX) (va_recv hK hP (ci := 1) (q0 := 10) rfl rfl) [10, 11] [0, 1, 2, 3, 4, 5, 6, 7, 8, 9, 12] rfl rfl (by decide) (by decide) (by decide) rfl hl.1 rfl (Nat.le_of_ble_eq_true rfl) dL_law_420 ⟨(by show _ ≤ 601024; omega), (by show _ ≤ 7293034; omega)⟩ (fun u_2 H locs hu9 hP hD hS hz => ?_)
    have hP : va_P D vwCl ([xObj a tc rc ro, xArr (t 0) (a 1) 30 (xN F), xArr (t 0) (a 2) 30 (xN T), xArr (t 0) (a 3) 30 L, xArr (t 1) (a 4) 30 (xB Z), xArr (t 0) (a 5) 12 E, xArr (t 0) (a 6) 144 B, xArr (t 0) (a 7) 12 X, xArr (t 0) (a 8) 12 R, xArr (t 0) (a 9) 12 N, xMod mb (nI (kIn2 rc 5 p0 p1)) tc rc, xArr (t 0) (mb 1) 120 (mkM F T L Z), xLng (t 2) o 1 (vp_updL f 0 (Int32.toInt64 (toldF ro E F T L Z (ix p0) (ix p1))))]) H := hP.sub [0, 1, 2, 3, 4, 5, 6, 7, 8, 9, 11, 12, 10] rfl
    have hD : va_D _ ([xObj a tc rc ro, xArr (t 0) (a 1) 30 (xN F), xArr (t 0) (a 2) 30 (xN T), xArr (t 0) (a 3) 30 L, xArr (t 1) (a 4) 30 (xB Z), xArr (t 0) (a 5) 12 E, xArr (t 0) (a 6) 144 B, xArr (t 0) (a 7) 12 X, xArr (t 0) (a 8) 12 R, xArr (t 0) (a 9) 12 N, xMod mb (nI (kIn2 rc 5 p0 p1)) tc rc, xArr (t 0) (mb 1) 120 (mkM F T L Z), xLng (t 2) o 1 (vp_updL f 0 (Int32.toInt64 (toldF ro E F T L Z (ix p0) (ix p1))))]) := hD.sub [0, 1, 2, 3, 4, 5, 6, 7, 8, 9, 11, 12, 10] (by decide) rfl
    have hkk : kIn2 rc 5 p0 p1 = kIn2 rc 5 p0 p1 := rfl
    have hkm : kIn2 rc 5 p0 p1 = 0 := by rw [hkk]; first | exact hk0 | (rw [hk0]; rfl)
    rw [hkm] at hP hD
    have hP : va_P D vwCl ([xObj a tc rc ro, xArr (t 0) (a 1) 30 (xN F), xArr (t 0) (a 2) 30 (xN T), xArr (t 0) (a 3) 30 L, xArr (t 1) (a 4) 30 (xB Z), xArr (t 0) (a 5) 12 E, xArr (t 0) (a 6) 144 B, xArr (t 0) (a 7) 12 X, xArr (t 0) (a 8) 12 R, xArr (t 0) (a 9) 12 N, xMod mb 0 tc rc, xArr (t 0) (mb 1) 120 (mkM F T L Z), xLng (t 2) o 1 (vp_updL f 0 (Int32.toInt64 (toldF ro E F T L Z (ix p0) (ix p1))))]) H := hP
    have hD : va_D _ ([xObj a tc rc ro, xArr (t 0) (a 1) 30 (xN F), xArr (t 0) (a 2) 30 (xN T), xArr (t 0) (a 3) 30 L, xArr (t 1) (a 4) 30 (xB Z), xArr (t 0) (a 5) 12 E, xArr (t 0) (a 6) 144 B, xArr (t 0) (a 7) 12 X, xArr (t 0) (a 8) 12 R, xArr (t 0) (a 9) 12 N, xMod mb 0 tc rc, xArr (t 0) (mb 1) 120 (mkM F T L Z), xLng (t 2) o 1 (vp_updL f 0 (Int32.toInt64 (toldF ro E F T L Z (ix p0) (ix p1))))]) := hD
    refine x_top (w := toldF ro E F T L Z (ix p0) (ix p1)) (by rw [if_pos hkm]; exact q_told hI (ix_lt (kIn2_0 hk0).1 (by omega))) ?_
    refine lv_istore (lv' := [(6, .int (toldF ro E F T L Z (ix p0) (ix p1))), (5, .int 0), (4, .int (nI (4 * j))), (3, .ref o), (2, .ref (mb 0)), (1, .ref (a 0)), (0, .ref bs)]) hx hb dL_law_423 hl (by decide) rfl (fun ls hl => ?_)
    refine lv_aload_n hx hb dL_law_425 rfl (lv_at hl 4 rfl) ?_
    refine xr_V (b := mb 0) (As := []) (rest := []) ⟨hx, hb, hml, hown, hts⟩ (c_X1_thrown l D t mb 0 tc rc ) (cwV 0 hts gL_law_X1_thrown rfl rfl rfl hd_X1_thrown ⟨Nat.le_of_ble_eq_true rfl, Nat.le_of_ble_eq_true rfl⟩) hK hP (va_recv hK hP (ci := 1) (q0 := 10) rfl rfl) [10] rfl rfl hl.1 rfl (Nat.le_of_ble_eq_true rfl) dL_law_426 ⟨(by show _ ≤ 601024; omega), (by show _ ≤ 7293034; omega)⟩ ?_
    refine x_top (w := 0) rfl ?_
    refine lv_iload hx hb dL_law_429 (lv_at hl 1 rfl) ?_
    refine lv_icmp_eq (tgt := 436) hx hb dL_law_431 (by decide) (fun c_3 => ?_) (fun c_3 => ?_)
    rotate_left
    · exact False.elim (by revert c_3; decide)
    refine lv_iload hx hb dL_law_436 (lv_at hl 1 rfl) ?_
    refine lv_if_ne (tgt := 453) hx hb dL_law_438 (by decide) (fun c_4 => ?_) (fun c_4 => ?_)
    · exact False.elim (by revert c_4; decide)
    refine lv_aload_n hx hb dL_law_441 rfl (lv_at hl 3 rfl) ?_
    refine lv_iconst (v := 0) hx hb dL_law_442 (by decide) ?_
    refine x_lald hx hb hK hP 12 2 rfl rfl (k := 0) (Nat.le_of_ble_eq_true rfl) (Nat.le_of_ble_eq_true rfl) dL_law_443 ?_
    refine x_topL (w := Int32.toInt64 (toldF ro E F T L Z (ix p0) (ix p1))) rfl ?_
    refine lv_iload hx hb dL_law_444 (lv_at hl 0 rfl) ?_
    refine lv_i2l (x := toldF ro E F T L Z (ix p0) (ix p1)) (v := Int32.toInt64 (toldF ro E F T L Z (ix p0) (ix p1))) hx hb dL_law_446 rfl ?_
    refine x_lcmp (v := 0) hx hb (lcmp_self _) dL_law_447 ?_
    refine lv_if_eq (tgt := 453) hx hb dL_law_448 (by decide) (fun c_5 => ?_) (fun c_5 => ?_)
    rotate_left
    · exact False.elim (by revert c_5; decide)
    refine lv_goto (tgt := 996) hx hb dL_law_453 (by decide) ?_
    refine W.widen (k := 20 + 1100 * j + 1100) (n := 1000 + 14000 * j + 14000) (by omega) (by omega) ?_
    exact hn tc rc F T L Z ro E B X R N 0 (vp_updL f 0 (Int32.toInt64 (toldF ro E F T L Z (ix p0) (ix p1)))) d0 hI hd0 _ _ hP hD hS _ (lv_sub hl [2, 3, 4, 5, 6] rfl)
set_option maxHeartbeats 4000000 in
set_option maxRecDepth 100000 in
theorem law_about {p : Program} {l : Launch} {e : Env} {s : State} {m : MethodId} {below : List Frame} {meth : Method} {c : Code} {Q : State → Prop} {bs Ls : Nat} {xs : Nat → Int32} {D : va_G} {t sa a mb : Nat → Nat} {o j : Nat} (hV : lwEnv p l s m meth c bs Ls xs D t sa) (hj : 4 * j + 4 ≤ Ls) (hn : lwNext p l e s m below meth c Q bs D t a mb o j) {tc rc : Nat} {F T : Nat → Nat} {L : Nat → Int32} {Z : Nat → Bool} {ro : Int32} {E B X R N : Nat → Int32} {th : Int32} {f : Nat → Int64} {d0 : Drawn} (hI : xInv tc rc F T L Z ro E B) (hd0 : s.drawn.sameBut d0 lw_cs) {H : Heap} {locs : List Loc} (hP : va_P D vwCl (LWd t a mb o tc rc F T L Z ro E B X R N th f) H) (hD : va_D (fun q => s.heap.size ≤ q) (LWd t a mb o tc rc F T L Z ro E B X R N th f)) (hS : va_S (fun q => s.heap.size ≤ q) s.heap H locs) {ls : Array Slot} (hl : lv_has ls 9 [(4, .int (nI (4 * j))), (3, .ref o), (2, .ref (mb 0)), (1, .ref (a 0)), (0, .ref bs)]) : W p l e room_1 (s.setDrawn d0) m #[Value.ref bs] below meth c H locs (20 + 1100 * j) (1000 + 14000 * j) Q (F0 m 456 ls []) := by
  obtain ⟨hx, hb, hml, hown, hts0, hXs, hbl, hlocks, hK, hXL, hXX, hfl, hLs⟩ := hV
  obtain ⟨htc, hrc, hF, hL9, hro, hE, hB⟩ := id hI
  have hts := dr_words hts0 d0
  have hown : (s.setDrawn d0).vm.findClass RL = some m.cls := hown
  have hK : va_K D vwCl (xTy t) (s.setDrawn d0) := hK
  have hXs : va_X bs Ls xs (s.setDrawn d0) (s.setDrawn d0).heap := hXs
  have hS : va_S (fun q => s.heap.size ≤ q) (s.setDrawn d0).heap H locs := hS
  have hbl : bs < (s.setDrawn d0).heap.size := hbl
  have hXL : xTl s.heap.size sa (s.setDrawn d0) := xTl.trav _ _ s (s.setDrawn d0) rfl rfl hXL
  have hXX : va_AOA .int (s.setDrawn d0) := aoT s (s.setDrawn d0) rfl rfl hXX
  have hbA : ¬ (fun q : Nat => s.heap.size ≤ q) bs := Nat.not_le.mpr hbl
  have hA : ∀ q : Nat, s.heap.size ≤ q → (fun q : Nat => s.heap.size ≤ q) q := fun _ h => h
  obtain ⟨p0, hp0⟩ : ∃ x, x = xs (4 * j + 1) := ⟨_, rfl⟩
  obtain ⟨p1, hp1⟩ : ∃ x, x = xs (4 * j + 2) := ⟨_, rfl⟩
  refine lv_aload_n hx hb dL_law_456 rfl (lv_at hl 3 rfl) ?_
  refine lv_aload_n hx hb dL_law_457 rfl (lv_at hl 4 rfl) ?_
  refine lv_iload hx hb dL_law_458 (lv_at hl 0 rfl) ?_
  refine lv_iconst (v := 1) hx hb dL_law_460 (by decide) ?_
  refine lv_iadd (x := nI (4 * j)) (y := 1) hx hb dL_law_461 ?_
  refine x_top (w := nI (4 * j + 1)) (nI_add (4 * j) 1) ?_
  refine va_sld hx hb hXs hbl hbA hS (vp_in_nI (show 4 * j + 1 < Ls by omega) (by omega)) dL_law_462 ?_
  refine x_top (w := p0) (by rw [nI_clamp (by omega)]; exact hp0.symm) ?_
  refine lv_aload_n hx hb dL_law_463 rfl (lv_at hl 4 rfl) ?_
  refine lv_iload hx hb dL_law_464 (lv_at hl 0 rfl) ?_
  refine lv_iconst (v := 2) hx hb dL_law_466 (by decide) ?_
  refine lv_iadd (x := nI (4 * j)) (y := 2) hx hb dL_law_467 ?_
  refine x_top (w := nI (4 * j + 2)) (nI_add (4 * j) 2) ?_
  refine va_sld hx hb hXs hbl hbA hS (vp_in_nI (show 4 * j + 2 < Ls by omega) (by omega)) dL_law_468 ?_
  refine x_top (w := p1) (by rw [nI_clamp (by omega)]; exact hp1.symm) ?_
  refine lv_aload_n hx hb dL_law_469 rfl (lv_at hl 1 rfl) ?_
  refine xl_S (As := [.ref (a 0), .int p0, .int p1, .ref o]) (rest := []) (wr := [xArr (t 0) (a 3) 30 L, xArr (t 0) (a 6) 144 B, xArr (t 0) (a 7) 12 X, xArr (t 0) (a 8) 12 R, xArr (t 0) (a 9) 12 N, xMod mb th tc rc, xArr (t 0) (mb 1) 120 (mkM F T L Z)]) ⟨hx, hb, hml, hown, hts⟩ (xTl.trav _ _) (c_L_about l hfl D t a tc rc ro F T Z E p0 p1 o f s.heap.size sa _ htc hrc hF) (vx_cwSW 4 hts gL_law_L_about rfl rfl rfl hd_L_about ⟨Nat.le_of_ble_eq_true rfl, Nat.le_of_ble_eq_true rfl⟩) hK hP hD hS hA (fun U hW hU => xTl.warm hW (fun q h1 h2 => by rw [hU]; exact hS.2.1 q h1 h2) hXL) [0, 1, 2, 4, 5, 12] [3, 6, 7, 8, 9, 10, 11] rfl rfl (by decide) (by decide) (by decide) rfl hl.1 rfl (Nat.le_of_ble_eq_true rfl) dL_law_470 ⟨(by show _ ≤ 601024; omega), (by show _ ≤ 7293034; omega)⟩ (fun u H locs hu hP hD hS hz => ?_)
  rcases u with _ | v9
  · have hk0 : ¬ kIn2 tc 3 p0 p1 = 0 := hu
    have hle9 : (kIn2 tc 3 p0 p1) ≤ 3 := by unfold kIn2; (repeat' split) <;> omega
    have hne9 : ¬ nI (kIn2 tc 3 p0 p1) = 0 := k_ne hk0 hle9
    have hP : va_P D vwCl ([xObj a tc rc ro, xArr (t 0) (a 1) 30 (xN F), xArr (t 0) (a 2) 30 (xN T), xArr (t 0) (a 3) 30 L, xArr (t 1) (a 4) 30 (xB Z), xArr (t 0) (a 5) 12 E, xArr (t 0) (a 6) 144 B, xArr (t 0) (a 7) 12 X, xArr (t 0) (a 8) 12 R, xArr (t 0) (a 9) 12 N, xMod mb th tc rc, xArr (t 0) (mb 1) 120 (mkM F T L Z), xLng (t 2) o 1 f]) H := hP.sub [7, 8, 9, 0, 10, 11, 1, 2, 3, 4, 5, 6, 12] rfl
    have hD : va_D _ ([xObj a tc rc ro, xArr (t 0) (a 1) 30 (xN F), xArr (t 0) (a 2) 30 (xN T), xArr (t 0) (a 3) 30 L, xArr (t 1) (a 4) 30 (xB Z), xArr (t 0) (a 5) 12 E, xArr (t 0) (a 6) 144 B, xArr (t 0) (a 7) 12 X, xArr (t 0) (a 8) 12 R, xArr (t 0) (a 9) 12 N, xMod mb th tc rc, xArr (t 0) (mb 1) 120 (mkM F T L Z), xLng (t 2) o 1 f]) := hD.sub [7, 8, 9, 0, 10, 11, 1, 2, 3, 4, 5, 6, 12] (by decide) rfl
    refine lv_istore (lv' := [(5, .int (nI (kIn2 tc 3 p0 p1))), (4, .int (nI (4 * j))), (3, .ref o), (2, .ref (mb 0)), (1, .ref (a 0)), (0, .ref bs)]) hx hb dL_law_473 hl (by decide) rfl (fun ls hl => ?_)
    refine lv_aload_n hx hb dL_law_475 rfl (lv_at hl 3 rfl) ?_
    refine lv_aload_n hx hb dL_law_476 rfl (lv_at hl 5 rfl) ?_
    refine lv_iload hx hb dL_law_477 (lv_at hl 1 rfl) ?_
    refine lv_iconst (v := 1) hx hb dL_law_479 (by decide) ?_
    refine lv_iadd (x := nI (4 * j)) (y := 1) hx hb dL_law_480 ?_
    refine x_top (w := nI (4 * j + 1)) (nI_add (4 * j) 1) ?_
    refine va_sld hx hb hXs hbl hbA hS (vp_in_nI (show 4 * j + 1 < Ls by omega) (by omega)) dL_law_481 ?_
    refine x_top (w := p0) (by rw [nI_clamp (by omega)]; exact hp0.symm) ?_
    refine lv_aload_n hx hb dL_law_482 rfl (lv_at hl 5 rfl) ?_
    refine lv_iload hx hb dL_law_483 (lv_at hl 1 rfl) ?_
    refine lv_iconst (v := 2) hx hb dL_law_485 (by decide) ?_
    refine lv_iadd (x := nI (4 * j)) (y := 2) hx hb dL_law_486 ?_
    refine x_top (w := nI (4 * j + 2)) (nI_add (4 * j) 2) ?_
    refine va_sld hx hb hXs hbl hbA hS (vp_in_nI (show 4 * j + 2 < Ls by omega) (by omega)) dL_law_487 ?_
    refine x_top (w := p1) (by rw [nI_clamp (by omega)]; exact hp1.symm) ?_
    refine xm_V (b := mb 0) (As := [.int p0, .int p1]) (rest := []) (wr := [xObj a tc rc ro, xArr (t 0) (a 1) 30 (xN F), xArr (t 0) (a 2) 30 (xN T), xArr (t 0) (a 3) 30 L, xArr (t 1) (a 4) 30 (xB Z), xArr (t 0) (a 5) 12 E, xArr (t 0) (a 6) 144 B, xArr (t 0) (a 7) 12 X, xArr (t 0) (a 8) 12 R, xArr (t 0) (a 9) 12 N, xLng (t 2) o 1 f]) ⟨hx, hb, hml, hown, hts⟩ aoT (c_X1_about l D t mb th tc rc F T L Z p0 p1 _ htc hrc hF) (cwV 2 hts gL_law_X1_about rfl rfl rfl hd_X1_about ⟨Nat.le_of_ble_eq_true rfl, Nat.le_of_ble_eq_true rfl⟩) hK hP hD hS hA (fun U hW hU => va_AOA.moved hW.alike hXX) (va_recv hK hP (ci := 1) (q0 := 10) rfl rfl) [10, 11] [0, 1, 2, 3, 4, 5, 6, 7, 8, 9, 12] rfl rfl (by decide) (by decide) (by decide) rfl hl.1 rfl (Nat.le_of_ble_eq_true rfl) dL_law_488 ⟨(by show _ ≤ 601024; omega), (by show _ ≤ 7293034; omega)⟩ (fun u_1 H locs hu9 hP hD hS hz => ?_)
    have hP : va_P D vwCl ([xObj a tc rc ro, xArr (t 0) (a 1) 30 (xN F), xArr (t 0) (a 2) 30 (xN T), xArr (t 0) (a 3) 30 L, xArr (t 1) (a 4) 30 (xB Z), xArr (t 0) (a 5) 12 E, xArr (t 0) (a 6) 144 B, xArr (t 0) (a 7) 12 X, xArr (t 0) (a 8) 12 R, xArr (t 0) (a 9) 12 N, xMod mb (nI (kIn2 tc 3 p0 p1)) tc rc, xArr (t 0) (mb 1) 120 (mkM F T L Z), xLng (t 2) o 1 f]) H := hP.sub [0, 1, 2, 3, 4, 5, 6, 7, 8, 9, 11, 12, 10] rfl
    have hD : va_D _ ([xObj a tc rc ro, xArr (t 0) (a 1) 30 (xN F), xArr (t 0) (a 2) 30 (xN T), xArr (t 0) (a 3) 30 L, xArr (t 1) (a 4) 30 (xB Z), xArr (t 0) (a 5) 12 E, xArr (t 0) (a 6) 144 B, xArr (t 0) (a 7) 12 X, xArr (t 0) (a 8) 12 R, xArr (t 0) (a 9) 12 N, xMod mb (nI (kIn2 tc 3 p0 p1)) tc rc, xArr (t 0) (mb 1) 120 (mkM F T L Z), xLng (t 2) o 1 f]) := hD.sub [0, 1, 2, 3, 4, 5, 6, 7, 8, 9, 11, 12, 10] (by decide) rfl
    have hkk : kIn2 tc 3 p0 p1 = kIn2 tc 3 p0 p1 := rfl
    have hkm : ¬ kIn2 tc 3 p0 p1 = 0 := by rw [hkk]; exact hk0
    try simp only [if_neg hkm] at hP hD
    have hP : va_P D vwCl ([xObj a tc rc ro, xArr (t 0) (a 1) 30 (xN F), xArr (t 0) (a 2) 30 (xN T), xArr (t 0) (a 3) 30 L, xArr (t 1) (a 4) 30 (xB Z), xArr (t 0) (a 5) 12 E, xArr (t 0) (a 6) 144 B, xArr (t 0) (a 7) 12 X, xArr (t 0) (a 8) 12 R, xArr (t 0) (a 9) 12 N, xMod mb (nI (kIn2 tc 3 p0 p1)) tc rc, xArr (t 0) (mb 1) 120 (mkM F T L Z), xLng (t 2) o 1 f]) H := hP
    have hD : va_D _ ([xObj a tc rc ro, xArr (t 0) (a 1) 30 (xN F), xArr (t 0) (a 2) 30 (xN T), xArr (t 0) (a 3) 30 L, xArr (t 1) (a 4) 30 (xB Z), xArr (t 0) (a 5) 12 E, xArr (t 0) (a 6) 144 B, xArr (t 0) (a 7) 12 X, xArr (t 0) (a 8) 12 R, xArr (t 0) (a 9) 12 N, xMod mb (nI (kIn2 tc 3 p0 p1)) tc rc, xArr (t 0) (mb 1) 120 (mkM F T L Z), xLng (t 2) o 1 f]) := hD
    refine lv_istore (lv' := [(6, .int (if kIn2 tc 3 p0 p1 = 0 then aboutF (earM F T L Z tc rc 12) (earM F T L Z tc rc) F T Z rc (ix p0) (ix p1) else 0)), (5, .int (nI (kIn2 tc 3 p0 p1))), (4, .int (nI (4 * j))), (3, .ref o), (2, .ref (mb 0)), (1, .ref (a 0)), (0, .ref bs)]) hx hb dL_law_491 hl (by decide) rfl (fun ls hl => ?_)
    refine lv_aload_n hx hb dL_law_493 rfl (lv_at hl 4 rfl) ?_
    refine xr_V (b := mb 0) (As := []) (rest := []) ⟨hx, hb, hml, hown, hts⟩ (c_X1_thrown l D t mb (nI (kIn2 tc 3 p0 p1)) tc rc ) (cwV 0 hts gL_law_X1_thrown rfl rfl rfl hd_X1_thrown ⟨Nat.le_of_ble_eq_true rfl, Nat.le_of_ble_eq_true rfl⟩) hK hP (va_recv hK hP (ci := 1) (q0 := 10) rfl rfl) [10] rfl rfl hl.1 rfl (Nat.le_of_ble_eq_true rfl) dL_law_494 ⟨(by show _ ≤ 601024; omega), (by show _ ≤ 7293034; omega)⟩ ?_
    refine lv_iload hx hb dL_law_497 (lv_at hl 1 rfl) ?_
    refine lv_icmp_eq (tgt := 504) hx hb dL_law_499 (by decide) (fun _ => ?_) (fun h9 => absurd rfl h9)
    refine lv_iload hx hb dL_law_504 (lv_at hl 1 rfl) ?_
    refine lv_if_ne (tgt := 521) hx hb dL_law_506 (by decide) (fun _ => ?_) (fun h9 => absurd h9 hne9)
    refine lv_goto (tgt := 996) hx hb dL_law_521 (by decide) ?_
    refine W.widen (k := 20 + 1100 * j + 1100) (n := 1000 + 14000 * j + 14000) (by omega) (by omega) ?_
    exact hn tc rc F T L Z ro E B X R N (nI (kIn2 tc 3 p0 p1)) f d0 hI hd0 _ _ hP hD hS _ (lv_sub hl [2, 3, 4, 5, 6] rfl)
  · have hk0 : kIn2 tc 3 p0 p1 = 0 := hu
    have hP : va_P D vwCl ([xObj a tc rc ro, xArr (t 0) (a 1) 30 (xN F), xArr (t 0) (a 2) 30 (xN T), xArr (t 0) (a 3) 30 L, xArr (t 1) (a 4) 30 (xB Z), xArr (t 0) (a 5) 12 E, xArr (t 0) (a 6) 144 B, xArr (t 0) (a 7) 12 X, xArr (t 0) (a 8) 12 R, xArr (t 0) (a 9) 12 N, xMod mb th tc rc, xArr (t 0) (mb 1) 120 (mkM F T L Z), xLng (t 2) o 1 (vp_updL f 0 (Int32.toInt64 (aboutF ro E F T Z rc (ix p0) (ix p1))))]) H := hP.sub [7, 8, 9, 0, 10, 11, 1, 2, 3, 4, 5, 6, 12] rfl
    have hD : va_D _ ([xObj a tc rc ro, xArr (t 0) (a 1) 30 (xN F), xArr (t 0) (a 2) 30 (xN T), xArr (t 0) (a 3) 30 L, xArr (t 1) (a 4) 30 (xB Z), xArr (t 0) (a 5) 12 E, xArr (t 0) (a 6) 144 B, xArr (t 0) (a 7) 12 X, xArr (t 0) (a 8) 12 R, xArr (t 0) (a 9) 12 N, xMod mb th tc rc, xArr (t 0) (mb 1) 120 (mkM F T L Z), xLng (t 2) o 1 (vp_updL f 0 (Int32.toInt64 (aboutF ro E F T Z rc (ix p0) (ix p1))))]) := hD.sub [7, 8, 9, 0, 10, 11, 1, 2, 3, 4, 5, 6, 12] (by decide) rfl
    refine lv_istore (lv' := [(5, .int 0), (4, .int (nI (4 * j))), (3, .ref o), (2, .ref (mb 0)), (1, .ref (a 0)), (0, .ref bs)]) hx hb dL_law_473 hl (by decide) rfl (fun ls hl => ?_)
    refine lv_aload_n hx hb dL_law_475 rfl (lv_at hl 3 rfl) ?_
    refine lv_aload_n hx hb dL_law_476 rfl (lv_at hl 5 rfl) ?_
    refine lv_iload hx hb dL_law_477 (lv_at hl 1 rfl) ?_
    refine lv_iconst (v := 1) hx hb dL_law_479 (by decide) ?_
    refine lv_iadd (x := nI (4 * j)) (y := 1) hx hb dL_law_480 ?_
    refine x_top (w := nI (4 * j + 1)) (nI_add (4 * j) 1) ?_
    refine va_sld hx hb hXs hbl hbA hS (vp_in_nI (show 4 * j + 1 < Ls by omega) (by omega)) dL_law_481 ?_
    refine x_top (w := p0) (by rw [nI_clamp (by omega)]; exact hp0.symm) ?_
    refine lv_aload_n hx hb dL_law_482 rfl (lv_at hl 5 rfl) ?_
    refine lv_iload hx hb dL_law_483 (lv_at hl 1 rfl) ?_
    refine lv_iconst (v := 2) hx hb dL_law_485 (by decide) ?_
    refine lv_iadd (x := nI (4 * j)) (y := 2) hx hb dL_law_486 ?_
    refine x_top (w := nI (4 * j + 2)) (nI_add (4 * j) 2) ?_
    refine va_sld hx hb hXs hbl hbA hS (vp_in_nI (show 4 * j + 2 < Ls by omega) (by omega)) dL_law_487 ?_
    refine x_top (w := p1) (by rw [nI_clamp (by omega)]; exact hp1.symm) ?_
    refine xm_V (b := mb 0) (As := [.int p0, .int p1]) (rest := []) (wr := [xObj a tc rc ro, xArr (t 0) (a 1) 30 (xN F), xArr (t 0) (a 2) 30 (xN T), xArr (t 0) (a 3) 30 L, xArr (t 1) (a 4) 30 (xB Z), xArr (t 0) (a 5) 12 E, xArr (t 0) (a 6) 144 B, xArr (t 0) (a 7) 12 X, xArr (t 0) (a 8) 12 R, xArr (t 0) (a 9) 12 N, xLng (t 2) o 1 (vp_updL f 0 (Int32.toInt64 (aboutF ro E F T Z rc (ix p0) (ix p1))))]) ⟨hx, hb, hml, hown, hts⟩ aoT (c_X1_about l D t mb th tc rc F T L Z p0 p1 _ htc hrc hF) (cwV 2 hts gL_law_X1_about rfl rfl rfl hd_X1_about ⟨Nat.le_of_ble_eq_true rfl, Nat.le_of_ble_eq_true rfl⟩) hK hP hD hS hA (fun U hW hU => va_AOA.moved hW.alike hXX) (va_recv hK hP (ci := 1) (q0 := 10) rfl rfl) [10, 11] [0, 1, 2, 3, 4, 5, 6, 7, 8, 9, 12] rfl rfl (by decide) (by decide) (by decide) rfl hl.1 rfl (Nat.le_of_ble_eq_true rfl) dL_law_488 ⟨(by show _ ≤ 601024; omega), (by show _ ≤ 7293034; omega)⟩ (fun u_2 H locs hu9 hP hD hS hz => ?_)
    have hP : va_P D vwCl ([xObj a tc rc ro, xArr (t 0) (a 1) 30 (xN F), xArr (t 0) (a 2) 30 (xN T), xArr (t 0) (a 3) 30 L, xArr (t 1) (a 4) 30 (xB Z), xArr (t 0) (a 5) 12 E, xArr (t 0) (a 6) 144 B, xArr (t 0) (a 7) 12 X, xArr (t 0) (a 8) 12 R, xArr (t 0) (a 9) 12 N, xMod mb (nI (kIn2 tc 3 p0 p1)) tc rc, xArr (t 0) (mb 1) 120 (mkM F T L Z), xLng (t 2) o 1 (vp_updL f 0 (Int32.toInt64 (aboutF ro E F T Z rc (ix p0) (ix p1))))]) H := hP.sub [0, 1, 2, 3, 4, 5, 6, 7, 8, 9, 11, 12, 10] rfl
    have hD : va_D _ ([xObj a tc rc ro, xArr (t 0) (a 1) 30 (xN F), xArr (t 0) (a 2) 30 (xN T), xArr (t 0) (a 3) 30 L, xArr (t 1) (a 4) 30 (xB Z), xArr (t 0) (a 5) 12 E, xArr (t 0) (a 6) 144 B, xArr (t 0) (a 7) 12 X, xArr (t 0) (a 8) 12 R, xArr (t 0) (a 9) 12 N, xMod mb (nI (kIn2 tc 3 p0 p1)) tc rc, xArr (t 0) (mb 1) 120 (mkM F T L Z), xLng (t 2) o 1 (vp_updL f 0 (Int32.toInt64 (aboutF ro E F T Z rc (ix p0) (ix p1))))]) := hD.sub [0, 1, 2, 3, 4, 5, 6, 7, 8, 9, 11, 12, 10] (by decide) rfl
    have hkk : kIn2 tc 3 p0 p1 = kIn2 tc 3 p0 p1 := rfl
    have hkm : kIn2 tc 3 p0 p1 = 0 := by rw [hkk]; first | exact hk0 | (rw [hk0]; rfl)
    rw [hkm] at hP hD
    have hP : va_P D vwCl ([xObj a tc rc ro, xArr (t 0) (a 1) 30 (xN F), xArr (t 0) (a 2) 30 (xN T), xArr (t 0) (a 3) 30 L, xArr (t 1) (a 4) 30 (xB Z), xArr (t 0) (a 5) 12 E, xArr (t 0) (a 6) 144 B, xArr (t 0) (a 7) 12 X, xArr (t 0) (a 8) 12 R, xArr (t 0) (a 9) 12 N, xMod mb 0 tc rc, xArr (t 0) (mb 1) 120 (mkM F T L Z), xLng (t 2) o 1 (vp_updL f 0 (Int32.toInt64 (aboutF ro E F T Z rc (ix p0) (ix p1))))]) H := hP
    have hD : va_D _ ([xObj a tc rc ro, xArr (t 0) (a 1) 30 (xN F), xArr (t 0) (a 2) 30 (xN T), xArr (t 0) (a 3) 30 L, xArr (t 1) (a 4) 30 (xB Z), xArr (t 0) (a 5) 12 E, xArr (t 0) (a 6) 144 B, xArr (t 0) (a 7) 12 X, xArr (t 0) (a 8) 12 R, xArr (t 0) (a 9) 12 N, xMod mb 0 tc rc, xArr (t 0) (mb 1) 120 (mkM F T L Z), xLng (t 2) o 1 (vp_updL f 0 (Int32.toInt64 (aboutF ro E F T Z rc (ix p0) (ix p1))))]) := hD
    refine x_top (w := aboutF ro E F T Z rc (ix p0) (ix p1)) (by rw [if_pos hkm]; exact q_about hI (ix_lt (kIn2_0 hk0).1 (by omega))) ?_
    refine lv_istore (lv' := [(6, .int (aboutF ro E F T Z rc (ix p0) (ix p1))), (5, .int 0), (4, .int (nI (4 * j))), (3, .ref o), (2, .ref (mb 0)), (1, .ref (a 0)), (0, .ref bs)]) hx hb dL_law_491 hl (by decide) rfl (fun ls hl => ?_)
    refine lv_aload_n hx hb dL_law_493 rfl (lv_at hl 4 rfl) ?_
    refine xr_V (b := mb 0) (As := []) (rest := []) ⟨hx, hb, hml, hown, hts⟩ (c_X1_thrown l D t mb 0 tc rc ) (cwV 0 hts gL_law_X1_thrown rfl rfl rfl hd_X1_thrown ⟨Nat.le_of_ble_eq_true rfl, Nat.le_of_ble_eq_true rfl⟩) hK hP (va_recv hK hP (ci := 1) (q0 := 10) rfl rfl) [10] rfl rfl hl.1 rfl (Nat.le_of_ble_eq_true rfl) dL_law_494 ⟨(by show _ ≤ 601024; omega), (by show _ ≤ 7293034; omega)⟩ ?_
    refine x_top (w := 0) rfl ?_
    refine lv_iload hx hb dL_law_497 (lv_at hl 1 rfl) ?_
    refine lv_icmp_eq (tgt := 504) hx hb dL_law_499 (by decide) (fun c_3 => ?_) (fun c_3 => ?_)
    rotate_left
    · exact False.elim (by revert c_3; decide)
    refine lv_iload hx hb dL_law_504 (lv_at hl 1 rfl) ?_
    refine lv_if_ne (tgt := 521) hx hb dL_law_506 (by decide) (fun c_4 => ?_) (fun c_4 => ?_)
    · exact False.elim (by revert c_4; decide)
    refine lv_aload_n hx hb dL_law_509 rfl (lv_at hl 3 rfl) ?_
    refine lv_iconst (v := 0) hx hb dL_law_510 (by decide) ?_
    refine x_lald hx hb hK hP 12 2 rfl rfl (k := 0) (Nat.le_of_ble_eq_true rfl) (Nat.le_of_ble_eq_true rfl) dL_law_511 ?_
    refine x_topL (w := Int32.toInt64 (aboutF ro E F T Z rc (ix p0) (ix p1))) rfl ?_
    refine lv_iload hx hb dL_law_512 (lv_at hl 0 rfl) ?_
    refine lv_i2l (x := aboutF ro E F T Z rc (ix p0) (ix p1)) (v := Int32.toInt64 (aboutF ro E F T Z rc (ix p0) (ix p1))) hx hb dL_law_514 rfl ?_
    refine x_lcmp (v := 0) hx hb (lcmp_self _) dL_law_515 ?_
    refine lv_if_eq (tgt := 521) hx hb dL_law_516 (by decide) (fun c_5 => ?_) (fun c_5 => ?_)
    rotate_left
    · exact False.elim (by revert c_5; decide)
    refine lv_goto (tgt := 996) hx hb dL_law_521 (by decide) ?_
    refine W.widen (k := 20 + 1100 * j + 1100) (n := 1000 + 14000 * j + 14000) (by omega) (by omega) ?_
    exact hn tc rc F T L Z ro E B X R N 0 (vp_updL f 0 (Int32.toInt64 (aboutF ro E F T Z rc (ix p0) (ix p1)))) d0 hI hd0 _ _ hP hD hS _ (lv_sub hl [2, 3, 4, 5, 6] rfl)
set_option maxHeartbeats 4000000 in
set_option maxRecDepth 100000 in
theorem law_count {p : Program} {l : Launch} {e : Env} {s : State} {m : MethodId} {below : List Frame} {meth : Method} {c : Code} {Q : State → Prop} {bs Ls : Nat} {xs : Nat → Int32} {D : va_G} {t sa a mb : Nat → Nat} {o j : Nat} (hV : lwEnv p l s m meth c bs Ls xs D t sa) (hj : 4 * j + 4 ≤ Ls) (hn : lwNext p l e s m below meth c Q bs D t a mb o j) {tc rc : Nat} {F T : Nat → Nat} {L : Nat → Int32} {Z : Nat → Bool} {ro : Int32} {E B X R N : Nat → Int32} {th : Int32} {f : Nat → Int64} {d0 : Drawn} (hI : xInv tc rc F T L Z ro E B) (hd0 : s.drawn.sameBut d0 lw_cs) {H : Heap} {locs : List Loc} (hP : va_P D vwCl (LWd t a mb o tc rc F T L Z ro E B X R N th f) H) (hD : va_D (fun q => s.heap.size ≤ q) (LWd t a mb o tc rc F T L Z ro E B X R N th f)) (hS : va_S (fun q => s.heap.size ≤ q) s.heap H locs) {ls : Array Slot} (hl : lv_has ls 9 [(4, .int (nI (4 * j))), (3, .ref o), (2, .ref (mb 0)), (1, .ref (a 0)), (0, .ref bs)]) : W p l e room_1 (s.setDrawn d0) m #[Value.ref bs] below meth c H locs (20 + 1100 * j) (1000 + 14000 * j) Q (F0 m 524 ls []) := by
  obtain ⟨hx, hb, hml, hown, hts0, hXs, hbl, hlocks, hK, hXL, hXX, hfl, hLs⟩ := hV
  obtain ⟨htc, hrc, hF, hL9, hro, hE, hB⟩ := id hI
  have hts := dr_words hts0 d0
  have hown : (s.setDrawn d0).vm.findClass RL = some m.cls := hown
  have hK : va_K D vwCl (xTy t) (s.setDrawn d0) := hK
  have hXs : va_X bs Ls xs (s.setDrawn d0) (s.setDrawn d0).heap := hXs
  have hS : va_S (fun q => s.heap.size ≤ q) (s.setDrawn d0).heap H locs := hS
  have hbl : bs < (s.setDrawn d0).heap.size := hbl
  have hXL : xTl s.heap.size sa (s.setDrawn d0) := xTl.trav _ _ s (s.setDrawn d0) rfl rfl hXL
  have hXX : va_AOA .int (s.setDrawn d0) := aoT s (s.setDrawn d0) rfl rfl hXX
  have hbA : ¬ (fun q : Nat => s.heap.size ≤ q) bs := Nat.not_le.mpr hbl
  have hA : ∀ q : Nat, s.heap.size ≤ q → (fun q : Nat => s.heap.size ≤ q) q := fun _ h => h
  obtain ⟨p0, hp0⟩ : ∃ x, x = xs (4 * j + 1) := ⟨_, rfl⟩
  refine lv_aload_n hx hb dL_law_524 rfl (lv_at hl 3 rfl) ?_
  refine lv_aload_n hx hb dL_law_525 rfl (lv_at hl 4 rfl) ?_
  refine lv_iload hx hb dL_law_526 (lv_at hl 0 rfl) ?_
  refine lv_iconst (v := 1) hx hb dL_law_528 (by decide) ?_
  refine lv_iadd (x := nI (4 * j)) (y := 1) hx hb dL_law_529 ?_
  refine x_top (w := nI (4 * j + 1)) (nI_add (4 * j) 1) ?_
  refine va_sld hx hb hXs hbl hbA hS (vp_in_nI (show 4 * j + 1 < Ls by omega) (by omega)) dL_law_530 ?_
  refine x_top (w := p0) (by rw [nI_clamp (by omega)]; exact hp0.symm) ?_
  refine lv_aload_n hx hb dL_law_531 rfl (lv_at hl 1 rfl) ?_
  refine xl_S (As := [.ref (a 0), .int p0, .ref o]) (rest := []) (wr := [xArr (t 0) (a 6) 144 B, xArr (t 0) (a 7) 12 X, xMod mb th tc rc, xArr (t 0) (mb 1) 120 (mkM F T L Z)]) ⟨hx, hb, hml, hown, hts⟩ (xTl.trav _ _) (c_L_count l hfl D t a tc rc ro F T L Z E R N p0 o f s.heap.size sa _ htc hrc hF) (vx_cwSW 3 hts gL_law_L_count rfl rfl rfl hd_L_count ⟨Nat.le_of_ble_eq_true rfl, Nat.le_of_ble_eq_true rfl⟩) hK hP hD hS hA (fun U hW hU => xTl.warm hW (fun q h1 h2 => by rw [hU]; exact hS.2.1 q h1 h2) hXL) [0, 1, 2, 3, 4, 5, 8, 9, 12] [6, 7, 10, 11] rfl rfl (by decide) (by decide) (by decide) rfl hl.1 rfl (Nat.le_of_ble_eq_true rfl) dL_law_532 ⟨(by show _ ≤ 601024; omega), (by show _ ≤ 7293034; omega)⟩ (fun u H locs hu hP hD hS hz => ?_)
  rcases u with _ | v9
  · have hk0 : ¬ kIn 7 p0 = 0 := hu
    have hle9 : (kIn 7 p0) ≤ 3 := by unfold kIn; (repeat' split) <;> omega
    have hne9 : ¬ nI (kIn 7 p0) = 0 := k_ne hk0 hle9
    have hP : va_P D vwCl ([xObj a tc rc ro, xArr (t 0) (a 1) 30 (xN F), xArr (t 0) (a 2) 30 (xN T), xArr (t 0) (a 3) 30 L, xArr (t 1) (a 4) 30 (xB Z), xArr (t 0) (a 5) 12 E, xArr (t 0) (a 6) 144 B, xArr (t 0) (a 7) 12 X, xArr (t 0) (a 8) 12 R, xArr (t 0) (a 9) 12 N, xMod mb th tc rc, xArr (t 0) (mb 1) 120 (mkM F T L Z), xLng (t 2) o 1 f]) H := hP.sub [4, 5, 6, 7, 8, 9, 0, 1, 10, 11, 2, 3, 12] rfl
    have hD : va_D _ ([xObj a tc rc ro, xArr (t 0) (a 1) 30 (xN F), xArr (t 0) (a 2) 30 (xN T), xArr (t 0) (a 3) 30 L, xArr (t 1) (a 4) 30 (xB Z), xArr (t 0) (a 5) 12 E, xArr (t 0) (a 6) 144 B, xArr (t 0) (a 7) 12 X, xArr (t 0) (a 8) 12 R, xArr (t 0) (a 9) 12 N, xMod mb th tc rc, xArr (t 0) (mb 1) 120 (mkM F T L Z), xLng (t 2) o 1 f]) := hD.sub [4, 5, 6, 7, 8, 9, 0, 1, 10, 11, 2, 3, 12] (by decide) rfl
    refine lv_istore (lv' := [(5, .int (nI (kIn 7 p0))), (4, .int (nI (4 * j))), (3, .ref o), (2, .ref (mb 0)), (1, .ref (a 0)), (0, .ref bs)]) hx hb dL_law_535 hl (by decide) rfl (fun ls hl => ?_)
    refine lv_aload_n hx hb dL_law_537 rfl (lv_at hl 3 rfl) ?_
    refine lv_aload_n hx hb dL_law_538 rfl (lv_at hl 5 rfl) ?_
    refine lv_iload hx hb dL_law_539 (lv_at hl 1 rfl) ?_
    refine lv_iconst (v := 1) hx hb dL_law_541 (by decide) ?_
    refine lv_iadd (x := nI (4 * j)) (y := 1) hx hb dL_law_542 ?_
    refine x_top (w := nI (4 * j + 1)) (nI_add (4 * j) 1) ?_
    refine va_sld hx hb hXs hbl hbA hS (vp_in_nI (show 4 * j + 1 < Ls by omega) (by omega)) dL_law_543 ?_
    refine x_top (w := p0) (by rw [nI_clamp (by omega)]; exact hp0.symm) ?_
    refine xm_V (b := mb 0) (As := [.int p0]) (rest := []) (wr := [xObj a tc rc ro, xArr (t 0) (a 1) 30 (xN F), xArr (t 0) (a 2) 30 (xN T), xArr (t 0) (a 3) 30 L, xArr (t 1) (a 4) 30 (xB Z), xArr (t 0) (a 5) 12 E, xArr (t 0) (a 6) 144 B, xArr (t 0) (a 7) 12 X, xArr (t 0) (a 8) 12 R, xArr (t 0) (a 9) 12 N, xLng (t 2) o 1 f]) ⟨hx, hb, hml, hown, hts⟩ aoT (c_X1_count l D t mb th tc rc F T L Z p0 _ htc hrc hF) (cwV 1 hts gL_law_X1_count rfl rfl rfl hd_X1_count ⟨Nat.le_of_ble_eq_true rfl, Nat.le_of_ble_eq_true rfl⟩) hK hP hD hS hA (fun U hW hU => va_AOA.moved hW.alike hXX) (va_recv hK hP (ci := 1) (q0 := 10) rfl rfl) [10, 11] [0, 1, 2, 3, 4, 5, 6, 7, 8, 9, 12] rfl rfl (by decide) (by decide) (by decide) rfl hl.1 rfl (Nat.le_of_ble_eq_true rfl) dL_law_544 ⟨(by show _ ≤ 601024; omega), (by show _ ≤ 7293034; omega)⟩ (fun u_1 H locs hu9 hP hD hS hz => ?_)
    have hP : va_P D vwCl ([xObj a tc rc ro, xArr (t 0) (a 1) 30 (xN F), xArr (t 0) (a 2) 30 (xN T), xArr (t 0) (a 3) 30 L, xArr (t 1) (a 4) 30 (xB Z), xArr (t 0) (a 5) 12 E, xArr (t 0) (a 6) 144 B, xArr (t 0) (a 7) 12 X, xArr (t 0) (a 8) 12 R, xArr (t 0) (a 9) 12 N, xMod mb (nI (kIn 7 p0)) tc rc, xArr (t 0) (mb 1) 120 (mkM F T L Z), xLng (t 2) o 1 f]) H := hP.sub [0, 1, 2, 3, 4, 5, 6, 7, 8, 9, 11, 12, 10] rfl
    have hD : va_D _ ([xObj a tc rc ro, xArr (t 0) (a 1) 30 (xN F), xArr (t 0) (a 2) 30 (xN T), xArr (t 0) (a 3) 30 L, xArr (t 1) (a 4) 30 (xB Z), xArr (t 0) (a 5) 12 E, xArr (t 0) (a 6) 144 B, xArr (t 0) (a 7) 12 X, xArr (t 0) (a 8) 12 R, xArr (t 0) (a 9) 12 N, xMod mb (nI (kIn 7 p0)) tc rc, xArr (t 0) (mb 1) 120 (mkM F T L Z), xLng (t 2) o 1 f]) := hD.sub [0, 1, 2, 3, 4, 5, 6, 7, 8, 9, 11, 12, 10] (by decide) rfl
    have hkk : kIn 7 p0 = kIn 7 p0 := rfl
    have hkm : ¬ kIn 7 p0 = 0 := by rw [hkk]; exact hk0
    try simp only [if_neg hkm] at hP hD
    have hP : va_P D vwCl ([xObj a tc rc ro, xArr (t 0) (a 1) 30 (xN F), xArr (t 0) (a 2) 30 (xN T), xArr (t 0) (a 3) 30 L, xArr (t 1) (a 4) 30 (xB Z), xArr (t 0) (a 5) 12 E, xArr (t 0) (a 6) 144 B, xArr (t 0) (a 7) 12 X, xArr (t 0) (a 8) 12 R, xArr (t 0) (a 9) 12 N, xMod mb (nI (kIn 7 p0)) tc rc, xArr (t 0) (mb 1) 120 (mkM F T L Z), xLng (t 2) o 1 f]) H := hP
    have hD : va_D _ ([xObj a tc rc ro, xArr (t 0) (a 1) 30 (xN F), xArr (t 0) (a 2) 30 (xN T), xArr (t 0) (a 3) 30 L, xArr (t 1) (a 4) 30 (xB Z), xArr (t 0) (a 5) 12 E, xArr (t 0) (a 6) 144 B, xArr (t 0) (a 7) 12 X, xArr (t 0) (a 8) 12 R, xArr (t 0) (a 9) 12 N, xMod mb (nI (kIn 7 p0)) tc rc, xArr (t 0) (mb 1) 120 (mkM F T L Z), xLng (t 2) o 1 f]) := hD
    refine lv_istore (lv' := [(6, .int (if kIn 7 p0 = 0 then cntM (earM F T L Z tc rc) F T L Z tc rc (ix p0) else 0)), (5, .int (nI (kIn 7 p0))), (4, .int (nI (4 * j))), (3, .ref o), (2, .ref (mb 0)), (1, .ref (a 0)), (0, .ref bs)]) hx hb dL_law_547 hl (by decide) rfl (fun ls hl => ?_)
    refine lv_aload_n hx hb dL_law_549 rfl (lv_at hl 4 rfl) ?_
    refine xr_V (b := mb 0) (As := []) (rest := []) ⟨hx, hb, hml, hown, hts⟩ (c_X1_thrown l D t mb (nI (kIn 7 p0)) tc rc ) (cwV 0 hts gL_law_X1_thrown rfl rfl rfl hd_X1_thrown ⟨Nat.le_of_ble_eq_true rfl, Nat.le_of_ble_eq_true rfl⟩) hK hP (va_recv hK hP (ci := 1) (q0 := 10) rfl rfl) [10] rfl rfl hl.1 rfl (Nat.le_of_ble_eq_true rfl) dL_law_550 ⟨(by show _ ≤ 601024; omega), (by show _ ≤ 7293034; omega)⟩ ?_
    refine lv_iload hx hb dL_law_553 (lv_at hl 1 rfl) ?_
    refine lv_icmp_eq (tgt := 560) hx hb dL_law_555 (by decide) (fun _ => ?_) (fun h9 => absurd rfl h9)
    refine lv_iload hx hb dL_law_560 (lv_at hl 1 rfl) ?_
    refine lv_if_ne (tgt := 577) hx hb dL_law_562 (by decide) (fun _ => ?_) (fun h9 => absurd h9 hne9)
    refine lv_goto (tgt := 996) hx hb dL_law_577 (by decide) ?_
    refine W.widen (k := 20 + 1100 * j + 1100) (n := 1000 + 14000 * j + 14000) (by omega) (by omega) ?_
    exact hn tc rc F T L Z ro E B X R N (nI (kIn 7 p0)) f d0 hI hd0 _ _ hP hD hS _ (lv_sub hl [2, 3, 4, 5, 6] rfl)
  · have hk0 : kIn 7 p0 = 0 := hu
    have hP : va_P D vwCl ([xObj a tc rc ro, xArr (t 0) (a 1) 30 (xN F), xArr (t 0) (a 2) 30 (xN T), xArr (t 0) (a 3) 30 L, xArr (t 1) (a 4) 30 (xB Z), xArr (t 0) (a 5) 12 E, xArr (t 0) (a 6) 144 B, xArr (t 0) (a 7) 12 X, xArr (t 0) (a 8) 12 v9.1, xArr (t 0) (a 9) 12 v9.2, xMod mb th tc rc, xArr (t 0) (mb 1) 120 (mkM F T L Z), xLng (t 2) o 1 (vp_updL f 0 (Int32.toInt64 (cntR ro E F T L Z tc rc (ix p0))))]) H := hP.sub [4, 5, 6, 7, 8, 9, 0, 1, 10, 11, 2, 3, 12] rfl
    have hD : va_D _ ([xObj a tc rc ro, xArr (t 0) (a 1) 30 (xN F), xArr (t 0) (a 2) 30 (xN T), xArr (t 0) (a 3) 30 L, xArr (t 1) (a 4) 30 (xB Z), xArr (t 0) (a 5) 12 E, xArr (t 0) (a 6) 144 B, xArr (t 0) (a 7) 12 X, xArr (t 0) (a 8) 12 v9.1, xArr (t 0) (a 9) 12 v9.2, xMod mb th tc rc, xArr (t 0) (mb 1) 120 (mkM F T L Z), xLng (t 2) o 1 (vp_updL f 0 (Int32.toInt64 (cntR ro E F T L Z tc rc (ix p0))))]) := hD.sub [4, 5, 6, 7, 8, 9, 0, 1, 10, 11, 2, 3, 12] (by decide) rfl
    refine lv_istore (lv' := [(5, .int 0), (4, .int (nI (4 * j))), (3, .ref o), (2, .ref (mb 0)), (1, .ref (a 0)), (0, .ref bs)]) hx hb dL_law_535 hl (by decide) rfl (fun ls hl => ?_)
    refine lv_aload_n hx hb dL_law_537 rfl (lv_at hl 3 rfl) ?_
    refine lv_aload_n hx hb dL_law_538 rfl (lv_at hl 5 rfl) ?_
    refine lv_iload hx hb dL_law_539 (lv_at hl 1 rfl) ?_
    refine lv_iconst (v := 1) hx hb dL_law_541 (by decide) ?_
    refine lv_iadd (x := nI (4 * j)) (y := 1) hx hb dL_law_542 ?_
    refine x_top (w := nI (4 * j + 1)) (nI_add (4 * j) 1) ?_
    refine va_sld hx hb hXs hbl hbA hS (vp_in_nI (show 4 * j + 1 < Ls by omega) (by omega)) dL_law_543 ?_
    refine x_top (w := p0) (by rw [nI_clamp (by omega)]; exact hp0.symm) ?_
    refine xm_V (b := mb 0) (As := [.int p0]) (rest := []) (wr := [xObj a tc rc ro, xArr (t 0) (a 1) 30 (xN F), xArr (t 0) (a 2) 30 (xN T), xArr (t 0) (a 3) 30 L, xArr (t 1) (a 4) 30 (xB Z), xArr (t 0) (a 5) 12 E, xArr (t 0) (a 6) 144 B, xArr (t 0) (a 7) 12 X, xArr (t 0) (a 8) 12 v9.1, xArr (t 0) (a 9) 12 v9.2, xLng (t 2) o 1 (vp_updL f 0 (Int32.toInt64 (cntR ro E F T L Z tc rc (ix p0))))]) ⟨hx, hb, hml, hown, hts⟩ aoT (c_X1_count l D t mb th tc rc F T L Z p0 _ htc hrc hF) (cwV 1 hts gL_law_X1_count rfl rfl rfl hd_X1_count ⟨Nat.le_of_ble_eq_true rfl, Nat.le_of_ble_eq_true rfl⟩) hK hP hD hS hA (fun U hW hU => va_AOA.moved hW.alike hXX) (va_recv hK hP (ci := 1) (q0 := 10) rfl rfl) [10, 11] [0, 1, 2, 3, 4, 5, 6, 7, 8, 9, 12] rfl rfl (by decide) (by decide) (by decide) rfl hl.1 rfl (Nat.le_of_ble_eq_true rfl) dL_law_544 ⟨(by show _ ≤ 601024; omega), (by show _ ≤ 7293034; omega)⟩ (fun u_2 H locs hu9 hP hD hS hz => ?_)
    have hP : va_P D vwCl ([xObj a tc rc ro, xArr (t 0) (a 1) 30 (xN F), xArr (t 0) (a 2) 30 (xN T), xArr (t 0) (a 3) 30 L, xArr (t 1) (a 4) 30 (xB Z), xArr (t 0) (a 5) 12 E, xArr (t 0) (a 6) 144 B, xArr (t 0) (a 7) 12 X, xArr (t 0) (a 8) 12 v9.1, xArr (t 0) (a 9) 12 v9.2, xMod mb (nI (kIn 7 p0)) tc rc, xArr (t 0) (mb 1) 120 (mkM F T L Z), xLng (t 2) o 1 (vp_updL f 0 (Int32.toInt64 (cntR ro E F T L Z tc rc (ix p0))))]) H := hP.sub [0, 1, 2, 3, 4, 5, 6, 7, 8, 9, 11, 12, 10] rfl
    have hD : va_D _ ([xObj a tc rc ro, xArr (t 0) (a 1) 30 (xN F), xArr (t 0) (a 2) 30 (xN T), xArr (t 0) (a 3) 30 L, xArr (t 1) (a 4) 30 (xB Z), xArr (t 0) (a 5) 12 E, xArr (t 0) (a 6) 144 B, xArr (t 0) (a 7) 12 X, xArr (t 0) (a 8) 12 v9.1, xArr (t 0) (a 9) 12 v9.2, xMod mb (nI (kIn 7 p0)) tc rc, xArr (t 0) (mb 1) 120 (mkM F T L Z), xLng (t 2) o 1 (vp_updL f 0 (Int32.toInt64 (cntR ro E F T L Z tc rc (ix p0))))]) := hD.sub [0, 1, 2, 3, 4, 5, 6, 7, 8, 9, 11, 12, 10] (by decide) rfl
    have hkk : kIn 7 p0 = kIn 7 p0 := rfl
    have hkm : kIn 7 p0 = 0 := by rw [hkk]; first | exact hk0 | (rw [hk0]; rfl)
    rw [hkm] at hP hD
    have hP : va_P D vwCl ([xObj a tc rc ro, xArr (t 0) (a 1) 30 (xN F), xArr (t 0) (a 2) 30 (xN T), xArr (t 0) (a 3) 30 L, xArr (t 1) (a 4) 30 (xB Z), xArr (t 0) (a 5) 12 E, xArr (t 0) (a 6) 144 B, xArr (t 0) (a 7) 12 X, xArr (t 0) (a 8) 12 v9.1, xArr (t 0) (a 9) 12 v9.2, xMod mb 0 tc rc, xArr (t 0) (mb 1) 120 (mkM F T L Z), xLng (t 2) o 1 (vp_updL f 0 (Int32.toInt64 (cntR ro E F T L Z tc rc (ix p0))))]) H := hP
    have hD : va_D _ ([xObj a tc rc ro, xArr (t 0) (a 1) 30 (xN F), xArr (t 0) (a 2) 30 (xN T), xArr (t 0) (a 3) 30 L, xArr (t 1) (a 4) 30 (xB Z), xArr (t 0) (a 5) 12 E, xArr (t 0) (a 6) 144 B, xArr (t 0) (a 7) 12 X, xArr (t 0) (a 8) 12 v9.1, xArr (t 0) (a 9) 12 v9.2, xMod mb 0 tc rc, xArr (t 0) (mb 1) 120 (mkM F T L Z), xLng (t 2) o 1 (vp_updL f 0 (Int32.toInt64 (cntR ro E F T L Z tc rc (ix p0))))]) := hD
    refine x_top (w := cntR ro E F T L Z tc rc (ix p0)) (by rw [if_pos hkm]; exact q_count hI (ix_lt (kIn_0 hk0) (by omega))) ?_
    refine lv_istore (lv' := [(6, .int (cntR ro E F T L Z tc rc (ix p0))), (5, .int 0), (4, .int (nI (4 * j))), (3, .ref o), (2, .ref (mb 0)), (1, .ref (a 0)), (0, .ref bs)]) hx hb dL_law_547 hl (by decide) rfl (fun ls hl => ?_)
    refine lv_aload_n hx hb dL_law_549 rfl (lv_at hl 4 rfl) ?_
    refine xr_V (b := mb 0) (As := []) (rest := []) ⟨hx, hb, hml, hown, hts⟩ (c_X1_thrown l D t mb 0 tc rc ) (cwV 0 hts gL_law_X1_thrown rfl rfl rfl hd_X1_thrown ⟨Nat.le_of_ble_eq_true rfl, Nat.le_of_ble_eq_true rfl⟩) hK hP (va_recv hK hP (ci := 1) (q0 := 10) rfl rfl) [10] rfl rfl hl.1 rfl (Nat.le_of_ble_eq_true rfl) dL_law_550 ⟨(by show _ ≤ 601024; omega), (by show _ ≤ 7293034; omega)⟩ ?_
    refine x_top (w := 0) rfl ?_
    refine lv_iload hx hb dL_law_553 (lv_at hl 1 rfl) ?_
    refine lv_icmp_eq (tgt := 560) hx hb dL_law_555 (by decide) (fun c_3 => ?_) (fun c_3 => ?_)
    rotate_left
    · exact False.elim (by revert c_3; decide)
    refine lv_iload hx hb dL_law_560 (lv_at hl 1 rfl) ?_
    refine lv_if_ne (tgt := 577) hx hb dL_law_562 (by decide) (fun c_4 => ?_) (fun c_4 => ?_)
    · exact False.elim (by revert c_4; decide)
    refine lv_aload_n hx hb dL_law_565 rfl (lv_at hl 3 rfl) ?_
    refine lv_iconst (v := 0) hx hb dL_law_566 (by decide) ?_
    refine x_lald hx hb hK hP 12 2 rfl rfl (k := 0) (Nat.le_of_ble_eq_true rfl) (Nat.le_of_ble_eq_true rfl) dL_law_567 ?_
    refine x_topL (w := Int32.toInt64 (cntR ro E F T L Z tc rc (ix p0))) rfl ?_
    refine lv_iload hx hb dL_law_568 (lv_at hl 0 rfl) ?_
    refine lv_i2l (x := cntR ro E F T L Z tc rc (ix p0)) (v := Int32.toInt64 (cntR ro E F T L Z tc rc (ix p0))) hx hb dL_law_570 rfl ?_
    refine x_lcmp (v := 0) hx hb (lcmp_self _) dL_law_571 ?_
    refine lv_if_eq (tgt := 577) hx hb dL_law_572 (by decide) (fun c_5 => ?_) (fun c_5 => ?_)
    rotate_left
    · exact False.elim (by revert c_5; decide)
    refine lv_goto (tgt := 996) hx hb dL_law_577 (by decide) ?_
    refine W.widen (k := 20 + 1100 * j + 1100) (n := 1000 + 14000 * j + 14000) (by omega) (by omega) ?_
    exact hn tc rc F T L Z ro E B X v9.1 v9.2 0 (vp_updL f 0 (Int32.toInt64 (cntR ro E F T L Z tc rc (ix p0)))) d0 hI hd0 _ _ hP hD hS _ (lv_sub hl [2, 3, 4, 5, 6] rfl)
set_option maxHeartbeats 4000000 in
set_option maxRecDepth 100000 in
theorem law_holds {p : Program} {l : Launch} {e : Env} {s : State} {m : MethodId} {below : List Frame} {meth : Method} {c : Code} {Q : State → Prop} {bs Ls : Nat} {xs : Nat → Int32} {D : va_G} {t sa a mb : Nat → Nat} {o j : Nat} (hV : lwEnv p l s m meth c bs Ls xs D t sa) (hj : 4 * j + 4 ≤ Ls) (hn : lwNext p l e s m below meth c Q bs D t a mb o j) {tc rc : Nat} {F T : Nat → Nat} {L : Nat → Int32} {Z : Nat → Bool} {ro : Int32} {E B X R N : Nat → Int32} {th : Int32} {f : Nat → Int64} {d0 : Drawn} (hI : xInv tc rc F T L Z ro E B) (hd0 : s.drawn.sameBut d0 lw_cs) {H : Heap} {locs : List Loc} (hP : va_P D vwCl (LWd t a mb o tc rc F T L Z ro E B X R N th f) H) (hD : va_D (fun q => s.heap.size ≤ q) (LWd t a mb o tc rc F T L Z ro E B X R N th f)) (hS : va_S (fun q => s.heap.size ≤ q) s.heap H locs) {ls : Array Slot} (hl : lv_has ls 9 [(4, .int (nI (4 * j))), (3, .ref o), (2, .ref (mb 0)), (1, .ref (a 0)), (0, .ref bs)]) : W p l e room_1 (s.setDrawn d0) m #[Value.ref bs] below meth c H locs (20 + 1100 * j) (1000 + 14000 * j) Q (F0 m 580 ls []) := by
  obtain ⟨hx, hb, hml, hown, hts0, hXs, hbl, hlocks, hK, hXL, hXX, hfl, hLs⟩ := hV
  obtain ⟨htc, hrc, hF, hL9, hro, hE, hB⟩ := id hI
  have hts := dr_words hts0 d0
  have hown : (s.setDrawn d0).vm.findClass RL = some m.cls := hown
  have hK : va_K D vwCl (xTy t) (s.setDrawn d0) := hK
  have hXs : va_X bs Ls xs (s.setDrawn d0) (s.setDrawn d0).heap := hXs
  have hS : va_S (fun q => s.heap.size ≤ q) (s.setDrawn d0).heap H locs := hS
  have hbl : bs < (s.setDrawn d0).heap.size := hbl
  have hXL : xTl s.heap.size sa (s.setDrawn d0) := xTl.trav _ _ s (s.setDrawn d0) rfl rfl hXL
  have hXX : va_AOA .int (s.setDrawn d0) := aoT s (s.setDrawn d0) rfl rfl hXX
  have hbA : ¬ (fun q : Nat => s.heap.size ≤ q) bs := Nat.not_le.mpr hbl
  have hA : ∀ q : Nat, s.heap.size ≤ q → (fun q : Nat => s.heap.size ≤ q) q := fun _ h => h
  refine lv_aload_n hx hb dL_law_580 rfl (lv_at hl 3 rfl) ?_
  refine xr_V (b := a 0) (As := []) (rest := []) ⟨hx, hb, hml, hown, hts⟩ (c_X0_holds l D t a tc rc ro ) (cwV 0 hts gL_law_X0_holds rfl rfl rfl hd_X0_holds ⟨Nat.le_of_ble_eq_true rfl, Nat.le_of_ble_eq_true rfl⟩) hK hP (va_recv hK hP (ci := 0) (q0 := 0) rfl rfl) [0] rfl rfl hl.1 rfl (Nat.le_of_ble_eq_true rfl) dL_law_581 ⟨(by show _ ≤ 601024; omega), (by show _ ≤ 7293034; omega)⟩ ?_
  refine lv_aload_n hx hb dL_law_584 rfl (lv_at hl 2 rfl) ?_
  refine xm_V (b := mb 0) (As := []) (rest := [.int (bI (decide (¬ ro = -1)))]) (wr := [xObj a tc rc ro, xArr (t 0) (a 1) 30 (xN F), xArr (t 0) (a 2) 30 (xN T), xArr (t 0) (a 3) 30 L, xArr (t 1) (a 4) 30 (xB Z), xArr (t 0) (a 5) 12 E, xArr (t 0) (a 6) 144 B, xArr (t 0) (a 7) 12 X, xArr (t 0) (a 8) 12 R, xArr (t 0) (a 9) 12 N, xLng (t 2) o 1 f]) ⟨hx, hb, hml, hown, hts⟩ aoT (c_X1_holds l D t mb th tc rc F T L Z _ htc hrc hF) (cwV 0 hts gL_law_X1_holds rfl rfl rfl hd_X1_holds ⟨Nat.le_of_ble_eq_true rfl, Nat.le_of_ble_eq_true rfl⟩) hK hP hD hS hA (fun U hW hU => va_AOA.moved hW.alike hXX) (va_recv hK hP (ci := 1) (q0 := 10) rfl rfl) [10, 11] [0, 1, 2, 3, 4, 5, 6, 7, 8, 9, 12] rfl rfl (by decide) (by decide) (by decide) rfl hl.1 rfl (Nat.le_of_ble_eq_true rfl) dL_law_585 ⟨(by show _ ≤ 601024; omega), (by show _ ≤ 7293034; omega)⟩ (fun u_1 H locs hu9 hP hD hS hz => ?_)
  have hP : va_P D vwCl ([xObj a tc rc ro, xArr (t 0) (a 1) 30 (xN F), xArr (t 0) (a 2) 30 (xN T), xArr (t 0) (a 3) 30 L, xArr (t 1) (a 4) 30 (xB Z), xArr (t 0) (a 5) 12 E, xArr (t 0) (a 6) 144 B, xArr (t 0) (a 7) 12 X, xArr (t 0) (a 8) 12 R, xArr (t 0) (a 9) 12 N, xMod mb 0 tc rc, xArr (t 0) (mb 1) 120 (mkM F T L Z), xLng (t 2) o 1 f]) H := hP.sub [0, 1, 2, 3, 4, 5, 6, 7, 8, 9, 11, 12, 10] rfl
  have hD : va_D _ ([xObj a tc rc ro, xArr (t 0) (a 1) 30 (xN F), xArr (t 0) (a 2) 30 (xN T), xArr (t 0) (a 3) 30 L, xArr (t 1) (a 4) 30 (xB Z), xArr (t 0) (a 5) 12 E, xArr (t 0) (a 6) 144 B, xArr (t 0) (a 7) 12 X, xArr (t 0) (a 8) 12 R, xArr (t 0) (a 9) 12 N, xMod mb 0 tc rc, xArr (t 0) (mb 1) 120 (mkM F T L Z), xLng (t 2) o 1 f]) := hD.sub [0, 1, 2, 3, 4, 5, 6, 7, 8, 9, 11, 12, 10] (by decide) rfl
  refine x_top (w := bI (decide (¬ ro = -1))) (by rw [← hro]) ?_
  refine lv_icmp_eq (tgt := 996) hx hb dL_law_588 (by decide) (fun _ => ?_) (fun h9 => absurd rfl h9)
  refine W.widen (k := 20 + 1100 * j + 1100) (n := 1000 + 14000 * j + 14000) (by omega) (by omega) ?_
  exact hn tc rc F T L Z ro E B X R N 0 f d0 hI hd0 _ _ hP hD hS _ (lv_sub hl [0, 1, 2, 3, 4] rfl)
set_option maxHeartbeats 4000000 in
set_option maxRecDepth 100000 in
theorem law_late {p : Program} {l : Launch} {e : Env} {s : State} {m : MethodId} {below : List Frame} {meth : Method} {c : Code} {Q : State → Prop} {bs Ls : Nat} {xs : Nat → Int32} {D : va_G} {t sa a mb : Nat → Nat} {o j : Nat} (hV : lwEnv p l s m meth c bs Ls xs D t sa) (hj : 4 * j + 4 ≤ Ls) (hn : lwNext p l e s m below meth c Q bs D t a mb o j) {tc rc : Nat} {F T : Nat → Nat} {L : Nat → Int32} {Z : Nat → Bool} {ro : Int32} {E B X R N : Nat → Int32} {th : Int32} {f : Nat → Int64} {d0 : Drawn} (hI : xInv tc rc F T L Z ro E B) (hd0 : s.drawn.sameBut d0 lw_cs) {H : Heap} {locs : List Loc} (hP : va_P D vwCl (LWd t a mb o tc rc F T L Z ro E B X R N th f) H) (hD : va_D (fun q => s.heap.size ≤ q) (LWd t a mb o tc rc F T L Z ro E B X R N th f)) (hS : va_S (fun q => s.heap.size ≤ q) s.heap H locs) {ls : Array Slot} (hl : lv_has ls 9 [(4, .int (nI (4 * j))), (3, .ref o), (2, .ref (mb 0)), (1, .ref (a 0)), (0, .ref bs)]) : W p l e room_1 (s.setDrawn d0) m #[Value.ref bs] below meth c H locs (20 + 1100 * j) (1000 + 14000 * j) Q (F0 m 593 ls []) := by
  obtain ⟨hx, hb, hml, hown, hts0, hXs, hbl, hlocks, hK, hXL, hXX, hfl, hLs⟩ := hV
  obtain ⟨htc, hrc, hF, hL9, hro, hE, hB⟩ := id hI
  have hts := dr_words hts0 d0
  have hown : (s.setDrawn d0).vm.findClass RL = some m.cls := hown
  have hK : va_K D vwCl (xTy t) (s.setDrawn d0) := hK
  have hXs : va_X bs Ls xs (s.setDrawn d0) (s.setDrawn d0).heap := hXs
  have hS : va_S (fun q => s.heap.size ≤ q) (s.setDrawn d0).heap H locs := hS
  have hbl : bs < (s.setDrawn d0).heap.size := hbl
  have hXL : xTl s.heap.size sa (s.setDrawn d0) := xTl.trav _ _ s (s.setDrawn d0) rfl rfl hXL
  have hXX : va_AOA .int (s.setDrawn d0) := aoT s (s.setDrawn d0) rfl rfl hXX
  have hbA : ¬ (fun q : Nat => s.heap.size ≤ q) bs := Nat.not_le.mpr hbl
  have hA : ∀ q : Nat, s.heap.size ≤ q → (fun q : Nat => s.heap.size ≤ q) q := fun _ h => h
  obtain ⟨p0, hp0⟩ : ∃ x, x = xs (4 * j + 1) := ⟨_, rfl⟩
  obtain ⟨p1, hp1⟩ : ∃ x, x = xs (4 * j + 2) := ⟨_, rfl⟩
  refine lv_aload_n hx hb dL_law_593 rfl (lv_at hl 3 rfl) ?_
  refine lv_aload_n hx hb dL_law_594 rfl (lv_at hl 4 rfl) ?_
  refine lv_iload hx hb dL_law_595 (lv_at hl 0 rfl) ?_
  refine lv_iconst (v := 1) hx hb dL_law_597 (by decide) ?_
  refine lv_iadd (x := nI (4 * j)) (y := 1) hx hb dL_law_598 ?_
  refine x_top (w := nI (4 * j + 1)) (nI_add (4 * j) 1) ?_
  refine va_sld hx hb hXs hbl hbA hS (vp_in_nI (show 4 * j + 1 < Ls by omega) (by omega)) dL_law_599 ?_
  refine x_top (w := p0) (by rw [nI_clamp (by omega)]; exact hp0.symm) ?_
  refine lv_aload_n hx hb dL_law_600 rfl (lv_at hl 4 rfl) ?_
  refine lv_iload hx hb dL_law_601 (lv_at hl 0 rfl) ?_
  refine lv_iconst (v := 2) hx hb dL_law_603 (by decide) ?_
  refine lv_iadd (x := nI (4 * j)) (y := 2) hx hb dL_law_604 ?_
  refine x_top (w := nI (4 * j + 2)) (nI_add (4 * j) 2) ?_
  refine va_sld hx hb hXs hbl hbA hS (vp_in_nI (show 4 * j + 2 < Ls by omega) (by omega)) dL_law_605 ?_
  refine x_top (w := p1) (by rw [nI_clamp (by omega)]; exact hp1.symm) ?_
  refine lv_aload_n hx hb dL_law_606 rfl (lv_at hl 1 rfl) ?_
  refine xl_S (As := [.ref (a 0), .int p0, .int p1, .ref o]) (rest := []) (wr := [xArr (t 0) (a 1) 30 (xN F), xArr (t 0) (a 2) 30 (xN T), xArr (t 0) (a 3) 30 L, xArr (t 1) (a 4) 30 (xB Z), xArr (t 0) (a 7) 12 X, xArr (t 0) (a 8) 12 R, xArr (t 0) (a 9) 12 N, xMod mb th tc rc, xArr (t 0) (mb 1) 120 (mkM F T L Z)]) ⟨hx, hb, hml, hown, hts⟩ (xTl.trav _ _) (c_L_late l hfl D t a tc rc ro E B p0 p1 o f s.heap.size sa _ htc) (vx_cwSW 4 hts gL_law_L_late rfl rfl rfl hd_L_late ⟨Nat.le_of_ble_eq_true rfl, Nat.le_of_ble_eq_true rfl⟩) hK hP hD hS hA (fun U hW hU => xTl.warm hW (fun q h1 h2 => by rw [hU]; exact hS.2.1 q h1 h2) hXL) [0, 5, 6, 12] [1, 2, 3, 4, 7, 8, 9, 10, 11] rfl rfl (by decide) (by decide) (by decide) rfl hl.1 rfl (Nat.le_of_ble_eq_true rfl) dL_law_607 ⟨(by show _ ≤ 601024; omega), (by show _ ≤ 7293034; omega)⟩ (fun u H locs hu hP hD hS hz => ?_)
  rcases u with _ | v9
  · have hk0 : ¬ kLate tc ro E p0 p1 = 0 := hu
    have hle9 : (kLate tc ro E p0 p1) ≤ 3 := by unfold kLate; (repeat' split) <;> omega
    have hne9 : ¬ nI (kLate tc ro E p0 p1) = 0 := k_ne hk0 hle9
    have hP : va_P D vwCl ([xObj a tc rc ro, xArr (t 0) (a 1) 30 (xN F), xArr (t 0) (a 2) 30 (xN T), xArr (t 0) (a 3) 30 L, xArr (t 1) (a 4) 30 (xB Z), xArr (t 0) (a 5) 12 E, xArr (t 0) (a 6) 144 B, xArr (t 0) (a 7) 12 X, xArr (t 0) (a 8) 12 R, xArr (t 0) (a 9) 12 N, xMod mb th tc rc, xArr (t 0) (mb 1) 120 (mkM F T L Z), xLng (t 2) o 1 f]) H := hP.sub [9, 0, 1, 2, 3, 10, 11, 4, 5, 6, 7, 8, 12] rfl
    have hD : va_D _ ([xObj a tc rc ro, xArr (t 0) (a 1) 30 (xN F), xArr (t 0) (a 2) 30 (xN T), xArr (t 0) (a 3) 30 L, xArr (t 1) (a 4) 30 (xB Z), xArr (t 0) (a 5) 12 E, xArr (t 0) (a 6) 144 B, xArr (t 0) (a 7) 12 X, xArr (t 0) (a 8) 12 R, xArr (t 0) (a 9) 12 N, xMod mb th tc rc, xArr (t 0) (mb 1) 120 (mkM F T L Z), xLng (t 2) o 1 f]) := hD.sub [9, 0, 1, 2, 3, 10, 11, 4, 5, 6, 7, 8, 12] (by decide) rfl
    refine lv_istore (lv' := [(5, .int (nI (kLate tc ro E p0 p1))), (4, .int (nI (4 * j))), (3, .ref o), (2, .ref (mb 0)), (1, .ref (a 0)), (0, .ref bs)]) hx hb dL_law_610 hl (by decide) rfl (fun ls hl => ?_)
    refine lv_aload_n hx hb dL_law_612 rfl (lv_at hl 3 rfl) ?_
    refine lv_aload_n hx hb dL_law_613 rfl (lv_at hl 5 rfl) ?_
    refine lv_iload hx hb dL_law_614 (lv_at hl 1 rfl) ?_
    refine lv_iconst (v := 1) hx hb dL_law_616 (by decide) ?_
    refine lv_iadd (x := nI (4 * j)) (y := 1) hx hb dL_law_617 ?_
    refine x_top (w := nI (4 * j + 1)) (nI_add (4 * j) 1) ?_
    refine va_sld hx hb hXs hbl hbA hS (vp_in_nI (show 4 * j + 1 < Ls by omega) (by omega)) dL_law_618 ?_
    refine x_top (w := p0) (by rw [nI_clamp (by omega)]; exact hp0.symm) ?_
    refine lv_aload_n hx hb dL_law_619 rfl (lv_at hl 5 rfl) ?_
    refine lv_iload hx hb dL_law_620 (lv_at hl 1 rfl) ?_
    refine lv_iconst (v := 2) hx hb dL_law_622 (by decide) ?_
    refine lv_iadd (x := nI (4 * j)) (y := 2) hx hb dL_law_623 ?_
    refine x_top (w := nI (4 * j + 2)) (nI_add (4 * j) 2) ?_
    refine va_sld hx hb hXs hbl hbA hS (vp_in_nI (show 4 * j + 2 < Ls by omega) (by omega)) dL_law_624 ?_
    refine x_top (w := p1) (by rw [nI_clamp (by omega)]; exact hp1.symm) ?_
    refine xm_V (b := mb 0) (As := [.int p0, .int p1]) (rest := []) (wr := [xObj a tc rc ro, xArr (t 0) (a 1) 30 (xN F), xArr (t 0) (a 2) 30 (xN T), xArr (t 0) (a 3) 30 L, xArr (t 1) (a 4) 30 (xB Z), xArr (t 0) (a 5) 12 E, xArr (t 0) (a 6) 144 B, xArr (t 0) (a 7) 12 X, xArr (t 0) (a 8) 12 R, xArr (t 0) (a 9) 12 N, xLng (t 2) o 1 f]) ⟨hx, hb, hml, hown, hts⟩ aoT (c_X1_late l D t mb th tc rc F T L Z p0 p1 _ htc hrc hF) (cwV 2 hts gL_law_X1_late rfl rfl rfl hd_X1_late ⟨Nat.le_of_ble_eq_true rfl, Nat.le_of_ble_eq_true rfl⟩) hK hP hD hS hA (fun U hW hU => va_AOA.moved hW.alike hXX) (va_recv hK hP (ci := 1) (q0 := 10) rfl rfl) [10, 11] [0, 1, 2, 3, 4, 5, 6, 7, 8, 9, 12] rfl rfl (by decide) (by decide) (by decide) rfl hl.1 rfl (Nat.le_of_ble_eq_true rfl) dL_law_625 ⟨(by show _ ≤ 601024; omega), (by show _ ≤ 7293034; omega)⟩ (fun u_1 H locs hu9 hP hD hS hz => ?_)
    have hP : va_P D vwCl ([xObj a tc rc ro, xArr (t 0) (a 1) 30 (xN F), xArr (t 0) (a 2) 30 (xN T), xArr (t 0) (a 3) 30 L, xArr (t 1) (a 4) 30 (xB Z), xArr (t 0) (a 5) 12 E, xArr (t 0) (a 6) 144 B, xArr (t 0) (a 7) 12 X, xArr (t 0) (a 8) 12 R, xArr (t 0) (a 9) 12 N, xMod mb (nI (kLate tc (earM F T L Z tc rc 12) (earM F T L Z tc rc) p0 p1)) tc rc, xArr (t 0) (mb 1) 120 (mkM F T L Z), xLng (t 2) o 1 f]) H := hP.sub [0, 1, 2, 3, 4, 5, 6, 7, 8, 9, 11, 12, 10] rfl
    have hD : va_D _ ([xObj a tc rc ro, xArr (t 0) (a 1) 30 (xN F), xArr (t 0) (a 2) 30 (xN T), xArr (t 0) (a 3) 30 L, xArr (t 1) (a 4) 30 (xB Z), xArr (t 0) (a 5) 12 E, xArr (t 0) (a 6) 144 B, xArr (t 0) (a 7) 12 X, xArr (t 0) (a 8) 12 R, xArr (t 0) (a 9) 12 N, xMod mb (nI (kLate tc (earM F T L Z tc rc 12) (earM F T L Z tc rc) p0 p1)) tc rc, xArr (t 0) (mb 1) 120 (mkM F T L Z), xLng (t 2) o 1 f]) := hD.sub [0, 1, 2, 3, 4, 5, 6, 7, 8, 9, 11, 12, 10] (by decide) rfl
    have hkk : kLate tc (earM F T L Z tc rc 12) (earM F T L Z tc rc) p0 p1 = kLate tc ro E p0 p1 := (q_kLate hI p0 p1)
    have hkm : ¬ kLate tc (earM F T L Z tc rc 12) (earM F T L Z tc rc) p0 p1 = 0 := by rw [hkk]; exact hk0
    try simp only [if_neg hkm] at hP hD
    rw [hkk] at hP hD
    have hP : va_P D vwCl ([xObj a tc rc ro, xArr (t 0) (a 1) 30 (xN F), xArr (t 0) (a 2) 30 (xN T), xArr (t 0) (a 3) 30 L, xArr (t 1) (a 4) 30 (xB Z), xArr (t 0) (a 5) 12 E, xArr (t 0) (a 6) 144 B, xArr (t 0) (a 7) 12 X, xArr (t 0) (a 8) 12 R, xArr (t 0) (a 9) 12 N, xMod mb (nI (kLate tc ro E p0 p1)) tc rc, xArr (t 0) (mb 1) 120 (mkM F T L Z), xLng (t 2) o 1 f]) H := hP
    have hD : va_D _ ([xObj a tc rc ro, xArr (t 0) (a 1) 30 (xN F), xArr (t 0) (a 2) 30 (xN T), xArr (t 0) (a 3) 30 L, xArr (t 1) (a 4) 30 (xB Z), xArr (t 0) (a 5) 12 E, xArr (t 0) (a 6) 144 B, xArr (t 0) (a 7) 12 X, xArr (t 0) (a 8) 12 R, xArr (t 0) (a 9) 12 N, xMod mb (nI (kLate tc ro E p0 p1)) tc rc, xArr (t 0) (mb 1) 120 (mkM F T L Z), xLng (t 2) o 1 f]) := hD
    refine lv_istore (lv' := [(6, .int (if kLate tc (earM F T L Z tc rc 12) (earM F T L Z tc rc) p0 p1 = 0 then p1 + lateG (wayM F T L Z tc rc) (ix p0) tc 0 0 else 0)), (5, .int (nI (kLate tc ro E p0 p1))), (4, .int (nI (4 * j))), (3, .ref o), (2, .ref (mb 0)), (1, .ref (a 0)), (0, .ref bs)]) hx hb dL_law_628 hl (by decide) rfl (fun ls hl => ?_)
    refine lv_aload_n hx hb dL_law_630 rfl (lv_at hl 4 rfl) ?_
    refine xr_V (b := mb 0) (As := []) (rest := []) ⟨hx, hb, hml, hown, hts⟩ (c_X1_thrown l D t mb (nI (kLate tc ro E p0 p1)) tc rc ) (cwV 0 hts gL_law_X1_thrown rfl rfl rfl hd_X1_thrown ⟨Nat.le_of_ble_eq_true rfl, Nat.le_of_ble_eq_true rfl⟩) hK hP (va_recv hK hP (ci := 1) (q0 := 10) rfl rfl) [10] rfl rfl hl.1 rfl (Nat.le_of_ble_eq_true rfl) dL_law_631 ⟨(by show _ ≤ 601024; omega), (by show _ ≤ 7293034; omega)⟩ ?_
    refine lv_iload hx hb dL_law_634 (lv_at hl 1 rfl) ?_
    refine lv_icmp_eq (tgt := 641) hx hb dL_law_636 (by decide) (fun _ => ?_) (fun h9 => absurd rfl h9)
    refine lv_iload hx hb dL_law_641 (lv_at hl 1 rfl) ?_
    refine lv_if_ne (tgt := 658) hx hb dL_law_643 (by decide) (fun _ => ?_) (fun h9 => absurd h9 hne9)
    refine lv_goto (tgt := 996) hx hb dL_law_658 (by decide) ?_
    refine W.widen (k := 20 + 1100 * j + 1100) (n := 1000 + 14000 * j + 14000) (by omega) (by omega) ?_
    exact hn tc rc F T L Z ro E B X R N (nI (kLate tc ro E p0 p1)) f d0 hI hd0 _ _ hP hD hS _ (lv_sub hl [2, 3, 4, 5, 6] rfl)
  · have hk0 : kLate tc ro E p0 p1 = 0 := hu
    have hP : va_P D vwCl ([xObj a tc rc ro, xArr (t 0) (a 1) 30 (xN F), xArr (t 0) (a 2) 30 (xN T), xArr (t 0) (a 3) 30 L, xArr (t 1) (a 4) 30 (xB Z), xArr (t 0) (a 5) 12 E, xArr (t 0) (a 6) 144 B, xArr (t 0) (a 7) 12 X, xArr (t 0) (a 8) 12 R, xArr (t 0) (a 9) 12 N, xMod mb th tc rc, xArr (t 0) (mb 1) 120 (mkM F T L Z), xLng (t 2) o 1 (vp_updL f 0 (Int32.toInt64 (lateF B (ix p0) p1 tc 0 p1)))]) H := hP.sub [9, 0, 1, 2, 3, 10, 11, 4, 5, 6, 7, 8, 12] rfl
    have hD : va_D _ ([xObj a tc rc ro, xArr (t 0) (a 1) 30 (xN F), xArr (t 0) (a 2) 30 (xN T), xArr (t 0) (a 3) 30 L, xArr (t 1) (a 4) 30 (xB Z), xArr (t 0) (a 5) 12 E, xArr (t 0) (a 6) 144 B, xArr (t 0) (a 7) 12 X, xArr (t 0) (a 8) 12 R, xArr (t 0) (a 9) 12 N, xMod mb th tc rc, xArr (t 0) (mb 1) 120 (mkM F T L Z), xLng (t 2) o 1 (vp_updL f 0 (Int32.toInt64 (lateF B (ix p0) p1 tc 0 p1)))]) := hD.sub [9, 0, 1, 2, 3, 10, 11, 4, 5, 6, 7, 8, 12] (by decide) rfl
    refine lv_istore (lv' := [(5, .int 0), (4, .int (nI (4 * j))), (3, .ref o), (2, .ref (mb 0)), (1, .ref (a 0)), (0, .ref bs)]) hx hb dL_law_610 hl (by decide) rfl (fun ls hl => ?_)
    refine lv_aload_n hx hb dL_law_612 rfl (lv_at hl 3 rfl) ?_
    refine lv_aload_n hx hb dL_law_613 rfl (lv_at hl 5 rfl) ?_
    refine lv_iload hx hb dL_law_614 (lv_at hl 1 rfl) ?_
    refine lv_iconst (v := 1) hx hb dL_law_616 (by decide) ?_
    refine lv_iadd (x := nI (4 * j)) (y := 1) hx hb dL_law_617 ?_
    refine x_top (w := nI (4 * j + 1)) (nI_add (4 * j) 1) ?_
    refine va_sld hx hb hXs hbl hbA hS (vp_in_nI (show 4 * j + 1 < Ls by omega) (by omega)) dL_law_618 ?_
    refine x_top (w := p0) (by rw [nI_clamp (by omega)]; exact hp0.symm) ?_
    refine lv_aload_n hx hb dL_law_619 rfl (lv_at hl 5 rfl) ?_
    refine lv_iload hx hb dL_law_620 (lv_at hl 1 rfl) ?_
    refine lv_iconst (v := 2) hx hb dL_law_622 (by decide) ?_
    refine lv_iadd (x := nI (4 * j)) (y := 2) hx hb dL_law_623 ?_
    refine x_top (w := nI (4 * j + 2)) (nI_add (4 * j) 2) ?_
    refine va_sld hx hb hXs hbl hbA hS (vp_in_nI (show 4 * j + 2 < Ls by omega) (by omega)) dL_law_624 ?_
    refine x_top (w := p1) (by rw [nI_clamp (by omega)]; exact hp1.symm) ?_
    refine xm_V (b := mb 0) (As := [.int p0, .int p1]) (rest := []) (wr := [xObj a tc rc ro, xArr (t 0) (a 1) 30 (xN F), xArr (t 0) (a 2) 30 (xN T), xArr (t 0) (a 3) 30 L, xArr (t 1) (a 4) 30 (xB Z), xArr (t 0) (a 5) 12 E, xArr (t 0) (a 6) 144 B, xArr (t 0) (a 7) 12 X, xArr (t 0) (a 8) 12 R, xArr (t 0) (a 9) 12 N, xLng (t 2) o 1 (vp_updL f 0 (Int32.toInt64 (lateF B (ix p0) p1 tc 0 p1)))]) ⟨hx, hb, hml, hown, hts⟩ aoT (c_X1_late l D t mb th tc rc F T L Z p0 p1 _ htc hrc hF) (cwV 2 hts gL_law_X1_late rfl rfl rfl hd_X1_late ⟨Nat.le_of_ble_eq_true rfl, Nat.le_of_ble_eq_true rfl⟩) hK hP hD hS hA (fun U hW hU => va_AOA.moved hW.alike hXX) (va_recv hK hP (ci := 1) (q0 := 10) rfl rfl) [10, 11] [0, 1, 2, 3, 4, 5, 6, 7, 8, 9, 12] rfl rfl (by decide) (by decide) (by decide) rfl hl.1 rfl (Nat.le_of_ble_eq_true rfl) dL_law_625 ⟨(by show _ ≤ 601024; omega), (by show _ ≤ 7293034; omega)⟩ (fun u_2 H locs hu9 hP hD hS hz => ?_)
    have hP : va_P D vwCl ([xObj a tc rc ro, xArr (t 0) (a 1) 30 (xN F), xArr (t 0) (a 2) 30 (xN T), xArr (t 0) (a 3) 30 L, xArr (t 1) (a 4) 30 (xB Z), xArr (t 0) (a 5) 12 E, xArr (t 0) (a 6) 144 B, xArr (t 0) (a 7) 12 X, xArr (t 0) (a 8) 12 R, xArr (t 0) (a 9) 12 N, xMod mb (nI (kLate tc (earM F T L Z tc rc 12) (earM F T L Z tc rc) p0 p1)) tc rc, xArr (t 0) (mb 1) 120 (mkM F T L Z), xLng (t 2) o 1 (vp_updL f 0 (Int32.toInt64 (lateF B (ix p0) p1 tc 0 p1)))]) H := hP.sub [0, 1, 2, 3, 4, 5, 6, 7, 8, 9, 11, 12, 10] rfl
    have hD : va_D _ ([xObj a tc rc ro, xArr (t 0) (a 1) 30 (xN F), xArr (t 0) (a 2) 30 (xN T), xArr (t 0) (a 3) 30 L, xArr (t 1) (a 4) 30 (xB Z), xArr (t 0) (a 5) 12 E, xArr (t 0) (a 6) 144 B, xArr (t 0) (a 7) 12 X, xArr (t 0) (a 8) 12 R, xArr (t 0) (a 9) 12 N, xMod mb (nI (kLate tc (earM F T L Z tc rc 12) (earM F T L Z tc rc) p0 p1)) tc rc, xArr (t 0) (mb 1) 120 (mkM F T L Z), xLng (t 2) o 1 (vp_updL f 0 (Int32.toInt64 (lateF B (ix p0) p1 tc 0 p1)))]) := hD.sub [0, 1, 2, 3, 4, 5, 6, 7, 8, 9, 11, 12, 10] (by decide) rfl
    have hkk : kLate tc (earM F T L Z tc rc 12) (earM F T L Z tc rc) p0 p1 = kLate tc ro E p0 p1 := (q_kLate hI p0 p1)
    have hkm : kLate tc (earM F T L Z tc rc 12) (earM F T L Z tc rc) p0 p1 = 0 := by rw [hkk]; first | exact hk0 | (rw [hk0]; rfl)
    rw [hkm] at hP hD
    have hP : va_P D vwCl ([xObj a tc rc ro, xArr (t 0) (a 1) 30 (xN F), xArr (t 0) (a 2) 30 (xN T), xArr (t 0) (a 3) 30 L, xArr (t 1) (a 4) 30 (xB Z), xArr (t 0) (a 5) 12 E, xArr (t 0) (a 6) 144 B, xArr (t 0) (a 7) 12 X, xArr (t 0) (a 8) 12 R, xArr (t 0) (a 9) 12 N, xMod mb 0 tc rc, xArr (t 0) (mb 1) 120 (mkM F T L Z), xLng (t 2) o 1 (vp_updL f 0 (Int32.toInt64 (lateF B (ix p0) p1 tc 0 p1)))]) H := hP
    have hD : va_D _ ([xObj a tc rc ro, xArr (t 0) (a 1) 30 (xN F), xArr (t 0) (a 2) 30 (xN T), xArr (t 0) (a 3) 30 L, xArr (t 1) (a 4) 30 (xB Z), xArr (t 0) (a 5) 12 E, xArr (t 0) (a 6) 144 B, xArr (t 0) (a 7) 12 X, xArr (t 0) (a 8) 12 R, xArr (t 0) (a 9) 12 N, xMod mb 0 tc rc, xArr (t 0) (mb 1) 120 (mkM F T L Z), xLng (t 2) o 1 (vp_updL f 0 (Int32.toInt64 (lateF B (ix p0) p1 tc 0 p1)))]) := hD
    refine x_top (w := lateF B (ix p0) p1 tc 0 p1) (by rw [if_pos hkm]; exact q_late hI (kLate_0 hk0).2.2 (ix_lt (kLate_0 hk0).1 (by omega)) (kLate_0 hk0).2.1) ?_
    refine lv_istore (lv' := [(6, .int (lateF B (ix p0) p1 tc 0 p1)), (5, .int 0), (4, .int (nI (4 * j))), (3, .ref o), (2, .ref (mb 0)), (1, .ref (a 0)), (0, .ref bs)]) hx hb dL_law_628 hl (by decide) rfl (fun ls hl => ?_)
    refine lv_aload_n hx hb dL_law_630 rfl (lv_at hl 4 rfl) ?_
    refine xr_V (b := mb 0) (As := []) (rest := []) ⟨hx, hb, hml, hown, hts⟩ (c_X1_thrown l D t mb 0 tc rc ) (cwV 0 hts gL_law_X1_thrown rfl rfl rfl hd_X1_thrown ⟨Nat.le_of_ble_eq_true rfl, Nat.le_of_ble_eq_true rfl⟩) hK hP (va_recv hK hP (ci := 1) (q0 := 10) rfl rfl) [10] rfl rfl hl.1 rfl (Nat.le_of_ble_eq_true rfl) dL_law_631 ⟨(by show _ ≤ 601024; omega), (by show _ ≤ 7293034; omega)⟩ ?_
    refine x_top (w := 0) rfl ?_
    refine lv_iload hx hb dL_law_634 (lv_at hl 1 rfl) ?_
    refine lv_icmp_eq (tgt := 641) hx hb dL_law_636 (by decide) (fun c_3 => ?_) (fun c_3 => ?_)
    rotate_left
    · exact False.elim (by revert c_3; decide)
    refine lv_iload hx hb dL_law_641 (lv_at hl 1 rfl) ?_
    refine lv_if_ne (tgt := 658) hx hb dL_law_643 (by decide) (fun c_4 => ?_) (fun c_4 => ?_)
    · exact False.elim (by revert c_4; decide)
    refine lv_aload_n hx hb dL_law_646 rfl (lv_at hl 3 rfl) ?_
    refine lv_iconst (v := 0) hx hb dL_law_647 (by decide) ?_
    refine x_lald hx hb hK hP 12 2 rfl rfl (k := 0) (Nat.le_of_ble_eq_true rfl) (Nat.le_of_ble_eq_true rfl) dL_law_648 ?_
    refine x_topL (w := Int32.toInt64 (lateF B (ix p0) p1 tc 0 p1)) rfl ?_
    refine lv_iload hx hb dL_law_649 (lv_at hl 0 rfl) ?_
    refine lv_i2l (x := lateF B (ix p0) p1 tc 0 p1) (v := Int32.toInt64 (lateF B (ix p0) p1 tc 0 p1)) hx hb dL_law_651 rfl ?_
    refine x_lcmp (v := 0) hx hb (lcmp_self _) dL_law_652 ?_
    refine lv_if_eq (tgt := 658) hx hb dL_law_653 (by decide) (fun c_5 => ?_) (fun c_5 => ?_)
    rotate_left
    · exact False.elim (by revert c_5; decide)
    refine lv_goto (tgt := 996) hx hb dL_law_658 (by decide) ?_
    refine W.widen (k := 20 + 1100 * j + 1100) (n := 1000 + 14000 * j + 14000) (by omega) (by omega) ?_
    exact hn tc rc F T L Z ro E B X R N 0 (vp_updL f 0 (Int32.toInt64 (lateF B (ix p0) p1 tc 0 p1))) d0 hI hd0 _ _ hP hD hS _ (lv_sub hl [2, 3, 4, 5, 6] rfl)
set_option maxHeartbeats 4000000 in
set_option maxRecDepth 100000 in
theorem law_most {p : Program} {l : Launch} {e : Env} {s : State} {m : MethodId} {below : List Frame} {meth : Method} {c : Code} {Q : State → Prop} {bs Ls : Nat} {xs : Nat → Int32} {D : va_G} {t sa a mb : Nat → Nat} {o j : Nat} (hV : lwEnv p l s m meth c bs Ls xs D t sa) (hj : 4 * j + 4 ≤ Ls) (hn : lwNext p l e s m below meth c Q bs D t a mb o j) {tc rc : Nat} {F T : Nat → Nat} {L : Nat → Int32} {Z : Nat → Bool} {ro : Int32} {E B X R N : Nat → Int32} {th : Int32} {f : Nat → Int64} {d0 : Drawn} (hI : xInv tc rc F T L Z ro E B) (hd0 : s.drawn.sameBut d0 lw_cs) {H : Heap} {locs : List Loc} (hP : va_P D vwCl (LWd t a mb o tc rc F T L Z ro E B X R N th f) H) (hD : va_D (fun q => s.heap.size ≤ q) (LWd t a mb o tc rc F T L Z ro E B X R N th f)) (hS : va_S (fun q => s.heap.size ≤ q) s.heap H locs) {ls : Array Slot} (hl : lv_has ls 9 [(4, .int (nI (4 * j))), (3, .ref o), (2, .ref (mb 0)), (1, .ref (a 0)), (0, .ref bs)]) : W p l e room_1 (s.setDrawn d0) m #[Value.ref bs] below meth c H locs (20 + 1100 * j) (1000 + 14000 * j) Q (F0 m 661 ls []) := by
  obtain ⟨hx, hb, hml, hown, hts0, hXs, hbl, hlocks, hK, hXL, hXX, hfl, hLs⟩ := hV
  obtain ⟨htc, hrc, hF, hL9, hro, hE, hB⟩ := id hI
  have hts := dr_words hts0 d0
  have hown : (s.setDrawn d0).vm.findClass RL = some m.cls := hown
  have hK : va_K D vwCl (xTy t) (s.setDrawn d0) := hK
  have hXs : va_X bs Ls xs (s.setDrawn d0) (s.setDrawn d0).heap := hXs
  have hS : va_S (fun q => s.heap.size ≤ q) (s.setDrawn d0).heap H locs := hS
  have hbl : bs < (s.setDrawn d0).heap.size := hbl
  have hXL : xTl s.heap.size sa (s.setDrawn d0) := xTl.trav _ _ s (s.setDrawn d0) rfl rfl hXL
  have hXX : va_AOA .int (s.setDrawn d0) := aoT s (s.setDrawn d0) rfl rfl hXX
  have hbA : ¬ (fun q : Nat => s.heap.size ≤ q) bs := Nat.not_le.mpr hbl
  have hA : ∀ q : Nat, s.heap.size ≤ q → (fun q : Nat => s.heap.size ≤ q) q := fun _ h => h
  obtain ⟨p0, hp0⟩ : ∃ x, x = xs (4 * j + 1) := ⟨_, rfl⟩
  obtain ⟨p1, hp1⟩ : ∃ x, x = xs (4 * j + 2) := ⟨_, rfl⟩
  refine lv_aload_n hx hb dL_law_661 rfl (lv_at hl 3 rfl) ?_
  refine lv_aload_n hx hb dL_law_662 rfl (lv_at hl 4 rfl) ?_
  refine lv_iload hx hb dL_law_663 (lv_at hl 0 rfl) ?_
  refine lv_iconst (v := 1) hx hb dL_law_665 (by decide) ?_
  refine lv_iadd (x := nI (4 * j)) (y := 1) hx hb dL_law_666 ?_
  refine x_top (w := nI (4 * j + 1)) (nI_add (4 * j) 1) ?_
  refine va_sld hx hb hXs hbl hbA hS (vp_in_nI (show 4 * j + 1 < Ls by omega) (by omega)) dL_law_667 ?_
  refine x_top (w := p0) (by rw [nI_clamp (by omega)]; exact hp0.symm) ?_
  refine lv_aload_n hx hb dL_law_668 rfl (lv_at hl 4 rfl) ?_
  refine lv_iload hx hb dL_law_669 (lv_at hl 0 rfl) ?_
  refine lv_iconst (v := 2) hx hb dL_law_671 (by decide) ?_
  refine lv_iadd (x := nI (4 * j)) (y := 2) hx hb dL_law_672 ?_
  refine x_top (w := nI (4 * j + 2)) (nI_add (4 * j) 2) ?_
  refine va_sld hx hb hXs hbl hbA hS (vp_in_nI (show 4 * j + 2 < Ls by omega) (by omega)) dL_law_673 ?_
  refine x_top (w := p1) (by rw [nI_clamp (by omega)]; exact hp1.symm) ?_
  refine lv_aload_n hx hb dL_law_674 rfl (lv_at hl 1 rfl) ?_
  refine xl_S (As := [.ref (a 0), .int p0, .int p1, .ref o]) (rest := []) (wr := [xArr (t 0) (a 1) 30 (xN F), xArr (t 0) (a 2) 30 (xN T), xArr (t 0) (a 3) 30 L, xArr (t 1) (a 4) 30 (xB Z), xArr (t 0) (a 5) 12 E, xArr (t 0) (a 7) 12 X, xArr (t 0) (a 8) 12 R, xArr (t 0) (a 9) 12 N, xMod mb th tc rc, xArr (t 0) (mb 1) 120 (mkM F T L Z)]) ⟨hx, hb, hml, hown, hts⟩ (xTl.trav _ _) (c_L_most l hfl D t a tc rc ro B p0 p1 o f s.heap.size sa _ htc) (vx_cwSW 4 hts gL_law_L_most rfl rfl rfl hd_L_most ⟨Nat.le_of_ble_eq_true rfl, Nat.le_of_ble_eq_true rfl⟩) hK hP hD hS hA (fun U hW hU => xTl.warm hW (fun q h1 h2 => by rw [hU]; exact hS.2.1 q h1 h2) hXL) [0, 6, 12] [1, 2, 3, 4, 5, 7, 8, 9, 10, 11] rfl rfl (by decide) (by decide) (by decide) rfl hl.1 rfl (Nat.le_of_ble_eq_true rfl) dL_law_675 ⟨(by show _ ≤ 601024; omega), (by show _ ≤ 7293034; omega)⟩ (fun u H locs hu hP hD hS hz => ?_)
  rcases u with _ | v9
  · have hk0 : ¬ kMost tc ro p0 p1 = 0 := hu
    have hle9 : (kMost tc ro p0 p1) ≤ 3 := by unfold kMost; (repeat' split) <;> omega
    have hne9 : ¬ nI (c2 (kMost tc ro p0 p1)) = 0 := k_ne (c2_ne hk0) (c2_le hle9)
    have hP : va_P D vwCl ([xObj a tc rc ro, xArr (t 0) (a 1) 30 (xN F), xArr (t 0) (a 2) 30 (xN T), xArr (t 0) (a 3) 30 L, xArr (t 1) (a 4) 30 (xB Z), xArr (t 0) (a 5) 12 E, xArr (t 0) (a 6) 144 B, xArr (t 0) (a 7) 12 X, xArr (t 0) (a 8) 12 R, xArr (t 0) (a 9) 12 N, xMod mb th tc rc, xArr (t 0) (mb 1) 120 (mkM F T L Z), xLng (t 2) o 1 f]) H := hP.sub [10, 0, 1, 2, 3, 4, 11, 5, 6, 7, 8, 9, 12] rfl
    have hD : va_D _ ([xObj a tc rc ro, xArr (t 0) (a 1) 30 (xN F), xArr (t 0) (a 2) 30 (xN T), xArr (t 0) (a 3) 30 L, xArr (t 1) (a 4) 30 (xB Z), xArr (t 0) (a 5) 12 E, xArr (t 0) (a 6) 144 B, xArr (t 0) (a 7) 12 X, xArr (t 0) (a 8) 12 R, xArr (t 0) (a 9) 12 N, xMod mb th tc rc, xArr (t 0) (mb 1) 120 (mkM F T L Z), xLng (t 2) o 1 f]) := hD.sub [10, 0, 1, 2, 3, 4, 11, 5, 6, 7, 8, 9, 12] (by decide) rfl
    refine lv_istore (lv' := [(5, .int (nI (c2 (kMost tc ro p0 p1)))), (4, .int (nI (4 * j))), (3, .ref o), (2, .ref (mb 0)), (1, .ref (a 0)), (0, .ref bs)]) hx hb dL_law_678 hl (by decide) rfl (fun ls hl => ?_)
    refine lv_aload_n hx hb dL_law_680 rfl (lv_at hl 3 rfl) ?_
    refine lv_aload_n hx hb dL_law_681 rfl (lv_at hl 5 rfl) ?_
    refine lv_iload hx hb dL_law_682 (lv_at hl 1 rfl) ?_
    refine lv_iconst (v := 1) hx hb dL_law_684 (by decide) ?_
    refine lv_iadd (x := nI (4 * j)) (y := 1) hx hb dL_law_685 ?_
    refine x_top (w := nI (4 * j + 1)) (nI_add (4 * j) 1) ?_
    refine va_sld hx hb hXs hbl hbA hS (vp_in_nI (show 4 * j + 1 < Ls by omega) (by omega)) dL_law_686 ?_
    refine x_top (w := p0) (by rw [nI_clamp (by omega)]; exact hp0.symm) ?_
    refine lv_aload_n hx hb dL_law_687 rfl (lv_at hl 5 rfl) ?_
    refine lv_iload hx hb dL_law_688 (lv_at hl 1 rfl) ?_
    refine lv_iconst (v := 2) hx hb dL_law_690 (by decide) ?_
    refine lv_iadd (x := nI (4 * j)) (y := 2) hx hb dL_law_691 ?_
    refine x_top (w := nI (4 * j + 2)) (nI_add (4 * j) 2) ?_
    refine va_sld hx hb hXs hbl hbA hS (vp_in_nI (show 4 * j + 2 < Ls by omega) (by omega)) dL_law_692 ?_
    refine x_top (w := p1) (by rw [nI_clamp (by omega)]; exact hp1.symm) ?_
    refine xm_V (b := mb 0) (As := [.int p0, .int p1]) (rest := []) (wr := [xObj a tc rc ro, xArr (t 0) (a 1) 30 (xN F), xArr (t 0) (a 2) 30 (xN T), xArr (t 0) (a 3) 30 L, xArr (t 1) (a 4) 30 (xB Z), xArr (t 0) (a 5) 12 E, xArr (t 0) (a 6) 144 B, xArr (t 0) (a 7) 12 X, xArr (t 0) (a 8) 12 R, xArr (t 0) (a 9) 12 N, xLng (t 2) o 1 f]) ⟨hx, hb, hml, hown, hts⟩ aoT (c_X1_most l D t mb th tc rc F T L Z p0 p1 _ htc hrc hF) (cwV 2 hts gL_law_X1_most rfl rfl rfl hd_X1_most ⟨Nat.le_of_ble_eq_true rfl, Nat.le_of_ble_eq_true rfl⟩) hK hP hD hS hA (fun U hW hU => va_AOA.moved hW.alike hXX) (va_recv hK hP (ci := 1) (q0 := 10) rfl rfl) [10, 11] [0, 1, 2, 3, 4, 5, 6, 7, 8, 9, 12] rfl rfl (by decide) (by decide) (by decide) rfl hl.1 rfl (Nat.le_of_ble_eq_true rfl) dL_law_693 ⟨(by show _ ≤ 601024; omega), (by show _ ≤ 7293034; omega)⟩ (fun u_1 H locs hu9 hP hD hS hz => ?_)
    have hP : va_P D vwCl ([xObj a tc rc ro, xArr (t 0) (a 1) 30 (xN F), xArr (t 0) (a 2) 30 (xN T), xArr (t 0) (a 3) 30 L, xArr (t 1) (a 4) 30 (xB Z), xArr (t 0) (a 5) 12 E, xArr (t 0) (a 6) 144 B, xArr (t 0) (a 7) 12 X, xArr (t 0) (a 8) 12 R, xArr (t 0) (a 9) 12 N, xMod mb (nI (c2 (kMost tc (earM F T L Z tc rc 12) p0 p1))) tc rc, xArr (t 0) (mb 1) 120 (mkM F T L Z), xLng (t 2) o 1 f]) H := hP.sub [0, 1, 2, 3, 4, 5, 6, 7, 8, 9, 11, 12, 10] rfl
    have hD : va_D _ ([xObj a tc rc ro, xArr (t 0) (a 1) 30 (xN F), xArr (t 0) (a 2) 30 (xN T), xArr (t 0) (a 3) 30 L, xArr (t 1) (a 4) 30 (xB Z), xArr (t 0) (a 5) 12 E, xArr (t 0) (a 6) 144 B, xArr (t 0) (a 7) 12 X, xArr (t 0) (a 8) 12 R, xArr (t 0) (a 9) 12 N, xMod mb (nI (c2 (kMost tc (earM F T L Z tc rc 12) p0 p1))) tc rc, xArr (t 0) (mb 1) 120 (mkM F T L Z), xLng (t 2) o 1 f]) := hD.sub [0, 1, 2, 3, 4, 5, 6, 7, 8, 9, 11, 12, 10] (by decide) rfl
    have hkk : c2 (kMost tc (earM F T L Z tc rc 12) p0 p1) = c2 (kMost tc ro p0 p1) := (by rw [← hro])
    have hkm : ¬ c2 (kMost tc (earM F T L Z tc rc 12) p0 p1) = 0 := by rw [hkk]; exact c2_ne hk0
    try simp only [if_neg hkm] at hP hD
    rw [hkk] at hP hD
    have hP : va_P D vwCl ([xObj a tc rc ro, xArr (t 0) (a 1) 30 (xN F), xArr (t 0) (a 2) 30 (xN T), xArr (t 0) (a 3) 30 L, xArr (t 1) (a 4) 30 (xB Z), xArr (t 0) (a 5) 12 E, xArr (t 0) (a 6) 144 B, xArr (t 0) (a 7) 12 X, xArr (t 0) (a 8) 12 R, xArr (t 0) (a 9) 12 N, xMod mb (nI (c2 (kMost tc ro p0 p1))) tc rc, xArr (t 0) (mb 1) 120 (mkM F T L Z), xLng (t 2) o 1 f]) H := hP
    have hD : va_D _ ([xObj a tc rc ro, xArr (t 0) (a 1) 30 (xN F), xArr (t 0) (a 2) 30 (xN T), xArr (t 0) (a 3) 30 L, xArr (t 1) (a 4) 30 (xB Z), xArr (t 0) (a 5) 12 E, xArr (t 0) (a 6) 144 B, xArr (t 0) (a 7) 12 X, xArr (t 0) (a 8) 12 R, xArr (t 0) (a 9) 12 N, xMod mb (nI (c2 (kMost tc ro p0 p1))) tc rc, xArr (t 0) (mb 1) 120 (mkM F T L Z), xLng (t 2) o 1 f]) := hD
    refine lv_istore (lv' := [(6, .int (if c2 (kMost tc (earM F T L Z tc rc 12) p0 p1) = 0 then wayM F T L Z tc rc (ix p0) (ix p1) else 0)), (5, .int (nI (c2 (kMost tc ro p0 p1)))), (4, .int (nI (4 * j))), (3, .ref o), (2, .ref (mb 0)), (1, .ref (a 0)), (0, .ref bs)]) hx hb dL_law_696 hl (by decide) rfl (fun ls hl => ?_)
    refine lv_aload_n hx hb dL_law_698 rfl (lv_at hl 4 rfl) ?_
    refine xr_V (b := mb 0) (As := []) (rest := []) ⟨hx, hb, hml, hown, hts⟩ (c_X1_thrown l D t mb (nI (c2 (kMost tc ro p0 p1))) tc rc ) (cwV 0 hts gL_law_X1_thrown rfl rfl rfl hd_X1_thrown ⟨Nat.le_of_ble_eq_true rfl, Nat.le_of_ble_eq_true rfl⟩) hK hP (va_recv hK hP (ci := 1) (q0 := 10) rfl rfl) [10] rfl rfl hl.1 rfl (Nat.le_of_ble_eq_true rfl) dL_law_699 ⟨(by show _ ≤ 601024; omega), (by show _ ≤ 7293034; omega)⟩ ?_
    refine lv_iload hx hb dL_law_702 (lv_at hl 1 rfl) ?_
    refine lv_icmp_eq (tgt := 709) hx hb dL_law_704 (by decide) (fun _ => ?_) (fun h9 => absurd rfl h9)
    refine lv_iload hx hb dL_law_709 (lv_at hl 1 rfl) ?_
    refine lv_if_ne (tgt := 726) hx hb dL_law_711 (by decide) (fun _ => ?_) (fun h9 => absurd h9 hne9)
    refine lv_goto (tgt := 996) hx hb dL_law_726 (by decide) ?_
    refine W.widen (k := 20 + 1100 * j + 1100) (n := 1000 + 14000 * j + 14000) (by omega) (by omega) ?_
    exact hn tc rc F T L Z ro E B X R N (nI (c2 (kMost tc ro p0 p1))) f d0 hI hd0 _ _ hP hD hS _ (lv_sub hl [2, 3, 4, 5, 6] rfl)
  · have hk0 : kMost tc ro p0 p1 = 0 := hu
    have hP : va_P D vwCl ([xObj a tc rc ro, xArr (t 0) (a 1) 30 (xN F), xArr (t 0) (a 2) 30 (xN T), xArr (t 0) (a 3) 30 L, xArr (t 1) (a 4) 30 (xB Z), xArr (t 0) (a 5) 12 E, xArr (t 0) (a 6) 144 B, xArr (t 0) (a 7) 12 X, xArr (t 0) (a 8) 12 R, xArr (t 0) (a 9) 12 N, xMod mb th tc rc, xArr (t 0) (mb 1) 120 (mkM F T L Z), xLng (t 2) o 1 (vp_updL f 0 (Int32.toInt64 (B (ix p0 * 12 + ix p1))))]) H := hP.sub [10, 0, 1, 2, 3, 4, 11, 5, 6, 7, 8, 9, 12] rfl
    have hD : va_D _ ([xObj a tc rc ro, xArr (t 0) (a 1) 30 (xN F), xArr (t 0) (a 2) 30 (xN T), xArr (t 0) (a 3) 30 L, xArr (t 1) (a 4) 30 (xB Z), xArr (t 0) (a 5) 12 E, xArr (t 0) (a 6) 144 B, xArr (t 0) (a 7) 12 X, xArr (t 0) (a 8) 12 R, xArr (t 0) (a 9) 12 N, xMod mb th tc rc, xArr (t 0) (mb 1) 120 (mkM F T L Z), xLng (t 2) o 1 (vp_updL f 0 (Int32.toInt64 (B (ix p0 * 12 + ix p1))))]) := hD.sub [10, 0, 1, 2, 3, 4, 11, 5, 6, 7, 8, 9, 12] (by decide) rfl
    refine lv_istore (lv' := [(5, .int 0), (4, .int (nI (4 * j))), (3, .ref o), (2, .ref (mb 0)), (1, .ref (a 0)), (0, .ref bs)]) hx hb dL_law_678 hl (by decide) rfl (fun ls hl => ?_)
    refine lv_aload_n hx hb dL_law_680 rfl (lv_at hl 3 rfl) ?_
    refine lv_aload_n hx hb dL_law_681 rfl (lv_at hl 5 rfl) ?_
    refine lv_iload hx hb dL_law_682 (lv_at hl 1 rfl) ?_
    refine lv_iconst (v := 1) hx hb dL_law_684 (by decide) ?_
    refine lv_iadd (x := nI (4 * j)) (y := 1) hx hb dL_law_685 ?_
    refine x_top (w := nI (4 * j + 1)) (nI_add (4 * j) 1) ?_
    refine va_sld hx hb hXs hbl hbA hS (vp_in_nI (show 4 * j + 1 < Ls by omega) (by omega)) dL_law_686 ?_
    refine x_top (w := p0) (by rw [nI_clamp (by omega)]; exact hp0.symm) ?_
    refine lv_aload_n hx hb dL_law_687 rfl (lv_at hl 5 rfl) ?_
    refine lv_iload hx hb dL_law_688 (lv_at hl 1 rfl) ?_
    refine lv_iconst (v := 2) hx hb dL_law_690 (by decide) ?_
    refine lv_iadd (x := nI (4 * j)) (y := 2) hx hb dL_law_691 ?_
    refine x_top (w := nI (4 * j + 2)) (nI_add (4 * j) 2) ?_
    refine va_sld hx hb hXs hbl hbA hS (vp_in_nI (show 4 * j + 2 < Ls by omega) (by omega)) dL_law_692 ?_
    refine x_top (w := p1) (by rw [nI_clamp (by omega)]; exact hp1.symm) ?_
    refine xm_V (b := mb 0) (As := [.int p0, .int p1]) (rest := []) (wr := [xObj a tc rc ro, xArr (t 0) (a 1) 30 (xN F), xArr (t 0) (a 2) 30 (xN T), xArr (t 0) (a 3) 30 L, xArr (t 1) (a 4) 30 (xB Z), xArr (t 0) (a 5) 12 E, xArr (t 0) (a 6) 144 B, xArr (t 0) (a 7) 12 X, xArr (t 0) (a 8) 12 R, xArr (t 0) (a 9) 12 N, xLng (t 2) o 1 (vp_updL f 0 (Int32.toInt64 (B (ix p0 * 12 + ix p1))))]) ⟨hx, hb, hml, hown, hts⟩ aoT (c_X1_most l D t mb th tc rc F T L Z p0 p1 _ htc hrc hF) (cwV 2 hts gL_law_X1_most rfl rfl rfl hd_X1_most ⟨Nat.le_of_ble_eq_true rfl, Nat.le_of_ble_eq_true rfl⟩) hK hP hD hS hA (fun U hW hU => va_AOA.moved hW.alike hXX) (va_recv hK hP (ci := 1) (q0 := 10) rfl rfl) [10, 11] [0, 1, 2, 3, 4, 5, 6, 7, 8, 9, 12] rfl rfl (by decide) (by decide) (by decide) rfl hl.1 rfl (Nat.le_of_ble_eq_true rfl) dL_law_693 ⟨(by show _ ≤ 601024; omega), (by show _ ≤ 7293034; omega)⟩ (fun u_2 H locs hu9 hP hD hS hz => ?_)
    have hP : va_P D vwCl ([xObj a tc rc ro, xArr (t 0) (a 1) 30 (xN F), xArr (t 0) (a 2) 30 (xN T), xArr (t 0) (a 3) 30 L, xArr (t 1) (a 4) 30 (xB Z), xArr (t 0) (a 5) 12 E, xArr (t 0) (a 6) 144 B, xArr (t 0) (a 7) 12 X, xArr (t 0) (a 8) 12 R, xArr (t 0) (a 9) 12 N, xMod mb (nI (c2 (kMost tc (earM F T L Z tc rc 12) p0 p1))) tc rc, xArr (t 0) (mb 1) 120 (mkM F T L Z), xLng (t 2) o 1 (vp_updL f 0 (Int32.toInt64 (B (ix p0 * 12 + ix p1))))]) H := hP.sub [0, 1, 2, 3, 4, 5, 6, 7, 8, 9, 11, 12, 10] rfl
    have hD : va_D _ ([xObj a tc rc ro, xArr (t 0) (a 1) 30 (xN F), xArr (t 0) (a 2) 30 (xN T), xArr (t 0) (a 3) 30 L, xArr (t 1) (a 4) 30 (xB Z), xArr (t 0) (a 5) 12 E, xArr (t 0) (a 6) 144 B, xArr (t 0) (a 7) 12 X, xArr (t 0) (a 8) 12 R, xArr (t 0) (a 9) 12 N, xMod mb (nI (c2 (kMost tc (earM F T L Z tc rc 12) p0 p1))) tc rc, xArr (t 0) (mb 1) 120 (mkM F T L Z), xLng (t 2) o 1 (vp_updL f 0 (Int32.toInt64 (B (ix p0 * 12 + ix p1))))]) := hD.sub [0, 1, 2, 3, 4, 5, 6, 7, 8, 9, 11, 12, 10] (by decide) rfl
    have hkk : c2 (kMost tc (earM F T L Z tc rc 12) p0 p1) = c2 (kMost tc ro p0 p1) := (by rw [← hro])
    have hkm : c2 (kMost tc (earM F T L Z tc rc 12) p0 p1) = 0 := by rw [hkk]; first | exact hk0 | (rw [hk0]; rfl)
    rw [hkm] at hP hD
    have hP : va_P D vwCl ([xObj a tc rc ro, xArr (t 0) (a 1) 30 (xN F), xArr (t 0) (a 2) 30 (xN T), xArr (t 0) (a 3) 30 L, xArr (t 1) (a 4) 30 (xB Z), xArr (t 0) (a 5) 12 E, xArr (t 0) (a 6) 144 B, xArr (t 0) (a 7) 12 X, xArr (t 0) (a 8) 12 R, xArr (t 0) (a 9) 12 N, xMod mb 0 tc rc, xArr (t 0) (mb 1) 120 (mkM F T L Z), xLng (t 2) o 1 (vp_updL f 0 (Int32.toInt64 (B (ix p0 * 12 + ix p1))))]) H := hP
    have hD : va_D _ ([xObj a tc rc ro, xArr (t 0) (a 1) 30 (xN F), xArr (t 0) (a 2) 30 (xN T), xArr (t 0) (a 3) 30 L, xArr (t 1) (a 4) 30 (xB Z), xArr (t 0) (a 5) 12 E, xArr (t 0) (a 6) 144 B, xArr (t 0) (a 7) 12 X, xArr (t 0) (a 8) 12 R, xArr (t 0) (a 9) 12 N, xMod mb 0 tc rc, xArr (t 0) (mb 1) 120 (mkM F T L Z), xLng (t 2) o 1 (vp_updL f 0 (Int32.toInt64 (B (ix p0 * 12 + ix p1))))]) := hD
    refine x_top (w := B (ix p0 * 12 + ix p1)) (by rw [if_pos hkm]; exact q_most hI (kMost_0 hk0).2.2 (ix_lt (kMost_0 hk0).1 (by omega)) (ix_lt (kMost_0 hk0).2.1 (by omega))) ?_
    refine lv_istore (lv' := [(6, .int (B (ix p0 * 12 + ix p1))), (5, .int 0), (4, .int (nI (4 * j))), (3, .ref o), (2, .ref (mb 0)), (1, .ref (a 0)), (0, .ref bs)]) hx hb dL_law_696 hl (by decide) rfl (fun ls hl => ?_)
    refine lv_aload_n hx hb dL_law_698 rfl (lv_at hl 4 rfl) ?_
    refine xr_V (b := mb 0) (As := []) (rest := []) ⟨hx, hb, hml, hown, hts⟩ (c_X1_thrown l D t mb 0 tc rc ) (cwV 0 hts gL_law_X1_thrown rfl rfl rfl hd_X1_thrown ⟨Nat.le_of_ble_eq_true rfl, Nat.le_of_ble_eq_true rfl⟩) hK hP (va_recv hK hP (ci := 1) (q0 := 10) rfl rfl) [10] rfl rfl hl.1 rfl (Nat.le_of_ble_eq_true rfl) dL_law_699 ⟨(by show _ ≤ 601024; omega), (by show _ ≤ 7293034; omega)⟩ ?_
    refine x_top (w := 0) rfl ?_
    refine lv_iload hx hb dL_law_702 (lv_at hl 1 rfl) ?_
    refine lv_icmp_eq (tgt := 709) hx hb dL_law_704 (by decide) (fun c_3 => ?_) (fun c_3 => ?_)
    rotate_left
    · exact False.elim (by revert c_3; decide)
    refine lv_iload hx hb dL_law_709 (lv_at hl 1 rfl) ?_
    refine lv_if_ne (tgt := 726) hx hb dL_law_711 (by decide) (fun c_4 => ?_) (fun c_4 => ?_)
    · exact False.elim (by revert c_4; decide)
    refine lv_aload_n hx hb dL_law_714 rfl (lv_at hl 3 rfl) ?_
    refine lv_iconst (v := 0) hx hb dL_law_715 (by decide) ?_
    refine x_lald hx hb hK hP 12 2 rfl rfl (k := 0) (Nat.le_of_ble_eq_true rfl) (Nat.le_of_ble_eq_true rfl) dL_law_716 ?_
    refine x_topL (w := Int32.toInt64 (B (ix p0 * 12 + ix p1))) rfl ?_
    refine lv_iload hx hb dL_law_717 (lv_at hl 0 rfl) ?_
    refine lv_i2l (x := B (ix p0 * 12 + ix p1)) (v := Int32.toInt64 (B (ix p0 * 12 + ix p1))) hx hb dL_law_719 rfl ?_
    refine x_lcmp (v := 0) hx hb (lcmp_self _) dL_law_720 ?_
    refine lv_if_eq (tgt := 726) hx hb dL_law_721 (by decide) (fun c_5 => ?_) (fun c_5 => ?_)
    rotate_left
    · exact False.elim (by revert c_5; decide)
    refine lv_goto (tgt := 996) hx hb dL_law_726 (by decide) ?_
    refine W.widen (k := 20 + 1100 * j + 1100) (n := 1000 + 14000 * j + 14000) (by omega) (by omega) ?_
    exact hn tc rc F T L Z ro E B X R N 0 (vp_updL f 0 (Int32.toInt64 (B (ix p0 * 12 + ix p1)))) d0 hI hd0 _ _ hP hD hS _ (lv_sub hl [2, 3, 4, 5, 6] rfl)
set_option maxHeartbeats 4000000 in
set_option maxRecDepth 100000 in
theorem law_room {p : Program} {l : Launch} {e : Env} {s : State} {m : MethodId} {below : List Frame} {meth : Method} {c : Code} {Q : State → Prop} {bs Ls : Nat} {xs : Nat → Int32} {D : va_G} {t sa a mb : Nat → Nat} {o j : Nat} (hV : lwEnv p l s m meth c bs Ls xs D t sa) (hj : 4 * j + 4 ≤ Ls) (hn : lwNext p l e s m below meth c Q bs D t a mb o j) {tc rc : Nat} {F T : Nat → Nat} {L : Nat → Int32} {Z : Nat → Bool} {ro : Int32} {E B X R N : Nat → Int32} {th : Int32} {f : Nat → Int64} {d0 : Drawn} (hI : xInv tc rc F T L Z ro E B) (hd0 : s.drawn.sameBut d0 lw_cs) {H : Heap} {locs : List Loc} (hP : va_P D vwCl (LWd t a mb o tc rc F T L Z ro E B X R N th f) H) (hD : va_D (fun q => s.heap.size ≤ q) (LWd t a mb o tc rc F T L Z ro E B X R N th f)) (hS : va_S (fun q => s.heap.size ≤ q) s.heap H locs) {ls : Array Slot} (hl : lv_has ls 9 [(4, .int (nI (4 * j))), (3, .ref o), (2, .ref (mb 0)), (1, .ref (a 0)), (0, .ref bs)]) : W p l e room_1 (s.setDrawn d0) m #[Value.ref bs] below meth c H locs (20 + 1100 * j) (1000 + 14000 * j) Q (F0 m 729 ls []) := by
  obtain ⟨hx, hb, hml, hown, hts0, hXs, hbl, hlocks, hK, hXL, hXX, hfl, hLs⟩ := hV
  obtain ⟨htc, hrc, hF, hL9, hro, hE, hB⟩ := id hI
  have hts := dr_words hts0 d0
  have hown : (s.setDrawn d0).vm.findClass RL = some m.cls := hown
  have hK : va_K D vwCl (xTy t) (s.setDrawn d0) := hK
  have hXs : va_X bs Ls xs (s.setDrawn d0) (s.setDrawn d0).heap := hXs
  have hS : va_S (fun q => s.heap.size ≤ q) (s.setDrawn d0).heap H locs := hS
  have hbl : bs < (s.setDrawn d0).heap.size := hbl
  have hXL : xTl s.heap.size sa (s.setDrawn d0) := xTl.trav _ _ s (s.setDrawn d0) rfl rfl hXL
  have hXX : va_AOA .int (s.setDrawn d0) := aoT s (s.setDrawn d0) rfl rfl hXX
  have hbA : ¬ (fun q : Nat => s.heap.size ≤ q) bs := Nat.not_le.mpr hbl
  have hA : ∀ q : Nat, s.heap.size ≤ q → (fun q : Nat => s.heap.size ≤ q) q := fun _ h => h
  obtain ⟨p0, hp0⟩ : ∃ x, x = xs (4 * j + 1) := ⟨_, rfl⟩
  refine lv_aload_n hx hb dL_law_729 rfl (lv_at hl 3 rfl) ?_
  refine lv_aload_n hx hb dL_law_730 rfl (lv_at hl 4 rfl) ?_
  refine lv_iload hx hb dL_law_731 (lv_at hl 0 rfl) ?_
  refine lv_iconst (v := 1) hx hb dL_law_733 (by decide) ?_
  refine lv_iadd (x := nI (4 * j)) (y := 1) hx hb dL_law_734 ?_
  refine x_top (w := nI (4 * j + 1)) (nI_add (4 * j) 1) ?_
  refine va_sld hx hb hXs hbl hbA hS (vp_in_nI (show 4 * j + 1 < Ls by omega) (by omega)) dL_law_735 ?_
  refine x_top (w := p0) (by rw [nI_clamp (by omega)]; exact hp0.symm) ?_
  refine lv_aload_n hx hb dL_law_736 rfl (lv_at hl 1 rfl) ?_
  refine xl_S (As := [.ref (a 0), .int p0, .ref o]) (rest := []) (wr := [xArr (t 0) (a 3) 30 L, xArr (t 0) (a 5) 12 E, xArr (t 0) (a 7) 12 X, xArr (t 0) (a 8) 12 R, xArr (t 0) (a 9) 12 N, xMod mb th tc rc, xArr (t 0) (mb 1) 120 (mkM F T L Z)]) ⟨hx, hb, hml, hown, hts⟩ (xTl.trav _ _) (c_L_room l hfl D t a tc rc ro F T Z B p0 o f s.heap.size sa _ htc hrc hF) (vx_cwSW 3 hts gL_law_L_room rfl rfl rfl hd_L_room ⟨Nat.le_of_ble_eq_true rfl, Nat.le_of_ble_eq_true rfl⟩) hK hP hD hS hA (fun U hW hU => xTl.warm hW (fun q h1 h2 => by rw [hU]; exact hS.2.1 q h1 h2) hXL) [0, 1, 2, 4, 6, 12] [3, 5, 7, 8, 9, 10, 11] rfl rfl (by decide) (by decide) (by decide) rfl hl.1 rfl (Nat.le_of_ble_eq_true rfl) dL_law_737 ⟨(by show _ ≤ 601024; omega), (by show _ ≤ 7293034; omega)⟩ (fun u H locs hu hP hD hS hz => ?_)
  rcases u with _ | v9
  · have hk0 : ¬ kRoom rc Z ro p0 = 0 := hu
    have hle9 : (kRoom rc Z ro p0) ≤ 3 := by unfold kRoom; (repeat' split) <;> omega
    have hne9 : ¬ nI (c2 (kRoom rc Z ro p0)) = 0 := k_ne (c2_ne hk0) (c2_le hle9)
    have hP : va_P D vwCl ([xObj a tc rc ro, xArr (t 0) (a 1) 30 (xN F), xArr (t 0) (a 2) 30 (xN T), xArr (t 0) (a 3) 30 L, xArr (t 1) (a 4) 30 (xB Z), xArr (t 0) (a 5) 12 E, xArr (t 0) (a 6) 144 B, xArr (t 0) (a 7) 12 X, xArr (t 0) (a 8) 12 R, xArr (t 0) (a 9) 12 N, xMod mb th tc rc, xArr (t 0) (mb 1) 120 (mkM F T L Z), xLng (t 2) o 1 f]) H := hP.sub [7, 8, 9, 0, 10, 1, 11, 2, 3, 4, 5, 6, 12] rfl
    have hD : va_D _ ([xObj a tc rc ro, xArr (t 0) (a 1) 30 (xN F), xArr (t 0) (a 2) 30 (xN T), xArr (t 0) (a 3) 30 L, xArr (t 1) (a 4) 30 (xB Z), xArr (t 0) (a 5) 12 E, xArr (t 0) (a 6) 144 B, xArr (t 0) (a 7) 12 X, xArr (t 0) (a 8) 12 R, xArr (t 0) (a 9) 12 N, xMod mb th tc rc, xArr (t 0) (mb 1) 120 (mkM F T L Z), xLng (t 2) o 1 f]) := hD.sub [7, 8, 9, 0, 10, 1, 11, 2, 3, 4, 5, 6, 12] (by decide) rfl
    refine lv_istore (lv' := [(5, .int (nI (c2 (kRoom rc Z ro p0)))), (4, .int (nI (4 * j))), (3, .ref o), (2, .ref (mb 0)), (1, .ref (a 0)), (0, .ref bs)]) hx hb dL_law_740 hl (by decide) rfl (fun ls hl => ?_)
    refine lv_aload_n hx hb dL_law_742 rfl (lv_at hl 3 rfl) ?_
    refine lv_aload_n hx hb dL_law_743 rfl (lv_at hl 5 rfl) ?_
    refine lv_iload hx hb dL_law_744 (lv_at hl 1 rfl) ?_
    refine lv_iconst (v := 1) hx hb dL_law_746 (by decide) ?_
    refine lv_iadd (x := nI (4 * j)) (y := 1) hx hb dL_law_747 ?_
    refine x_top (w := nI (4 * j + 1)) (nI_add (4 * j) 1) ?_
    refine va_sld hx hb hXs hbl hbA hS (vp_in_nI (show 4 * j + 1 < Ls by omega) (by omega)) dL_law_748 ?_
    refine x_top (w := p0) (by rw [nI_clamp (by omega)]; exact hp0.symm) ?_
    refine xm_V (b := mb 0) (As := [.int p0]) (rest := []) (wr := [xObj a tc rc ro, xArr (t 0) (a 1) 30 (xN F), xArr (t 0) (a 2) 30 (xN T), xArr (t 0) (a 3) 30 L, xArr (t 1) (a 4) 30 (xB Z), xArr (t 0) (a 5) 12 E, xArr (t 0) (a 6) 144 B, xArr (t 0) (a 7) 12 X, xArr (t 0) (a 8) 12 R, xArr (t 0) (a 9) 12 N, xLng (t 2) o 1 f]) ⟨hx, hb, hml, hown, hts⟩ aoT (c_X1_room l D t mb th tc rc F T L Z p0 _ htc hrc hF) (cwV 1 hts gL_law_X1_room rfl rfl rfl hd_X1_room ⟨Nat.le_of_ble_eq_true rfl, Nat.le_of_ble_eq_true rfl⟩) hK hP hD hS hA (fun U hW hU => va_AOA.moved hW.alike hXX) (va_recv hK hP (ci := 1) (q0 := 10) rfl rfl) [10, 11] [0, 1, 2, 3, 4, 5, 6, 7, 8, 9, 12] rfl rfl (by decide) (by decide) (by decide) rfl hl.1 rfl (Nat.le_of_ble_eq_true rfl) dL_law_749 ⟨(by show _ ≤ 601024; omega), (by show _ ≤ 7293034; omega)⟩ (fun u_1 H locs hu9 hP hD hS hz => ?_)
    have hP : va_P D vwCl ([xObj a tc rc ro, xArr (t 0) (a 1) 30 (xN F), xArr (t 0) (a 2) 30 (xN T), xArr (t 0) (a 3) 30 L, xArr (t 1) (a 4) 30 (xB Z), xArr (t 0) (a 5) 12 E, xArr (t 0) (a 6) 144 B, xArr (t 0) (a 7) 12 X, xArr (t 0) (a 8) 12 R, xArr (t 0) (a 9) 12 N, xMod mb (nI (c2 (kRoom rc Z (earM F T L Z tc rc 12) p0))) tc rc, xArr (t 0) (mb 1) 120 (mkM F T L Z), xLng (t 2) o 1 f]) H := hP.sub [0, 1, 2, 3, 4, 5, 6, 7, 8, 9, 11, 12, 10] rfl
    have hD : va_D _ ([xObj a tc rc ro, xArr (t 0) (a 1) 30 (xN F), xArr (t 0) (a 2) 30 (xN T), xArr (t 0) (a 3) 30 L, xArr (t 1) (a 4) 30 (xB Z), xArr (t 0) (a 5) 12 E, xArr (t 0) (a 6) 144 B, xArr (t 0) (a 7) 12 X, xArr (t 0) (a 8) 12 R, xArr (t 0) (a 9) 12 N, xMod mb (nI (c2 (kRoom rc Z (earM F T L Z tc rc 12) p0))) tc rc, xArr (t 0) (mb 1) 120 (mkM F T L Z), xLng (t 2) o 1 f]) := hD.sub [0, 1, 2, 3, 4, 5, 6, 7, 8, 9, 11, 12, 10] (by decide) rfl
    have hkk : c2 (kRoom rc Z (earM F T L Z tc rc 12) p0) = c2 (kRoom rc Z ro p0) := (by rw [← hro])
    have hkm : ¬ c2 (kRoom rc Z (earM F T L Z tc rc 12) p0) = 0 := by rw [hkk]; exact c2_ne hk0
    try simp only [if_neg hkm] at hP hD
    rw [hkk] at hP hD
    have hP : va_P D vwCl ([xObj a tc rc ro, xArr (t 0) (a 1) 30 (xN F), xArr (t 0) (a 2) 30 (xN T), xArr (t 0) (a 3) 30 L, xArr (t 1) (a 4) 30 (xB Z), xArr (t 0) (a 5) 12 E, xArr (t 0) (a 6) 144 B, xArr (t 0) (a 7) 12 X, xArr (t 0) (a 8) 12 R, xArr (t 0) (a 9) 12 N, xMod mb (nI (c2 (kRoom rc Z ro p0))) tc rc, xArr (t 0) (mb 1) 120 (mkM F T L Z), xLng (t 2) o 1 f]) H := hP
    have hD : va_D _ ([xObj a tc rc ro, xArr (t 0) (a 1) 30 (xN F), xArr (t 0) (a 2) 30 (xN T), xArr (t 0) (a 3) 30 L, xArr (t 1) (a 4) 30 (xB Z), xArr (t 0) (a 5) 12 E, xArr (t 0) (a 6) 144 B, xArr (t 0) (a 7) 12 X, xArr (t 0) (a 8) 12 R, xArr (t 0) (a 9) 12 N, xMod mb (nI (c2 (kRoom rc Z ro p0))) tc rc, xArr (t 0) (mb 1) 120 (mkM F T L Z), xLng (t 2) o 1 f]) := hD
    refine lv_istore (lv' := [(6, .int (if c2 (kRoom rc Z (earM F T L Z tc rc 12) p0) = 0 then leastG (wayM F T L Z tc rc) (F (ix p0)) (T (ix p0)) else 0)), (5, .int (nI (c2 (kRoom rc Z ro p0)))), (4, .int (nI (4 * j))), (3, .ref o), (2, .ref (mb 0)), (1, .ref (a 0)), (0, .ref bs)]) hx hb dL_law_752 hl (by decide) rfl (fun ls hl => ?_)
    refine lv_aload_n hx hb dL_law_754 rfl (lv_at hl 4 rfl) ?_
    refine xr_V (b := mb 0) (As := []) (rest := []) ⟨hx, hb, hml, hown, hts⟩ (c_X1_thrown l D t mb (nI (c2 (kRoom rc Z ro p0))) tc rc ) (cwV 0 hts gL_law_X1_thrown rfl rfl rfl hd_X1_thrown ⟨Nat.le_of_ble_eq_true rfl, Nat.le_of_ble_eq_true rfl⟩) hK hP (va_recv hK hP (ci := 1) (q0 := 10) rfl rfl) [10] rfl rfl hl.1 rfl (Nat.le_of_ble_eq_true rfl) dL_law_755 ⟨(by show _ ≤ 601024; omega), (by show _ ≤ 7293034; omega)⟩ ?_
    refine lv_iload hx hb dL_law_758 (lv_at hl 1 rfl) ?_
    refine lv_icmp_eq (tgt := 765) hx hb dL_law_760 (by decide) (fun _ => ?_) (fun h9 => absurd rfl h9)
    refine lv_iload hx hb dL_law_765 (lv_at hl 1 rfl) ?_
    refine lv_if_ne (tgt := 782) hx hb dL_law_767 (by decide) (fun _ => ?_) (fun h9 => absurd h9 hne9)
    refine lv_goto (tgt := 996) hx hb dL_law_782 (by decide) ?_
    refine W.widen (k := 20 + 1100 * j + 1100) (n := 1000 + 14000 * j + 14000) (by omega) (by omega) ?_
    exact hn tc rc F T L Z ro E B X R N (nI (c2 (kRoom rc Z ro p0))) f d0 hI hd0 _ _ hP hD hS _ (lv_sub hl [2, 3, 4, 5, 6] rfl)
  · have hk0 : kRoom rc Z ro p0 = 0 := hu
    have hP : va_P D vwCl ([xObj a tc rc ro, xArr (t 0) (a 1) 30 (xN F), xArr (t 0) (a 2) 30 (xN T), xArr (t 0) (a 3) 30 L, xArr (t 1) (a 4) 30 (xB Z), xArr (t 0) (a 5) 12 E, xArr (t 0) (a 6) 144 B, xArr (t 0) (a 7) 12 X, xArr (t 0) (a 8) 12 R, xArr (t 0) (a 9) 12 N, xMod mb th tc rc, xArr (t 0) (mb 1) 120 (mkM F T L Z), xLng (t 2) o 1 (vp_updL f 0 (Int32.toInt64 (leastF B (F (ix p0)) (T (ix p0)))))]) H := hP.sub [7, 8, 9, 0, 10, 1, 11, 2, 3, 4, 5, 6, 12] rfl
    have hD : va_D _ ([xObj a tc rc ro, xArr (t 0) (a 1) 30 (xN F), xArr (t 0) (a 2) 30 (xN T), xArr (t 0) (a 3) 30 L, xArr (t 1) (a 4) 30 (xB Z), xArr (t 0) (a 5) 12 E, xArr (t 0) (a 6) 144 B, xArr (t 0) (a 7) 12 X, xArr (t 0) (a 8) 12 R, xArr (t 0) (a 9) 12 N, xMod mb th tc rc, xArr (t 0) (mb 1) 120 (mkM F T L Z), xLng (t 2) o 1 (vp_updL f 0 (Int32.toInt64 (leastF B (F (ix p0)) (T (ix p0)))))]) := hD.sub [7, 8, 9, 0, 10, 1, 11, 2, 3, 4, 5, 6, 12] (by decide) rfl
    refine lv_istore (lv' := [(5, .int 0), (4, .int (nI (4 * j))), (3, .ref o), (2, .ref (mb 0)), (1, .ref (a 0)), (0, .ref bs)]) hx hb dL_law_740 hl (by decide) rfl (fun ls hl => ?_)
    refine lv_aload_n hx hb dL_law_742 rfl (lv_at hl 3 rfl) ?_
    refine lv_aload_n hx hb dL_law_743 rfl (lv_at hl 5 rfl) ?_
    refine lv_iload hx hb dL_law_744 (lv_at hl 1 rfl) ?_
    refine lv_iconst (v := 1) hx hb dL_law_746 (by decide) ?_
    refine lv_iadd (x := nI (4 * j)) (y := 1) hx hb dL_law_747 ?_
    refine x_top (w := nI (4 * j + 1)) (nI_add (4 * j) 1) ?_
    refine va_sld hx hb hXs hbl hbA hS (vp_in_nI (show 4 * j + 1 < Ls by omega) (by omega)) dL_law_748 ?_
    refine x_top (w := p0) (by rw [nI_clamp (by omega)]; exact hp0.symm) ?_
    refine xm_V (b := mb 0) (As := [.int p0]) (rest := []) (wr := [xObj a tc rc ro, xArr (t 0) (a 1) 30 (xN F), xArr (t 0) (a 2) 30 (xN T), xArr (t 0) (a 3) 30 L, xArr (t 1) (a 4) 30 (xB Z), xArr (t 0) (a 5) 12 E, xArr (t 0) (a 6) 144 B, xArr (t 0) (a 7) 12 X, xArr (t 0) (a 8) 12 R, xArr (t 0) (a 9) 12 N, xLng (t 2) o 1 (vp_updL f 0 (Int32.toInt64 (leastF B (F (ix p0)) (T (ix p0)))))]) ⟨hx, hb, hml, hown, hts⟩ aoT (c_X1_room l D t mb th tc rc F T L Z p0 _ htc hrc hF) (cwV 1 hts gL_law_X1_room rfl rfl rfl hd_X1_room ⟨Nat.le_of_ble_eq_true rfl, Nat.le_of_ble_eq_true rfl⟩) hK hP hD hS hA (fun U hW hU => va_AOA.moved hW.alike hXX) (va_recv hK hP (ci := 1) (q0 := 10) rfl rfl) [10, 11] [0, 1, 2, 3, 4, 5, 6, 7, 8, 9, 12] rfl rfl (by decide) (by decide) (by decide) rfl hl.1 rfl (Nat.le_of_ble_eq_true rfl) dL_law_749 ⟨(by show _ ≤ 601024; omega), (by show _ ≤ 7293034; omega)⟩ (fun u_2 H locs hu9 hP hD hS hz => ?_)
    have hP : va_P D vwCl ([xObj a tc rc ro, xArr (t 0) (a 1) 30 (xN F), xArr (t 0) (a 2) 30 (xN T), xArr (t 0) (a 3) 30 L, xArr (t 1) (a 4) 30 (xB Z), xArr (t 0) (a 5) 12 E, xArr (t 0) (a 6) 144 B, xArr (t 0) (a 7) 12 X, xArr (t 0) (a 8) 12 R, xArr (t 0) (a 9) 12 N, xMod mb (nI (c2 (kRoom rc Z (earM F T L Z tc rc 12) p0))) tc rc, xArr (t 0) (mb 1) 120 (mkM F T L Z), xLng (t 2) o 1 (vp_updL f 0 (Int32.toInt64 (leastF B (F (ix p0)) (T (ix p0)))))]) H := hP.sub [0, 1, 2, 3, 4, 5, 6, 7, 8, 9, 11, 12, 10] rfl
    have hD : va_D _ ([xObj a tc rc ro, xArr (t 0) (a 1) 30 (xN F), xArr (t 0) (a 2) 30 (xN T), xArr (t 0) (a 3) 30 L, xArr (t 1) (a 4) 30 (xB Z), xArr (t 0) (a 5) 12 E, xArr (t 0) (a 6) 144 B, xArr (t 0) (a 7) 12 X, xArr (t 0) (a 8) 12 R, xArr (t 0) (a 9) 12 N, xMod mb (nI (c2 (kRoom rc Z (earM F T L Z tc rc 12) p0))) tc rc, xArr (t 0) (mb 1) 120 (mkM F T L Z), xLng (t 2) o 1 (vp_updL f 0 (Int32.toInt64 (leastF B (F (ix p0)) (T (ix p0)))))]) := hD.sub [0, 1, 2, 3, 4, 5, 6, 7, 8, 9, 11, 12, 10] (by decide) rfl
    have hkk : c2 (kRoom rc Z (earM F T L Z tc rc 12) p0) = c2 (kRoom rc Z ro p0) := (by rw [← hro])
    have hkm : c2 (kRoom rc Z (earM F T L Z tc rc 12) p0) = 0 := by rw [hkk]; first | exact hk0 | (rw [hk0]; rfl)
    rw [hkm] at hP hD
    have hP : va_P D vwCl ([xObj a tc rc ro, xArr (t 0) (a 1) 30 (xN F), xArr (t 0) (a 2) 30 (xN T), xArr (t 0) (a 3) 30 L, xArr (t 1) (a 4) 30 (xB Z), xArr (t 0) (a 5) 12 E, xArr (t 0) (a 6) 144 B, xArr (t 0) (a 7) 12 X, xArr (t 0) (a 8) 12 R, xArr (t 0) (a 9) 12 N, xMod mb 0 tc rc, xArr (t 0) (mb 1) 120 (mkM F T L Z), xLng (t 2) o 1 (vp_updL f 0 (Int32.toInt64 (leastF B (F (ix p0)) (T (ix p0)))))]) H := hP
    have hD : va_D _ ([xObj a tc rc ro, xArr (t 0) (a 1) 30 (xN F), xArr (t 0) (a 2) 30 (xN T), xArr (t 0) (a 3) 30 L, xArr (t 1) (a 4) 30 (xB Z), xArr (t 0) (a 5) 12 E, xArr (t 0) (a 6) 144 B, xArr (t 0) (a 7) 12 X, xArr (t 0) (a 8) 12 R, xArr (t 0) (a 9) 12 N, xMod mb 0 tc rc, xArr (t 0) (mb 1) 120 (mkM F T L Z), xLng (t 2) o 1 (vp_updL f 0 (Int32.toInt64 (leastF B (F (ix p0)) (T (ix p0)))))]) := hD
    refine x_top (w := leastF B (F (ix p0)) (T (ix p0))) (by rw [if_pos hkm]; exact q_room hI (kRoom_0 hk0).2 (hF _ (ix_lt (kRoom_0 hk0).1 (by omega))).1 (hF _ (ix_lt (kRoom_0 hk0).1 (by omega))).2) ?_
    refine lv_istore (lv' := [(6, .int (leastF B (F (ix p0)) (T (ix p0)))), (5, .int 0), (4, .int (nI (4 * j))), (3, .ref o), (2, .ref (mb 0)), (1, .ref (a 0)), (0, .ref bs)]) hx hb dL_law_752 hl (by decide) rfl (fun ls hl => ?_)
    refine lv_aload_n hx hb dL_law_754 rfl (lv_at hl 4 rfl) ?_
    refine xr_V (b := mb 0) (As := []) (rest := []) ⟨hx, hb, hml, hown, hts⟩ (c_X1_thrown l D t mb 0 tc rc ) (cwV 0 hts gL_law_X1_thrown rfl rfl rfl hd_X1_thrown ⟨Nat.le_of_ble_eq_true rfl, Nat.le_of_ble_eq_true rfl⟩) hK hP (va_recv hK hP (ci := 1) (q0 := 10) rfl rfl) [10] rfl rfl hl.1 rfl (Nat.le_of_ble_eq_true rfl) dL_law_755 ⟨(by show _ ≤ 601024; omega), (by show _ ≤ 7293034; omega)⟩ ?_
    refine x_top (w := 0) rfl ?_
    refine lv_iload hx hb dL_law_758 (lv_at hl 1 rfl) ?_
    refine lv_icmp_eq (tgt := 765) hx hb dL_law_760 (by decide) (fun c_3 => ?_) (fun c_3 => ?_)
    rotate_left
    · exact False.elim (by revert c_3; decide)
    refine lv_iload hx hb dL_law_765 (lv_at hl 1 rfl) ?_
    refine lv_if_ne (tgt := 782) hx hb dL_law_767 (by decide) (fun c_4 => ?_) (fun c_4 => ?_)
    · exact False.elim (by revert c_4; decide)
    refine lv_aload_n hx hb dL_law_770 rfl (lv_at hl 3 rfl) ?_
    refine lv_iconst (v := 0) hx hb dL_law_771 (by decide) ?_
    refine x_lald hx hb hK hP 12 2 rfl rfl (k := 0) (Nat.le_of_ble_eq_true rfl) (Nat.le_of_ble_eq_true rfl) dL_law_772 ?_
    refine x_topL (w := Int32.toInt64 (leastF B (F (ix p0)) (T (ix p0)))) rfl ?_
    refine lv_iload hx hb dL_law_773 (lv_at hl 0 rfl) ?_
    refine lv_i2l (x := leastF B (F (ix p0)) (T (ix p0))) (v := Int32.toInt64 (leastF B (F (ix p0)) (T (ix p0)))) hx hb dL_law_775 rfl ?_
    refine x_lcmp (v := 0) hx hb (lcmp_self _) dL_law_776 ?_
    refine lv_if_eq (tgt := 782) hx hb dL_law_777 (by decide) (fun c_5 => ?_) (fun c_5 => ?_)
    rotate_left
    · exact False.elim (by revert c_5; decide)
    refine lv_goto (tgt := 996) hx hb dL_law_782 (by decide) ?_
    refine W.widen (k := 20 + 1100 * j + 1100) (n := 1000 + 14000 * j + 14000) (by omega) (by omega) ?_
    exact hn tc rc F T L Z ro E B X R N 0 (vp_updL f 0 (Int32.toInt64 (leastF B (F (ix p0)) (T (ix p0))))) d0 hI hd0 _ _ hP hD hS _ (lv_sub hl [2, 3, 4, 5, 6] rfl)
set_option maxHeartbeats 4000000 in
set_option maxRecDepth 100000 in
theorem law_would {p : Program} {l : Launch} {e : Env} {s : State} {m : MethodId} {below : List Frame} {meth : Method} {c : Code} {Q : State → Prop} {bs Ls : Nat} {xs : Nat → Int32} {D : va_G} {t sa a mb : Nat → Nat} {o j : Nat} (hV : lwEnv p l s m meth c bs Ls xs D t sa) (hj : 4 * j + 4 ≤ Ls) (hn : lwNext p l e s m below meth c Q bs D t a mb o j) {tc rc : Nat} {F T : Nat → Nat} {L : Nat → Int32} {Z : Nat → Bool} {ro : Int32} {E B X R N : Nat → Int32} {th : Int32} {f : Nat → Int64} {d0 : Drawn} (hI : xInv tc rc F T L Z ro E B) (hd0 : s.drawn.sameBut d0 lw_cs) {H : Heap} {locs : List Loc} (hP : va_P D vwCl (LWd t a mb o tc rc F T L Z ro E B X R N th f) H) (hD : va_D (fun q => s.heap.size ≤ q) (LWd t a mb o tc rc F T L Z ro E B X R N th f)) (hS : va_S (fun q => s.heap.size ≤ q) s.heap H locs) {ls : Array Slot} (hl : lv_has ls 9 [(4, .int (nI (4 * j))), (3, .ref o), (2, .ref (mb 0)), (1, .ref (a 0)), (0, .ref bs)]) : W p l e room_1 (s.setDrawn d0) m #[Value.ref bs] below meth c H locs (20 + 1100 * j) (1000 + 14000 * j) Q (F0 m 785 ls []) := by
  obtain ⟨hx, hb, hml, hown, hts0, hXs, hbl, hlocks, hK, hXL, hXX, hfl, hLs⟩ := hV
  obtain ⟨htc, hrc, hF, hL9, hro, hE, hB⟩ := id hI
  have hts := dr_words hts0 d0
  have hown : (s.setDrawn d0).vm.findClass RL = some m.cls := hown
  have hK : va_K D vwCl (xTy t) (s.setDrawn d0) := hK
  have hXs : va_X bs Ls xs (s.setDrawn d0) (s.setDrawn d0).heap := hXs
  have hS : va_S (fun q => s.heap.size ≤ q) (s.setDrawn d0).heap H locs := hS
  have hbl : bs < (s.setDrawn d0).heap.size := hbl
  have hXL : xTl s.heap.size sa (s.setDrawn d0) := xTl.trav _ _ s (s.setDrawn d0) rfl rfl hXL
  have hXX : va_AOA .int (s.setDrawn d0) := aoT s (s.setDrawn d0) rfl rfl hXX
  have hbA : ¬ (fun q : Nat => s.heap.size ≤ q) bs := Nat.not_le.mpr hbl
  have hA : ∀ q : Nat, s.heap.size ≤ q → (fun q : Nat => s.heap.size ≤ q) q := fun _ h => h
  obtain ⟨p0, hp0⟩ : ∃ x, x = xs (4 * j + 1) := ⟨_, rfl⟩
  obtain ⟨p1, hp1⟩ : ∃ x, x = xs (4 * j + 2) := ⟨_, rfl⟩
  obtain ⟨p2, hp2⟩ : ∃ x, x = xs (4 * j + 3) := ⟨_, rfl⟩
  refine lv_aload_n hx hb dL_law_785 rfl (lv_at hl 3 rfl) ?_
  refine lv_aload_n hx hb dL_law_786 rfl (lv_at hl 4 rfl) ?_
  refine lv_iload hx hb dL_law_787 (lv_at hl 0 rfl) ?_
  refine lv_iconst (v := 1) hx hb dL_law_789 (by decide) ?_
  refine lv_iadd (x := nI (4 * j)) (y := 1) hx hb dL_law_790 ?_
  refine x_top (w := nI (4 * j + 1)) (nI_add (4 * j) 1) ?_
  refine va_sld hx hb hXs hbl hbA hS (vp_in_nI (show 4 * j + 1 < Ls by omega) (by omega)) dL_law_791 ?_
  refine x_top (w := p0) (by rw [nI_clamp (by omega)]; exact hp0.symm) ?_
  refine lv_aload_n hx hb dL_law_792 rfl (lv_at hl 4 rfl) ?_
  refine lv_iload hx hb dL_law_793 (lv_at hl 0 rfl) ?_
  refine lv_iconst (v := 2) hx hb dL_law_795 (by decide) ?_
  refine lv_iadd (x := nI (4 * j)) (y := 2) hx hb dL_law_796 ?_
  refine x_top (w := nI (4 * j + 2)) (nI_add (4 * j) 2) ?_
  refine va_sld hx hb hXs hbl hbA hS (vp_in_nI (show 4 * j + 2 < Ls by omega) (by omega)) dL_law_797 ?_
  refine x_top (w := p1) (by rw [nI_clamp (by omega)]; exact hp1.symm) ?_
  refine lv_aload_n hx hb dL_law_798 rfl (lv_at hl 4 rfl) ?_
  refine lv_iload hx hb dL_law_799 (lv_at hl 0 rfl) ?_
  refine lv_iconst (v := 3) hx hb dL_law_801 (by decide) ?_
  refine lv_iadd (x := nI (4 * j)) (y := 3) hx hb dL_law_802 ?_
  refine x_top (w := nI (4 * j + 3)) (nI_add (4 * j) 3) ?_
  refine va_sld hx hb hXs hbl hbA hS (vp_in_nI (show 4 * j + 3 < Ls by omega) (by omega)) dL_law_803 ?_
  refine x_top (w := p2) (by rw [nI_clamp (by omega)]; exact hp2.symm) ?_
  refine lv_aload_n hx hb dL_law_804 rfl (lv_at hl 1 rfl) ?_
  refine xl_S (As := [.ref (a 0), .int p0, .int p1, .int p2, .ref o]) (rest := []) (wr := [xArr (t 0) (a 1) 30 (xN F), xArr (t 0) (a 2) 30 (xN T), xArr (t 0) (a 3) 30 L, xArr (t 1) (a 4) 30 (xB Z), xArr (t 0) (a 5) 12 E, xArr (t 0) (a 7) 12 X, xArr (t 0) (a 8) 12 R, xArr (t 0) (a 9) 12 N, xMod mb th tc rc, xArr (t 0) (mb 1) 120 (mkM F T L Z)]) ⟨hx, hb, hml, hown, hts⟩ (xTl.trav _ _) (c_L_would l hfl D t a tc rc ro B p0 p1 p2 o f s.heap.size sa _ htc) (vx_cwSW 5 hts gL_law_L_would rfl rfl rfl hd_L_would ⟨Nat.le_of_ble_eq_true rfl, Nat.le_of_ble_eq_true rfl⟩) hK hP hD hS hA (fun U hW hU => xTl.warm hW (fun q h1 h2 => by rw [hU]; exact hS.2.1 q h1 h2) hXL) [0, 6, 12] [1, 2, 3, 4, 5, 7, 8, 9, 10, 11] rfl rfl (by decide) (by decide) (by decide) rfl hl.1 rfl (Nat.le_of_ble_eq_true rfl) dL_law_805 ⟨(by show _ ≤ 601024; omega), (by show _ ≤ 7293034; omega)⟩ (fun u H locs hu hP hD hS hz => ?_)
  rcases u with _ | v9
  · have hk0 : ¬ kWould tc p0 p1 p2 = 0 := hu
    have hle9 : (kWould tc p0 p1 p2) ≤ 3 := by unfold kWould; (repeat' split) <;> omega
    have hne9 : ¬ nI (kWould tc p0 p1 p2) = 0 := k_ne hk0 hle9
    have hP : va_P D vwCl ([xObj a tc rc ro, xArr (t 0) (a 1) 30 (xN F), xArr (t 0) (a 2) 30 (xN T), xArr (t 0) (a 3) 30 L, xArr (t 1) (a 4) 30 (xB Z), xArr (t 0) (a 5) 12 E, xArr (t 0) (a 6) 144 B, xArr (t 0) (a 7) 12 X, xArr (t 0) (a 8) 12 R, xArr (t 0) (a 9) 12 N, xMod mb th tc rc, xArr (t 0) (mb 1) 120 (mkM F T L Z), xLng (t 2) o 1 f]) H := hP.sub [10, 0, 1, 2, 3, 4, 11, 5, 6, 7, 8, 9, 12] rfl
    have hD : va_D _ ([xObj a tc rc ro, xArr (t 0) (a 1) 30 (xN F), xArr (t 0) (a 2) 30 (xN T), xArr (t 0) (a 3) 30 L, xArr (t 1) (a 4) 30 (xB Z), xArr (t 0) (a 5) 12 E, xArr (t 0) (a 6) 144 B, xArr (t 0) (a 7) 12 X, xArr (t 0) (a 8) 12 R, xArr (t 0) (a 9) 12 N, xMod mb th tc rc, xArr (t 0) (mb 1) 120 (mkM F T L Z), xLng (t 2) o 1 f]) := hD.sub [10, 0, 1, 2, 3, 4, 11, 5, 6, 7, 8, 9, 12] (by decide) rfl
    refine lv_istore (lv' := [(5, .int (nI (kWould tc p0 p1 p2))), (4, .int (nI (4 * j))), (3, .ref o), (2, .ref (mb 0)), (1, .ref (a 0)), (0, .ref bs)]) hx hb dL_law_808 hl (by decide) rfl (fun ls hl => ?_)
    refine lv_aload_n hx hb dL_law_810 rfl (lv_at hl 3 rfl) ?_
    refine lv_aload_n hx hb dL_law_811 rfl (lv_at hl 5 rfl) ?_
    refine lv_iload hx hb dL_law_812 (lv_at hl 1 rfl) ?_
    refine lv_iconst (v := 1) hx hb dL_law_814 (by decide) ?_
    refine lv_iadd (x := nI (4 * j)) (y := 1) hx hb dL_law_815 ?_
    refine x_top (w := nI (4 * j + 1)) (nI_add (4 * j) 1) ?_
    refine va_sld hx hb hXs hbl hbA hS (vp_in_nI (show 4 * j + 1 < Ls by omega) (by omega)) dL_law_816 ?_
    refine x_top (w := p0) (by rw [nI_clamp (by omega)]; exact hp0.symm) ?_
    refine lv_aload_n hx hb dL_law_817 rfl (lv_at hl 5 rfl) ?_
    refine lv_iload hx hb dL_law_818 (lv_at hl 1 rfl) ?_
    refine lv_iconst (v := 2) hx hb dL_law_820 (by decide) ?_
    refine lv_iadd (x := nI (4 * j)) (y := 2) hx hb dL_law_821 ?_
    refine x_top (w := nI (4 * j + 2)) (nI_add (4 * j) 2) ?_
    refine va_sld hx hb hXs hbl hbA hS (vp_in_nI (show 4 * j + 2 < Ls by omega) (by omega)) dL_law_822 ?_
    refine x_top (w := p1) (by rw [nI_clamp (by omega)]; exact hp1.symm) ?_
    refine lv_aload_n hx hb dL_law_823 rfl (lv_at hl 5 rfl) ?_
    refine lv_iload hx hb dL_law_824 (lv_at hl 1 rfl) ?_
    refine lv_iconst (v := 3) hx hb dL_law_826 (by decide) ?_
    refine lv_iadd (x := nI (4 * j)) (y := 3) hx hb dL_law_827 ?_
    refine x_top (w := nI (4 * j + 3)) (nI_add (4 * j) 3) ?_
    refine va_sld hx hb hXs hbl hbA hS (vp_in_nI (show 4 * j + 3 < Ls by omega) (by omega)) dL_law_828 ?_
    refine x_top (w := p2) (by rw [nI_clamp (by omega)]; exact hp2.symm) ?_
    refine xm_V (b := mb 0) (As := [.int p0, .int p1, .int p2]) (rest := []) (wr := [xObj a tc rc ro, xArr (t 0) (a 1) 30 (xN F), xArr (t 0) (a 2) 30 (xN T), xArr (t 0) (a 3) 30 L, xArr (t 1) (a 4) 30 (xB Z), xArr (t 0) (a 5) 12 E, xArr (t 0) (a 6) 144 B, xArr (t 0) (a 7) 12 X, xArr (t 0) (a 8) 12 R, xArr (t 0) (a 9) 12 N, xLng (t 2) o 1 f]) ⟨hx, hb, hml, hown, hts⟩ aoT (c_X1_would l D t mb th tc rc F T L Z p0 p1 p2 _ htc hrc hF) (cwV 3 hts gL_law_X1_would rfl rfl rfl hd_X1_would ⟨Nat.le_of_ble_eq_true rfl, Nat.le_of_ble_eq_true rfl⟩) hK hP hD hS hA (fun U hW hU => va_AOA.moved hW.alike hXX) (va_recv hK hP (ci := 1) (q0 := 10) rfl rfl) [10, 11] [0, 1, 2, 3, 4, 5, 6, 7, 8, 9, 12] rfl rfl (by decide) (by decide) (by decide) rfl hl.1 rfl (Nat.le_of_ble_eq_true rfl) dL_law_829 ⟨(by show _ ≤ 601024; omega), (by show _ ≤ 7293034; omega)⟩ (fun u_1 H locs hu9 hP hD hS hz => ?_)
    have hP : va_P D vwCl ([xObj a tc rc ro, xArr (t 0) (a 1) 30 (xN F), xArr (t 0) (a 2) 30 (xN T), xArr (t 0) (a 3) 30 L, xArr (t 1) (a 4) 30 (xB Z), xArr (t 0) (a 5) 12 E, xArr (t 0) (a 6) 144 B, xArr (t 0) (a 7) 12 X, xArr (t 0) (a 8) 12 R, xArr (t 0) (a 9) 12 N, xMod mb (nI (kWould tc p0 p1 p2)) tc rc, xArr (t 0) (mb 1) 120 (mkM F T L Z), xLng (t 2) o 1 f]) H := hP.sub [0, 1, 2, 3, 4, 5, 6, 7, 8, 9, 11, 12, 10] rfl
    have hD : va_D _ ([xObj a tc rc ro, xArr (t 0) (a 1) 30 (xN F), xArr (t 0) (a 2) 30 (xN T), xArr (t 0) (a 3) 30 L, xArr (t 1) (a 4) 30 (xB Z), xArr (t 0) (a 5) 12 E, xArr (t 0) (a 6) 144 B, xArr (t 0) (a 7) 12 X, xArr (t 0) (a 8) 12 R, xArr (t 0) (a 9) 12 N, xMod mb (nI (kWould tc p0 p1 p2)) tc rc, xArr (t 0) (mb 1) 120 (mkM F T L Z), xLng (t 2) o 1 f]) := hD.sub [0, 1, 2, 3, 4, 5, 6, 7, 8, 9, 11, 12, 10] (by decide) rfl
    have hkk : kWould tc p0 p1 p2 = kWould tc p0 p1 p2 := rfl
    have hkm : ¬ kWould tc p0 p1 p2 = 0 := by rw [hkk]; exact hk0
    try simp only [if_neg hkm] at hP hD
    have hP : va_P D vwCl ([xObj a tc rc ro, xArr (t 0) (a 1) 30 (xN F), xArr (t 0) (a 2) 30 (xN T), xArr (t 0) (a 3) 30 L, xArr (t 1) (a 4) 30 (xB Z), xArr (t 0) (a 5) 12 E, xArr (t 0) (a 6) 144 B, xArr (t 0) (a 7) 12 X, xArr (t 0) (a 8) 12 R, xArr (t 0) (a 9) 12 N, xMod mb (nI (kWould tc p0 p1 p2)) tc rc, xArr (t 0) (mb 1) 120 (mkM F T L Z), xLng (t 2) o 1 f]) H := hP
    have hD : va_D _ ([xObj a tc rc ro, xArr (t 0) (a 1) 30 (xN F), xArr (t 0) (a 2) 30 (xN T), xArr (t 0) (a 3) 30 L, xArr (t 1) (a 4) 30 (xB Z), xArr (t 0) (a 5) 12 E, xArr (t 0) (a 6) 144 B, xArr (t 0) (a 7) 12 X, xArr (t 0) (a 8) 12 R, xArr (t 0) (a 9) 12 N, xMod mb (nI (kWould tc p0 p1 p2)) tc rc, xArr (t 0) (mb 1) 120 (mkM F T L Z), xLng (t 2) o 1 f]) := hD
    refine lv_istore (lv' := [(6, .int (bI (if kWould tc p0 p1 p2 = 0 then (decide (¬ earM F T L Z tc rc 12 = -1) && (decide (wayM F T L Z tc rc (ix p1) (ix p0) = 99999) || !(decide (wayM F T L Z tc rc (ix p1) (ix p0) + p2 < 0)))) else false))), (5, .int (nI (kWould tc p0 p1 p2))), (4, .int (nI (4 * j))), (3, .ref o), (2, .ref (mb 0)), (1, .ref (a 0)), (0, .ref bs)]) hx hb dL_law_832 hl (by decide) rfl (fun ls hl => ?_)
    refine lv_aload_n hx hb dL_law_834 rfl (lv_at hl 4 rfl) ?_
    refine xr_V (b := mb 0) (As := []) (rest := []) ⟨hx, hb, hml, hown, hts⟩ (c_X1_thrown l D t mb (nI (kWould tc p0 p1 p2)) tc rc ) (cwV 0 hts gL_law_X1_thrown rfl rfl rfl hd_X1_thrown ⟨Nat.le_of_ble_eq_true rfl, Nat.le_of_ble_eq_true rfl⟩) hK hP (va_recv hK hP (ci := 1) (q0 := 10) rfl rfl) [10] rfl rfl hl.1 rfl (Nat.le_of_ble_eq_true rfl) dL_law_835 ⟨(by show _ ≤ 601024; omega), (by show _ ≤ 7293034; omega)⟩ ?_
    refine lv_iload hx hb dL_law_838 (lv_at hl 1 rfl) ?_
    refine lv_icmp_eq (tgt := 845) hx hb dL_law_840 (by decide) (fun _ => ?_) (fun h9 => absurd rfl h9)
    refine lv_iload hx hb dL_law_845 (lv_at hl 1 rfl) ?_
    refine lv_if_ne (tgt := 869) hx hb dL_law_847 (by decide) (fun _ => ?_) (fun h9 => absurd h9 hne9)
    refine lv_goto (tgt := 996) hx hb dL_law_869 (by decide) ?_
    refine W.widen (k := 20 + 1100 * j + 1100) (n := 1000 + 14000 * j + 14000) (by omega) (by omega) ?_
    exact hn tc rc F T L Z ro E B X R N (nI (kWould tc p0 p1 p2)) f d0 hI hd0 _ _ hP hD hS _ (lv_sub hl [2, 3, 4, 5, 6] rfl)
  · have hk0 : kWould tc p0 p1 p2 = 0 := hu
    have hP : va_P D vwCl ([xObj a tc rc ro, xArr (t 0) (a 1) 30 (xN F), xArr (t 0) (a 2) 30 (xN T), xArr (t 0) (a 3) 30 L, xArr (t 1) (a 4) 30 (xB Z), xArr (t 0) (a 5) 12 E, xArr (t 0) (a 6) 144 B, xArr (t 0) (a 7) 12 X, xArr (t 0) (a 8) 12 R, xArr (t 0) (a 9) 12 N, xMod mb th tc rc, xArr (t 0) (mb 1) 120 (mkM F T L Z), xLng (t 2) o 1 (vp_updL f 0 (Int32.toInt64 (bI (decide (¬ ro = -1) && !(decide (p2 < leastF B (ix p0) (ix p1)))))))]) H := hP.sub [10, 0, 1, 2, 3, 4, 11, 5, 6, 7, 8, 9, 12] rfl
    have hD : va_D _ ([xObj a tc rc ro, xArr (t 0) (a 1) 30 (xN F), xArr (t 0) (a 2) 30 (xN T), xArr (t 0) (a 3) 30 L, xArr (t 1) (a 4) 30 (xB Z), xArr (t 0) (a 5) 12 E, xArr (t 0) (a 6) 144 B, xArr (t 0) (a 7) 12 X, xArr (t 0) (a 8) 12 R, xArr (t 0) (a 9) 12 N, xMod mb th tc rc, xArr (t 0) (mb 1) 120 (mkM F T L Z), xLng (t 2) o 1 (vp_updL f 0 (Int32.toInt64 (bI (decide (¬ ro = -1) && !(decide (p2 < leastF B (ix p0) (ix p1)))))))]) := hD.sub [10, 0, 1, 2, 3, 4, 11, 5, 6, 7, 8, 9, 12] (by decide) rfl
    refine lv_istore (lv' := [(5, .int 0), (4, .int (nI (4 * j))), (3, .ref o), (2, .ref (mb 0)), (1, .ref (a 0)), (0, .ref bs)]) hx hb dL_law_808 hl (by decide) rfl (fun ls hl => ?_)
    refine lv_aload_n hx hb dL_law_810 rfl (lv_at hl 3 rfl) ?_
    refine lv_aload_n hx hb dL_law_811 rfl (lv_at hl 5 rfl) ?_
    refine lv_iload hx hb dL_law_812 (lv_at hl 1 rfl) ?_
    refine lv_iconst (v := 1) hx hb dL_law_814 (by decide) ?_
    refine lv_iadd (x := nI (4 * j)) (y := 1) hx hb dL_law_815 ?_
    refine x_top (w := nI (4 * j + 1)) (nI_add (4 * j) 1) ?_
    refine va_sld hx hb hXs hbl hbA hS (vp_in_nI (show 4 * j + 1 < Ls by omega) (by omega)) dL_law_816 ?_
    refine x_top (w := p0) (by rw [nI_clamp (by omega)]; exact hp0.symm) ?_
    refine lv_aload_n hx hb dL_law_817 rfl (lv_at hl 5 rfl) ?_
    refine lv_iload hx hb dL_law_818 (lv_at hl 1 rfl) ?_
    refine lv_iconst (v := 2) hx hb dL_law_820 (by decide) ?_
    refine lv_iadd (x := nI (4 * j)) (y := 2) hx hb dL_law_821 ?_
    refine x_top (w := nI (4 * j + 2)) (nI_add (4 * j) 2) ?_
    refine va_sld hx hb hXs hbl hbA hS (vp_in_nI (show 4 * j + 2 < Ls by omega) (by omega)) dL_law_822 ?_
    refine x_top (w := p1) (by rw [nI_clamp (by omega)]; exact hp1.symm) ?_
    refine lv_aload_n hx hb dL_law_823 rfl (lv_at hl 5 rfl) ?_
    refine lv_iload hx hb dL_law_824 (lv_at hl 1 rfl) ?_
    refine lv_iconst (v := 3) hx hb dL_law_826 (by decide) ?_
    refine lv_iadd (x := nI (4 * j)) (y := 3) hx hb dL_law_827 ?_
    refine x_top (w := nI (4 * j + 3)) (nI_add (4 * j) 3) ?_
    refine va_sld hx hb hXs hbl hbA hS (vp_in_nI (show 4 * j + 3 < Ls by omega) (by omega)) dL_law_828 ?_
    refine x_top (w := p2) (by rw [nI_clamp (by omega)]; exact hp2.symm) ?_
    refine xm_V (b := mb 0) (As := [.int p0, .int p1, .int p2]) (rest := []) (wr := [xObj a tc rc ro, xArr (t 0) (a 1) 30 (xN F), xArr (t 0) (a 2) 30 (xN T), xArr (t 0) (a 3) 30 L, xArr (t 1) (a 4) 30 (xB Z), xArr (t 0) (a 5) 12 E, xArr (t 0) (a 6) 144 B, xArr (t 0) (a 7) 12 X, xArr (t 0) (a 8) 12 R, xArr (t 0) (a 9) 12 N, xLng (t 2) o 1 (vp_updL f 0 (Int32.toInt64 (bI (decide (¬ ro = -1) && !(decide (p2 < leastF B (ix p0) (ix p1)))))))]) ⟨hx, hb, hml, hown, hts⟩ aoT (c_X1_would l D t mb th tc rc F T L Z p0 p1 p2 _ htc hrc hF) (cwV 3 hts gL_law_X1_would rfl rfl rfl hd_X1_would ⟨Nat.le_of_ble_eq_true rfl, Nat.le_of_ble_eq_true rfl⟩) hK hP hD hS hA (fun U hW hU => va_AOA.moved hW.alike hXX) (va_recv hK hP (ci := 1) (q0 := 10) rfl rfl) [10, 11] [0, 1, 2, 3, 4, 5, 6, 7, 8, 9, 12] rfl rfl (by decide) (by decide) (by decide) rfl hl.1 rfl (Nat.le_of_ble_eq_true rfl) dL_law_829 ⟨(by show _ ≤ 601024; omega), (by show _ ≤ 7293034; omega)⟩ (fun u_2 H locs hu9 hP hD hS hz => ?_)
    have hP : va_P D vwCl ([xObj a tc rc ro, xArr (t 0) (a 1) 30 (xN F), xArr (t 0) (a 2) 30 (xN T), xArr (t 0) (a 3) 30 L, xArr (t 1) (a 4) 30 (xB Z), xArr (t 0) (a 5) 12 E, xArr (t 0) (a 6) 144 B, xArr (t 0) (a 7) 12 X, xArr (t 0) (a 8) 12 R, xArr (t 0) (a 9) 12 N, xMod mb (nI (kWould tc p0 p1 p2)) tc rc, xArr (t 0) (mb 1) 120 (mkM F T L Z), xLng (t 2) o 1 (vp_updL f 0 (Int32.toInt64 (bI (decide (¬ ro = -1) && !(decide (p2 < leastF B (ix p0) (ix p1)))))))]) H := hP.sub [0, 1, 2, 3, 4, 5, 6, 7, 8, 9, 11, 12, 10] rfl
    have hD : va_D _ ([xObj a tc rc ro, xArr (t 0) (a 1) 30 (xN F), xArr (t 0) (a 2) 30 (xN T), xArr (t 0) (a 3) 30 L, xArr (t 1) (a 4) 30 (xB Z), xArr (t 0) (a 5) 12 E, xArr (t 0) (a 6) 144 B, xArr (t 0) (a 7) 12 X, xArr (t 0) (a 8) 12 R, xArr (t 0) (a 9) 12 N, xMod mb (nI (kWould tc p0 p1 p2)) tc rc, xArr (t 0) (mb 1) 120 (mkM F T L Z), xLng (t 2) o 1 (vp_updL f 0 (Int32.toInt64 (bI (decide (¬ ro = -1) && !(decide (p2 < leastF B (ix p0) (ix p1)))))))]) := hD.sub [0, 1, 2, 3, 4, 5, 6, 7, 8, 9, 11, 12, 10] (by decide) rfl
    have hkk : kWould tc p0 p1 p2 = kWould tc p0 p1 p2 := rfl
    have hkm : kWould tc p0 p1 p2 = 0 := by rw [hkk]; first | exact hk0 | (rw [hk0]; rfl)
    rw [hkm] at hP hD
    have hP : va_P D vwCl ([xObj a tc rc ro, xArr (t 0) (a 1) 30 (xN F), xArr (t 0) (a 2) 30 (xN T), xArr (t 0) (a 3) 30 L, xArr (t 1) (a 4) 30 (xB Z), xArr (t 0) (a 5) 12 E, xArr (t 0) (a 6) 144 B, xArr (t 0) (a 7) 12 X, xArr (t 0) (a 8) 12 R, xArr (t 0) (a 9) 12 N, xMod mb 0 tc rc, xArr (t 0) (mb 1) 120 (mkM F T L Z), xLng (t 2) o 1 (vp_updL f 0 (Int32.toInt64 (bI (decide (¬ ro = -1) && !(decide (p2 < leastF B (ix p0) (ix p1)))))))]) H := hP
    have hD : va_D _ ([xObj a tc rc ro, xArr (t 0) (a 1) 30 (xN F), xArr (t 0) (a 2) 30 (xN T), xArr (t 0) (a 3) 30 L, xArr (t 1) (a 4) 30 (xB Z), xArr (t 0) (a 5) 12 E, xArr (t 0) (a 6) 144 B, xArr (t 0) (a 7) 12 X, xArr (t 0) (a 8) 12 R, xArr (t 0) (a 9) 12 N, xMod mb 0 tc rc, xArr (t 0) (mb 1) 120 (mkM F T L Z), xLng (t 2) o 1 (vp_updL f 0 (Int32.toInt64 (bI (decide (¬ ro = -1) && !(decide (p2 < leastF B (ix p0) (ix p1)))))))]) := hD
    refine x_top (w := bI (decide (¬ ro = -1) && !(decide (p2 < leastF B (ix p0) (ix p1))))) (by rw [if_pos hkm]; exact congrArg bI (q_would hI (ix_lt (kWould_0 hk0).1 (by omega)) (ix_lt (kWould_0 hk0).2.1 (by omega)) (kWould_0 hk0).2.2)) ?_
    refine lv_istore (lv' := [(6, .int (bI (decide (¬ ro = -1) && !(decide (p2 < leastF B (ix p0) (ix p1)))))), (5, .int 0), (4, .int (nI (4 * j))), (3, .ref o), (2, .ref (mb 0)), (1, .ref (a 0)), (0, .ref bs)]) hx hb dL_law_832 hl (by decide) rfl (fun ls hl => ?_)
    refine lv_aload_n hx hb dL_law_834 rfl (lv_at hl 4 rfl) ?_
    refine xr_V (b := mb 0) (As := []) (rest := []) ⟨hx, hb, hml, hown, hts⟩ (c_X1_thrown l D t mb 0 tc rc ) (cwV 0 hts gL_law_X1_thrown rfl rfl rfl hd_X1_thrown ⟨Nat.le_of_ble_eq_true rfl, Nat.le_of_ble_eq_true rfl⟩) hK hP (va_recv hK hP (ci := 1) (q0 := 10) rfl rfl) [10] rfl rfl hl.1 rfl (Nat.le_of_ble_eq_true rfl) dL_law_835 ⟨(by show _ ≤ 601024; omega), (by show _ ≤ 7293034; omega)⟩ ?_
    refine x_top (w := 0) rfl ?_
    refine lv_iload hx hb dL_law_838 (lv_at hl 1 rfl) ?_
    refine lv_icmp_eq (tgt := 845) hx hb dL_law_840 (by decide) (fun c_3 => ?_) (fun c_3 => ?_)
    rotate_left
    · exact False.elim (by revert c_3; decide)
    refine lv_iload hx hb dL_law_845 (lv_at hl 1 rfl) ?_
    refine lv_if_ne (tgt := 869) hx hb dL_law_847 (by decide) (fun c_4 => ?_) (fun c_4 => ?_)
    · exact False.elim (by revert c_4; decide)
    refine lv_aload_n hx hb dL_law_850 rfl (lv_at hl 3 rfl) ?_
    refine lv_iconst (v := 0) hx hb dL_law_851 (by decide) ?_
    refine x_lald hx hb hK hP 12 2 rfl rfl (k := 0) (Nat.le_of_ble_eq_true rfl) (Nat.le_of_ble_eq_true rfl) dL_law_852 ?_
    refine x_topL (w := Int32.toInt64 (bI (decide (¬ ro = -1) && !(decide (p2 < leastF B (ix p0) (ix p1)))))) rfl ?_
    refine lv_iload hx hb dL_law_853 (lv_at hl 0 rfl) ?_
    refine lv_if_eq (x := bI (decide (¬ ro = -1) && !(decide (p2 < leastF B (ix p0) (ix p1))))) (tgt := 862) hx hb dL_law_855 (by decide) (fun c_5 => ?_) (fun c_5 => ?_)
    · have c_5 := bI_0 c_5
      refine lv_lconst (v := 0) hx hb dL_law_862 rfl ?_
      refine x_topL (w := Int32.toInt64 (bI (decide (¬ ro = -1) && !(decide (p2 < leastF B (ix p0) (ix p1)))))) (by rw [c_5]; rfl) ?_
      refine x_lcmp (v := 0) hx hb (lcmp_self _) dL_law_863 ?_
      refine lv_if_eq (tgt := 869) hx hb dL_law_864 (by decide) (fun c_6 => ?_) (fun c_6 => ?_)
      rotate_left
      · exact False.elim (by revert c_6; decide)
      refine lv_goto (tgt := 996) hx hb dL_law_869 (by decide) ?_
      refine W.widen (k := 20 + 1100 * j + 1100) (n := 1000 + 14000 * j + 14000) (by omega) (by omega) ?_
      exact hn tc rc F T L Z ro E B X R N 0 (vp_updL f 0 (Int32.toInt64 (bI (decide (¬ ro = -1) && !(decide (p2 < leastF B (ix p0) (ix p1))))))) d0 hI hd0 _ _ hP hD hS _ (lv_sub hl [2, 3, 4, 5, 6] rfl)
    · have c_5 := bI_n0 c_5
      refine lv_lconst (v := 1) hx hb dL_law_858 rfl ?_
      refine lv_goto (tgt := 863) hx hb dL_law_859 (by decide) ?_
      refine x_topL (w := Int32.toInt64 (bI (decide (¬ ro = -1) && !(decide (p2 < leastF B (ix p0) (ix p1)))))) (by rw [c_5]; rfl) ?_
      refine x_lcmp (v := 0) hx hb (lcmp_self _) dL_law_863 ?_
      refine lv_if_eq (tgt := 869) hx hb dL_law_864 (by decide) (fun c_7 => ?_) (fun c_7 => ?_)
      rotate_left
      · exact False.elim (by revert c_7; decide)
      refine lv_goto (tgt := 996) hx hb dL_law_869 (by decide) ?_
      refine W.widen (k := 20 + 1100 * j + 1100) (n := 1000 + 14000 * j + 14000) (by omega) (by omega) ?_
      exact hn tc rc F T L Z ro E B X R N 0 (vp_updL f 0 (Int32.toInt64 (bI (decide (¬ ro = -1) && !(decide (p2 < leastF B (ix p0) (ix p1))))))) d0 hI hd0 _ _ hP hD hS _ (lv_sub hl [2, 3, 4, 5, 6] rfl)
set_option maxHeartbeats 4000000 in
set_option maxRecDepth 100000 in
theorem law_at {p : Program} {l : Launch} {e : Env} {s : State} {m : MethodId} {below : List Frame} {meth : Method} {c : Code} {Q : State → Prop} {bs Ls : Nat} {xs : Nat → Int32} {D : va_G} {t sa a mb : Nat → Nat} {o j : Nat} (hV : lwEnv p l s m meth c bs Ls xs D t sa) (hj : 4 * j + 4 ≤ Ls) (hn : lwNext p l e s m below meth c Q bs D t a mb o j) {tc rc : Nat} {F T : Nat → Nat} {L : Nat → Int32} {Z : Nat → Bool} {ro : Int32} {E B X R N : Nat → Int32} {th : Int32} {f : Nat → Int64} {d0 : Drawn} (hI : xInv tc rc F T L Z ro E B) (hd0 : s.drawn.sameBut d0 lw_cs) {H : Heap} {locs : List Loc} (hP : va_P D vwCl (LWd t a mb o tc rc F T L Z ro E B X R N th f) H) (hD : va_D (fun q => s.heap.size ≤ q) (LWd t a mb o tc rc F T L Z ro E B X R N th f)) (hS : va_S (fun q => s.heap.size ≤ q) s.heap H locs) {ls : Array Slot} (hl : lv_has ls 9 [(4, .int (nI (4 * j))), (3, .ref o), (2, .ref (mb 0)), (1, .ref (a 0)), (0, .ref bs)]) : W p l e room_1 (s.setDrawn d0) m #[Value.ref bs] below meth c H locs (20 + 1100 * j) (1000 + 14000 * j) Q (F0 m 872 ls []) := by
  obtain ⟨hx, hb, hml, hown, hts0, hXs, hbl, hlocks, hK, hXL, hXX, hfl, hLs⟩ := hV
  obtain ⟨htc, hrc, hF, hL9, hro, hE, hB⟩ := id hI
  have hts := dr_words hts0 d0
  have hown : (s.setDrawn d0).vm.findClass RL = some m.cls := hown
  have hK : va_K D vwCl (xTy t) (s.setDrawn d0) := hK
  have hXs : va_X bs Ls xs (s.setDrawn d0) (s.setDrawn d0).heap := hXs
  have hS : va_S (fun q => s.heap.size ≤ q) (s.setDrawn d0).heap H locs := hS
  have hbl : bs < (s.setDrawn d0).heap.size := hbl
  have hXL : xTl s.heap.size sa (s.setDrawn d0) := xTl.trav _ _ s (s.setDrawn d0) rfl rfl hXL
  have hXX : va_AOA .int (s.setDrawn d0) := aoT s (s.setDrawn d0) rfl rfl hXX
  have hbA : ¬ (fun q : Nat => s.heap.size ≤ q) bs := Nat.not_le.mpr hbl
  have hA : ∀ q : Nat, s.heap.size ≤ q → (fun q : Nat => s.heap.size ≤ q) q := fun _ h => h
  obtain ⟨p0, hp0⟩ : ∃ x, x = xs (4 * j + 1) := ⟨_, rfl⟩
  refine lv_aload_n hx hb dL_law_872 rfl (lv_at hl 3 rfl) ?_
  refine lv_aload_n hx hb dL_law_873 rfl (lv_at hl 4 rfl) ?_
  refine lv_iload hx hb dL_law_874 (lv_at hl 0 rfl) ?_
  refine lv_iconst (v := 1) hx hb dL_law_876 (by decide) ?_
  refine lv_iadd (x := nI (4 * j)) (y := 1) hx hb dL_law_877 ?_
  refine x_top (w := nI (4 * j + 1)) (nI_add (4 * j) 1) ?_
  refine va_sld hx hb hXs hbl hbA hS (vp_in_nI (show 4 * j + 1 < Ls by omega) (by omega)) dL_law_878 ?_
  refine x_top (w := p0) (by rw [nI_clamp (by omega)]; exact hp0.symm) ?_
  refine lv_aload_n hx hb dL_law_879 rfl (lv_at hl 1 rfl) ?_
  refine xl_S (As := [.ref (a 0), .int p0, .ref o]) (rest := []) (wr := [xArr (t 0) (a 1) 30 (xN F), xArr (t 0) (a 2) 30 (xN T), xArr (t 0) (a 3) 30 L, xArr (t 1) (a 4) 30 (xB Z), xArr (t 0) (a 6) 144 B, xArr (t 0) (a 7) 12 X, xArr (t 0) (a 8) 12 R, xArr (t 0) (a 9) 12 N, xMod mb th tc rc, xArr (t 0) (mb 1) 120 (mkM F T L Z)]) ⟨hx, hb, hml, hown, hts⟩ (xTl.trav _ _) (c_L_at l hfl D t a tc rc ro E p0 o f s.heap.size sa _ htc) (vx_cwSW 3 hts gL_law_L_at rfl rfl rfl hd_L_at ⟨Nat.le_of_ble_eq_true rfl, Nat.le_of_ble_eq_true rfl⟩) hK hP hD hS hA (fun U hW hU => xTl.warm hW (fun q h1 h2 => by rw [hU]; exact hS.2.1 q h1 h2) hXL) [0, 5, 12] [1, 2, 3, 4, 6, 7, 8, 9, 10, 11] rfl rfl (by decide) (by decide) (by decide) rfl hl.1 rfl (Nat.le_of_ble_eq_true rfl) dL_law_880 ⟨(by show _ ≤ 601024; omega), (by show _ ≤ 7293034; omega)⟩ (fun u H locs hu hP hD hS hz => ?_)
  rcases u with _ | v9
  · have hk0 : ¬ kAt tc ro p0 = 0 := hu
    have hle9 : (kAt tc ro p0) ≤ 3 := by unfold kAt; (repeat' split) <;> omega
    have hne9 : ¬ nI (c2 (kAt tc ro p0)) = 0 := k_ne (c2_ne hk0) (c2_le hle9)
    have hP : va_P D vwCl ([xObj a tc rc ro, xArr (t 0) (a 1) 30 (xN F), xArr (t 0) (a 2) 30 (xN T), xArr (t 0) (a 3) 30 L, xArr (t 1) (a 4) 30 (xB Z), xArr (t 0) (a 5) 12 E, xArr (t 0) (a 6) 144 B, xArr (t 0) (a 7) 12 X, xArr (t 0) (a 8) 12 R, xArr (t 0) (a 9) 12 N, xMod mb th tc rc, xArr (t 0) (mb 1) 120 (mkM F T L Z), xLng (t 2) o 1 f]) H := hP.sub [10, 0, 1, 2, 3, 11, 4, 5, 6, 7, 8, 9, 12] rfl
    have hD : va_D _ ([xObj a tc rc ro, xArr (t 0) (a 1) 30 (xN F), xArr (t 0) (a 2) 30 (xN T), xArr (t 0) (a 3) 30 L, xArr (t 1) (a 4) 30 (xB Z), xArr (t 0) (a 5) 12 E, xArr (t 0) (a 6) 144 B, xArr (t 0) (a 7) 12 X, xArr (t 0) (a 8) 12 R, xArr (t 0) (a 9) 12 N, xMod mb th tc rc, xArr (t 0) (mb 1) 120 (mkM F T L Z), xLng (t 2) o 1 f]) := hD.sub [10, 0, 1, 2, 3, 11, 4, 5, 6, 7, 8, 9, 12] (by decide) rfl
    refine lv_istore (lv' := [(5, .int (nI (c2 (kAt tc ro p0)))), (4, .int (nI (4 * j))), (3, .ref o), (2, .ref (mb 0)), (1, .ref (a 0)), (0, .ref bs)]) hx hb dL_law_883 hl (by decide) rfl (fun ls hl => ?_)
    refine lv_aload_n hx hb dL_law_885 rfl (lv_at hl 3 rfl) ?_
    refine lv_aload_n hx hb dL_law_886 rfl (lv_at hl 5 rfl) ?_
    refine lv_iload hx hb dL_law_887 (lv_at hl 1 rfl) ?_
    refine lv_iconst (v := 1) hx hb dL_law_889 (by decide) ?_
    refine lv_iadd (x := nI (4 * j)) (y := 1) hx hb dL_law_890 ?_
    refine x_top (w := nI (4 * j + 1)) (nI_add (4 * j) 1) ?_
    refine va_sld hx hb hXs hbl hbA hS (vp_in_nI (show 4 * j + 1 < Ls by omega) (by omega)) dL_law_891 ?_
    refine x_top (w := p0) (by rw [nI_clamp (by omega)]; exact hp0.symm) ?_
    refine xm_V (b := mb 0) (As := [.int p0]) (rest := []) (wr := [xObj a tc rc ro, xArr (t 0) (a 1) 30 (xN F), xArr (t 0) (a 2) 30 (xN T), xArr (t 0) (a 3) 30 L, xArr (t 1) (a 4) 30 (xB Z), xArr (t 0) (a 5) 12 E, xArr (t 0) (a 6) 144 B, xArr (t 0) (a 7) 12 X, xArr (t 0) (a 8) 12 R, xArr (t 0) (a 9) 12 N, xLng (t 2) o 1 f]) ⟨hx, hb, hml, hown, hts⟩ aoT (c_X1_at l D t mb th tc rc F T L Z p0 _ htc hrc hF) (cwV 1 hts gL_law_X1_at rfl rfl rfl hd_X1_at ⟨Nat.le_of_ble_eq_true rfl, Nat.le_of_ble_eq_true rfl⟩) hK hP hD hS hA (fun U hW hU => va_AOA.moved hW.alike hXX) (va_recv hK hP (ci := 1) (q0 := 10) rfl rfl) [10, 11] [0, 1, 2, 3, 4, 5, 6, 7, 8, 9, 12] rfl rfl (by decide) (by decide) (by decide) rfl hl.1 rfl (Nat.le_of_ble_eq_true rfl) dL_law_892 ⟨(by show _ ≤ 601024; omega), (by show _ ≤ 7293034; omega)⟩ (fun u_1 H locs hu9 hP hD hS hz => ?_)
    have hP : va_P D vwCl ([xObj a tc rc ro, xArr (t 0) (a 1) 30 (xN F), xArr (t 0) (a 2) 30 (xN T), xArr (t 0) (a 3) 30 L, xArr (t 1) (a 4) 30 (xB Z), xArr (t 0) (a 5) 12 E, xArr (t 0) (a 6) 144 B, xArr (t 0) (a 7) 12 X, xArr (t 0) (a 8) 12 R, xArr (t 0) (a 9) 12 N, xMod mb (nI (c2 (kAt tc (earM F T L Z tc rc 12) p0))) tc rc, xArr (t 0) (mb 1) 120 (mkM F T L Z), xLng (t 2) o 1 f]) H := hP.sub [0, 1, 2, 3, 4, 5, 6, 7, 8, 9, 11, 12, 10] rfl
    have hD : va_D _ ([xObj a tc rc ro, xArr (t 0) (a 1) 30 (xN F), xArr (t 0) (a 2) 30 (xN T), xArr (t 0) (a 3) 30 L, xArr (t 1) (a 4) 30 (xB Z), xArr (t 0) (a 5) 12 E, xArr (t 0) (a 6) 144 B, xArr (t 0) (a 7) 12 X, xArr (t 0) (a 8) 12 R, xArr (t 0) (a 9) 12 N, xMod mb (nI (c2 (kAt tc (earM F T L Z tc rc 12) p0))) tc rc, xArr (t 0) (mb 1) 120 (mkM F T L Z), xLng (t 2) o 1 f]) := hD.sub [0, 1, 2, 3, 4, 5, 6, 7, 8, 9, 11, 12, 10] (by decide) rfl
    have hkk : c2 (kAt tc (earM F T L Z tc rc 12) p0) = c2 (kAt tc ro p0) := (by rw [← hro])
    have hkm : ¬ c2 (kAt tc (earM F T L Z tc rc 12) p0) = 0 := by rw [hkk]; exact c2_ne hk0
    try simp only [if_neg hkm] at hP hD
    rw [hkk] at hP hD
    have hP : va_P D vwCl ([xObj a tc rc ro, xArr (t 0) (a 1) 30 (xN F), xArr (t 0) (a 2) 30 (xN T), xArr (t 0) (a 3) 30 L, xArr (t 1) (a 4) 30 (xB Z), xArr (t 0) (a 5) 12 E, xArr (t 0) (a 6) 144 B, xArr (t 0) (a 7) 12 X, xArr (t 0) (a 8) 12 R, xArr (t 0) (a 9) 12 N, xMod mb (nI (c2 (kAt tc ro p0))) tc rc, xArr (t 0) (mb 1) 120 (mkM F T L Z), xLng (t 2) o 1 f]) H := hP
    have hD : va_D _ ([xObj a tc rc ro, xArr (t 0) (a 1) 30 (xN F), xArr (t 0) (a 2) 30 (xN T), xArr (t 0) (a 3) 30 L, xArr (t 1) (a 4) 30 (xB Z), xArr (t 0) (a 5) 12 E, xArr (t 0) (a 6) 144 B, xArr (t 0) (a 7) 12 X, xArr (t 0) (a 8) 12 R, xArr (t 0) (a 9) 12 N, xMod mb (nI (c2 (kAt tc ro p0))) tc rc, xArr (t 0) (mb 1) 120 (mkM F T L Z), xLng (t 2) o 1 f]) := hD
    refine lv_istore (lv' := [(6, .int (if c2 (kAt tc (earM F T L Z tc rc 12) p0) = 0 then atF (earM F T L Z tc rc) tc (ix p0) tc 0 else 0)), (5, .int (nI (c2 (kAt tc ro p0)))), (4, .int (nI (4 * j))), (3, .ref o), (2, .ref (mb 0)), (1, .ref (a 0)), (0, .ref bs)]) hx hb dL_law_895 hl (by decide) rfl (fun ls hl => ?_)
    refine lv_aload_n hx hb dL_law_897 rfl (lv_at hl 4 rfl) ?_
    refine xr_V (b := mb 0) (As := []) (rest := []) ⟨hx, hb, hml, hown, hts⟩ (c_X1_thrown l D t mb (nI (c2 (kAt tc ro p0))) tc rc ) (cwV 0 hts gL_law_X1_thrown rfl rfl rfl hd_X1_thrown ⟨Nat.le_of_ble_eq_true rfl, Nat.le_of_ble_eq_true rfl⟩) hK hP (va_recv hK hP (ci := 1) (q0 := 10) rfl rfl) [10] rfl rfl hl.1 rfl (Nat.le_of_ble_eq_true rfl) dL_law_898 ⟨(by show _ ≤ 601024; omega), (by show _ ≤ 7293034; omega)⟩ ?_
    refine lv_iload hx hb dL_law_901 (lv_at hl 1 rfl) ?_
    refine lv_icmp_eq (tgt := 908) hx hb dL_law_903 (by decide) (fun _ => ?_) (fun h9 => absurd rfl h9)
    refine lv_iload hx hb dL_law_908 (lv_at hl 1 rfl) ?_
    refine lv_if_ne (tgt := 925) hx hb dL_law_910 (by decide) (fun _ => ?_) (fun h9 => absurd h9 hne9)
    refine lv_goto (tgt := 996) hx hb dL_law_925 (by decide) ?_
    refine W.widen (k := 20 + 1100 * j + 1100) (n := 1000 + 14000 * j + 14000) (by omega) (by omega) ?_
    exact hn tc rc F T L Z ro E B X R N (nI (c2 (kAt tc ro p0))) f d0 hI hd0 _ _ hP hD hS _ (lv_sub hl [2, 3, 4, 5, 6] rfl)
  · have hk0 : kAt tc ro p0 = 0 := hu
    have hP : va_P D vwCl ([xObj a tc rc ro, xArr (t 0) (a 1) 30 (xN F), xArr (t 0) (a 2) 30 (xN T), xArr (t 0) (a 3) 30 L, xArr (t 1) (a 4) 30 (xB Z), xArr (t 0) (a 5) 12 E, xArr (t 0) (a 6) 144 B, xArr (t 0) (a 7) 12 X, xArr (t 0) (a 8) 12 R, xArr (t 0) (a 9) 12 N, xMod mb th tc rc, xArr (t 0) (mb 1) 120 (mkM F T L Z), xLng (t 2) o 1 (vp_updL f 0 (Int32.toInt64 (atF E tc (ix p0) tc 0)))]) H := hP.sub [10, 0, 1, 2, 3, 11, 4, 5, 6, 7, 8, 9, 12] rfl
    have hD : va_D _ ([xObj a tc rc ro, xArr (t 0) (a 1) 30 (xN F), xArr (t 0) (a 2) 30 (xN T), xArr (t 0) (a 3) 30 L, xArr (t 1) (a 4) 30 (xB Z), xArr (t 0) (a 5) 12 E, xArr (t 0) (a 6) 144 B, xArr (t 0) (a 7) 12 X, xArr (t 0) (a 8) 12 R, xArr (t 0) (a 9) 12 N, xMod mb th tc rc, xArr (t 0) (mb 1) 120 (mkM F T L Z), xLng (t 2) o 1 (vp_updL f 0 (Int32.toInt64 (atF E tc (ix p0) tc 0)))]) := hD.sub [10, 0, 1, 2, 3, 11, 4, 5, 6, 7, 8, 9, 12] (by decide) rfl
    refine lv_istore (lv' := [(5, .int 0), (4, .int (nI (4 * j))), (3, .ref o), (2, .ref (mb 0)), (1, .ref (a 0)), (0, .ref bs)]) hx hb dL_law_883 hl (by decide) rfl (fun ls hl => ?_)
    refine lv_aload_n hx hb dL_law_885 rfl (lv_at hl 3 rfl) ?_
    refine lv_aload_n hx hb dL_law_886 rfl (lv_at hl 5 rfl) ?_
    refine lv_iload hx hb dL_law_887 (lv_at hl 1 rfl) ?_
    refine lv_iconst (v := 1) hx hb dL_law_889 (by decide) ?_
    refine lv_iadd (x := nI (4 * j)) (y := 1) hx hb dL_law_890 ?_
    refine x_top (w := nI (4 * j + 1)) (nI_add (4 * j) 1) ?_
    refine va_sld hx hb hXs hbl hbA hS (vp_in_nI (show 4 * j + 1 < Ls by omega) (by omega)) dL_law_891 ?_
    refine x_top (w := p0) (by rw [nI_clamp (by omega)]; exact hp0.symm) ?_
    refine xm_V (b := mb 0) (As := [.int p0]) (rest := []) (wr := [xObj a tc rc ro, xArr (t 0) (a 1) 30 (xN F), xArr (t 0) (a 2) 30 (xN T), xArr (t 0) (a 3) 30 L, xArr (t 1) (a 4) 30 (xB Z), xArr (t 0) (a 5) 12 E, xArr (t 0) (a 6) 144 B, xArr (t 0) (a 7) 12 X, xArr (t 0) (a 8) 12 R, xArr (t 0) (a 9) 12 N, xLng (t 2) o 1 (vp_updL f 0 (Int32.toInt64 (atF E tc (ix p0) tc 0)))]) ⟨hx, hb, hml, hown, hts⟩ aoT (c_X1_at l D t mb th tc rc F T L Z p0 _ htc hrc hF) (cwV 1 hts gL_law_X1_at rfl rfl rfl hd_X1_at ⟨Nat.le_of_ble_eq_true rfl, Nat.le_of_ble_eq_true rfl⟩) hK hP hD hS hA (fun U hW hU => va_AOA.moved hW.alike hXX) (va_recv hK hP (ci := 1) (q0 := 10) rfl rfl) [10, 11] [0, 1, 2, 3, 4, 5, 6, 7, 8, 9, 12] rfl rfl (by decide) (by decide) (by decide) rfl hl.1 rfl (Nat.le_of_ble_eq_true rfl) dL_law_892 ⟨(by show _ ≤ 601024; omega), (by show _ ≤ 7293034; omega)⟩ (fun u_2 H locs hu9 hP hD hS hz => ?_)
    have hP : va_P D vwCl ([xObj a tc rc ro, xArr (t 0) (a 1) 30 (xN F), xArr (t 0) (a 2) 30 (xN T), xArr (t 0) (a 3) 30 L, xArr (t 1) (a 4) 30 (xB Z), xArr (t 0) (a 5) 12 E, xArr (t 0) (a 6) 144 B, xArr (t 0) (a 7) 12 X, xArr (t 0) (a 8) 12 R, xArr (t 0) (a 9) 12 N, xMod mb (nI (c2 (kAt tc (earM F T L Z tc rc 12) p0))) tc rc, xArr (t 0) (mb 1) 120 (mkM F T L Z), xLng (t 2) o 1 (vp_updL f 0 (Int32.toInt64 (atF E tc (ix p0) tc 0)))]) H := hP.sub [0, 1, 2, 3, 4, 5, 6, 7, 8, 9, 11, 12, 10] rfl
    have hD : va_D _ ([xObj a tc rc ro, xArr (t 0) (a 1) 30 (xN F), xArr (t 0) (a 2) 30 (xN T), xArr (t 0) (a 3) 30 L, xArr (t 1) (a 4) 30 (xB Z), xArr (t 0) (a 5) 12 E, xArr (t 0) (a 6) 144 B, xArr (t 0) (a 7) 12 X, xArr (t 0) (a 8) 12 R, xArr (t 0) (a 9) 12 N, xMod mb (nI (c2 (kAt tc (earM F T L Z tc rc 12) p0))) tc rc, xArr (t 0) (mb 1) 120 (mkM F T L Z), xLng (t 2) o 1 (vp_updL f 0 (Int32.toInt64 (atF E tc (ix p0) tc 0)))]) := hD.sub [0, 1, 2, 3, 4, 5, 6, 7, 8, 9, 11, 12, 10] (by decide) rfl
    have hkk : c2 (kAt tc (earM F T L Z tc rc 12) p0) = c2 (kAt tc ro p0) := (by rw [← hro])
    have hkm : c2 (kAt tc (earM F T L Z tc rc 12) p0) = 0 := by rw [hkk]; first | exact hk0 | (rw [hk0]; rfl)
    rw [hkm] at hP hD
    have hP : va_P D vwCl ([xObj a tc rc ro, xArr (t 0) (a 1) 30 (xN F), xArr (t 0) (a 2) 30 (xN T), xArr (t 0) (a 3) 30 L, xArr (t 1) (a 4) 30 (xB Z), xArr (t 0) (a 5) 12 E, xArr (t 0) (a 6) 144 B, xArr (t 0) (a 7) 12 X, xArr (t 0) (a 8) 12 R, xArr (t 0) (a 9) 12 N, xMod mb 0 tc rc, xArr (t 0) (mb 1) 120 (mkM F T L Z), xLng (t 2) o 1 (vp_updL f 0 (Int32.toInt64 (atF E tc (ix p0) tc 0)))]) H := hP
    have hD : va_D _ ([xObj a tc rc ro, xArr (t 0) (a 1) 30 (xN F), xArr (t 0) (a 2) 30 (xN T), xArr (t 0) (a 3) 30 L, xArr (t 1) (a 4) 30 (xB Z), xArr (t 0) (a 5) 12 E, xArr (t 0) (a 6) 144 B, xArr (t 0) (a 7) 12 X, xArr (t 0) (a 8) 12 R, xArr (t 0) (a 9) 12 N, xMod mb 0 tc rc, xArr (t 0) (mb 1) 120 (mkM F T L Z), xLng (t 2) o 1 (vp_updL f 0 (Int32.toInt64 (atF E tc (ix p0) tc 0)))]) := hD
    refine x_top (w := atF E tc (ix p0) tc 0) (by rw [if_pos hkm]; exact q_at hI (ix p0)) ?_
    refine lv_istore (lv' := [(6, .int (atF E tc (ix p0) tc 0)), (5, .int 0), (4, .int (nI (4 * j))), (3, .ref o), (2, .ref (mb 0)), (1, .ref (a 0)), (0, .ref bs)]) hx hb dL_law_895 hl (by decide) rfl (fun ls hl => ?_)
    refine lv_aload_n hx hb dL_law_897 rfl (lv_at hl 4 rfl) ?_
    refine xr_V (b := mb 0) (As := []) (rest := []) ⟨hx, hb, hml, hown, hts⟩ (c_X1_thrown l D t mb 0 tc rc ) (cwV 0 hts gL_law_X1_thrown rfl rfl rfl hd_X1_thrown ⟨Nat.le_of_ble_eq_true rfl, Nat.le_of_ble_eq_true rfl⟩) hK hP (va_recv hK hP (ci := 1) (q0 := 10) rfl rfl) [10] rfl rfl hl.1 rfl (Nat.le_of_ble_eq_true rfl) dL_law_898 ⟨(by show _ ≤ 601024; omega), (by show _ ≤ 7293034; omega)⟩ ?_
    refine x_top (w := 0) rfl ?_
    refine lv_iload hx hb dL_law_901 (lv_at hl 1 rfl) ?_
    refine lv_icmp_eq (tgt := 908) hx hb dL_law_903 (by decide) (fun c_3 => ?_) (fun c_3 => ?_)
    rotate_left
    · exact False.elim (by revert c_3; decide)
    refine lv_iload hx hb dL_law_908 (lv_at hl 1 rfl) ?_
    refine lv_if_ne (tgt := 925) hx hb dL_law_910 (by decide) (fun c_4 => ?_) (fun c_4 => ?_)
    · exact False.elim (by revert c_4; decide)
    refine lv_aload_n hx hb dL_law_913 rfl (lv_at hl 3 rfl) ?_
    refine lv_iconst (v := 0) hx hb dL_law_914 (by decide) ?_
    refine x_lald hx hb hK hP 12 2 rfl rfl (k := 0) (Nat.le_of_ble_eq_true rfl) (Nat.le_of_ble_eq_true rfl) dL_law_915 ?_
    refine x_topL (w := Int32.toInt64 (atF E tc (ix p0) tc 0)) rfl ?_
    refine lv_iload hx hb dL_law_916 (lv_at hl 0 rfl) ?_
    refine lv_i2l (x := atF E tc (ix p0) tc 0) (v := Int32.toInt64 (atF E tc (ix p0) tc 0)) hx hb dL_law_918 rfl ?_
    refine x_lcmp (v := 0) hx hb (lcmp_self _) dL_law_919 ?_
    refine lv_if_eq (tgt := 925) hx hb dL_law_920 (by decide) (fun c_5 => ?_) (fun c_5 => ?_)
    rotate_left
    · exact False.elim (by revert c_5; decide)
    refine lv_goto (tgt := 996) hx hb dL_law_925 (by decide) ?_
    refine W.widen (k := 20 + 1100 * j + 1100) (n := 1000 + 14000 * j + 14000) (by omega) (by omega) ?_
    exact hn tc rc F T L Z ro E B X R N 0 (vp_updL f 0 (Int32.toInt64 (atF E tc (ix p0) tc 0))) d0 hI hd0 _ _ hP hD hS _ (lv_sub hl [2, 3, 4, 5, 6] rfl)
set_option maxHeartbeats 4000000 in
set_option maxRecDepth 100000 in
theorem law_advise {p : Program} {l : Launch} {e : Env} {s : State} {m : MethodId} {below : List Frame} {meth : Method} {c : Code} {Q : State → Prop} {bs Ls : Nat} {xs : Nat → Int32} {D : va_G} {t sa a mb : Nat → Nat} {o j : Nat} (hV : lwEnv p l s m meth c bs Ls xs D t sa) (hj : 4 * j + 4 ≤ Ls) (hn : lwNext p l e s m below meth c Q bs D t a mb o j) {tc rc : Nat} {F T : Nat → Nat} {L : Nat → Int32} {Z : Nat → Bool} {ro : Int32} {E B X R N : Nat → Int32} {th : Int32} {f : Nat → Int64} {d0 : Drawn} (hI : xInv tc rc F T L Z ro E B) (hd0 : s.drawn.sameBut d0 lw_cs) {H : Heap} {locs : List Loc} (hP : va_P D vwCl (LWd t a mb o tc rc F T L Z ro E B X R N th f) H) (hD : va_D (fun q => s.heap.size ≤ q) (LWd t a mb o tc rc F T L Z ro E B X R N th f)) (hS : va_S (fun q => s.heap.size ≤ q) s.heap H locs) {ls : Array Slot} (hl : lv_has ls 9 [(4, .int (nI (4 * j))), (3, .ref o), (2, .ref (mb 0)), (1, .ref (a 0)), (0, .ref bs)]) : W p l e room_1 (s.setDrawn d0) m #[Value.ref bs] below meth c H locs (20 + 1100 * j) (1000 + 14000 * j) Q (F0 m 928 ls []) := by
  obtain ⟨hx, hb, hml, hown, hts0, hXs, hbl, hlocks, hK, hXL, hXX, hfl, hLs⟩ := hV
  obtain ⟨htc, hrc, hF, hL9, hro, hE, hB⟩ := id hI
  have hts := dr_words hts0 d0
  have hown : (s.setDrawn d0).vm.findClass RL = some m.cls := hown
  have hK : va_K D vwCl (xTy t) (s.setDrawn d0) := hK
  have hXs : va_X bs Ls xs (s.setDrawn d0) (s.setDrawn d0).heap := hXs
  have hS : va_S (fun q => s.heap.size ≤ q) (s.setDrawn d0).heap H locs := hS
  have hbl : bs < (s.setDrawn d0).heap.size := hbl
  have hXL : xTl s.heap.size sa (s.setDrawn d0) := xTl.trav _ _ s (s.setDrawn d0) rfl rfl hXL
  have hXX : va_AOA .int (s.setDrawn d0) := aoT s (s.setDrawn d0) rfl rfl hXX
  have hbA : ¬ (fun q : Nat => s.heap.size ≤ q) bs := Nat.not_le.mpr hbl
  have hA : ∀ q : Nat, s.heap.size ≤ q → (fun q : Nat => s.heap.size ≤ q) q := fun _ h => h
  refine lv_aload_n hx hb dL_law_928 rfl (lv_at hl 3 rfl) ?_
  refine xm_V (b := a 0) (As := []) (rest := []) (wr := [xArr (t 0) (a 6) 144 B, xArr (t 0) (a 8) 12 R, xArr (t 0) (a 9) 12 N, xMod mb th tc rc, xArr (t 0) (mb 1) 120 (mkM F T L Z), xLng (t 2) o 1 f]) ⟨hx, hb, hml, hown, hts⟩ xTrav_T (c_X0_advise l D t a tc rc ro F T L Z E X _ htc hrc hF) (cwV 0 hts gL_law_X0_advise rfl rfl rfl hd_X0_advise ⟨Nat.le_of_ble_eq_true rfl, Nat.le_of_ble_eq_true rfl⟩) hK hP hD hS hA (fun _ _ _ => trivial) (va_recv hK hP (ci := 0) (q0 := 0) rfl rfl) [0, 1, 2, 3, 4, 5, 7] [6, 8, 9, 10, 11, 12] rfl rfl (by decide) (by decide) (by decide) rfl hl.1 rfl (Nat.le_of_ble_eq_true rfl) dL_law_929 ⟨(by show _ ≤ 601024; omega), (by show _ ≤ 7293034; omega)⟩ (fun u_1 H locs hu9 hP hD hS hz => ?_)
  have hP : va_P D vwCl ([xObj a tc rc ro, xArr (t 0) (a 1) 30 (xN F), xArr (t 0) (a 2) 30 (xN T), xArr (t 0) (a 3) 30 L, xArr (t 1) (a 4) 30 (xB Z), xArr (t 0) (a 5) 12 E, xArr (t 0) (a 6) 144 B, xArr (t 0) (a 7) 12 u_1, xArr (t 0) (a 8) 12 R, xArr (t 0) (a 9) 12 N, xMod mb th tc rc, xArr (t 0) (mb 1) 120 (mkM F T L Z), xLng (t 2) o 1 f]) H := hP.sub [6, 7, 8, 9, 10, 11, 0, 12, 1, 2, 3, 4, 5] rfl
  have hD : va_D _ ([xObj a tc rc ro, xArr (t 0) (a 1) 30 (xN F), xArr (t 0) (a 2) 30 (xN T), xArr (t 0) (a 3) 30 L, xArr (t 1) (a 4) 30 (xB Z), xArr (t 0) (a 5) 12 E, xArr (t 0) (a 6) 144 B, xArr (t 0) (a 7) 12 u_1, xArr (t 0) (a 8) 12 R, xArr (t 0) (a 9) 12 N, xMod mb th tc rc, xArr (t 0) (mb 1) 120 (mkM F T L Z), xLng (t 2) o 1 f]) := hD.sub [6, 7, 8, 9, 10, 11, 0, 12, 1, 2, 3, 4, 5] (by decide) rfl
  refine lv_aload_n hx hb dL_law_932 rfl (lv_at hl 2 rfl) ?_
  refine xm_V (b := mb 0) (As := []) (rest := [.int (advC ro E F T L Z tc rc)]) (wr := [xObj a tc rc ro, xArr (t 0) (a 1) 30 (xN F), xArr (t 0) (a 2) 30 (xN T), xArr (t 0) (a 3) 30 L, xArr (t 1) (a 4) 30 (xB Z), xArr (t 0) (a 5) 12 E, xArr (t 0) (a 6) 144 B, xArr (t 0) (a 7) 12 u_1, xArr (t 0) (a 8) 12 R, xArr (t 0) (a 9) 12 N, xLng (t 2) o 1 f]) ⟨hx, hb, hml, hown, hts⟩ aoT (c_X1_advise l D t mb th tc rc F T L Z _ htc hrc hF) (cwV 0 hts gL_law_X1_advise rfl rfl rfl hd_X1_advise ⟨Nat.le_of_ble_eq_true rfl, Nat.le_of_ble_eq_true rfl⟩) hK hP hD hS hA (fun U hW hU => va_AOA.moved hW.alike hXX) (va_recv hK hP (ci := 1) (q0 := 10) rfl rfl) [10, 11] [0, 1, 2, 3, 4, 5, 6, 7, 8, 9, 12] rfl rfl (by decide) (by decide) (by decide) rfl hl.1 rfl (Nat.le_of_ble_eq_true rfl) dL_law_933 ⟨(by show _ ≤ 601024; omega), (by show _ ≤ 7293034; omega)⟩ (fun u_2 H locs hu9 hP hD hS hz => ?_)
  have hP : va_P D vwCl ([xObj a tc rc ro, xArr (t 0) (a 1) 30 (xN F), xArr (t 0) (a 2) 30 (xN T), xArr (t 0) (a 3) 30 L, xArr (t 1) (a 4) 30 (xB Z), xArr (t 0) (a 5) 12 E, xArr (t 0) (a 6) 144 B, xArr (t 0) (a 7) 12 u_1, xArr (t 0) (a 8) 12 R, xArr (t 0) (a 9) 12 N, xMod mb 0 tc rc, xArr (t 0) (mb 1) 120 (mkM F T L Z), xLng (t 2) o 1 f]) H := hP.sub [0, 1, 2, 3, 4, 5, 6, 7, 8, 9, 11, 12, 10] rfl
  have hD : va_D _ ([xObj a tc rc ro, xArr (t 0) (a 1) 30 (xN F), xArr (t 0) (a 2) 30 (xN T), xArr (t 0) (a 3) 30 L, xArr (t 1) (a 4) 30 (xB Z), xArr (t 0) (a 5) 12 E, xArr (t 0) (a 6) 144 B, xArr (t 0) (a 7) 12 u_1, xArr (t 0) (a 8) 12 R, xArr (t 0) (a 9) 12 N, xMod mb 0 tc rc, xArr (t 0) (mb 1) 120 (mkM F T L Z), xLng (t 2) o 1 f]) := hD.sub [0, 1, 2, 3, 4, 5, 6, 7, 8, 9, 11, 12, 10] (by decide) rfl
  refine x_top (w := advC ro E F T L Z tc rc) (q_adv hI) ?_
  refine lv_icmp_eq (tgt := 996) hx hb dL_law_936 (by decide) (fun _ => ?_) (fun h9 => absurd rfl h9)
  refine W.widen (k := 20 + 1100 * j + 1100) (n := 1000 + 14000 * j + 14000) (by omega) (by omega) ?_
  exact hn tc rc F T L Z ro E B u_1 R N 0 f d0 hI hd0 _ _ hP hD hS _ (lv_sub hl [0, 1, 2, 3, 4] rfl)
set_option maxHeartbeats 4000000 in
set_option maxRecDepth 100000 in
theorem law_mean {p : Program} {l : Launch} {e : Env} {s : State} {m : MethodId} {below : List Frame} {meth : Method} {c : Code} {Q : State → Prop} {bs Ls : Nat} {xs : Nat → Int32} {D : va_G} {t sa a mb : Nat → Nat} {o j : Nat} (hV : lwEnv p l s m meth c bs Ls xs D t sa) (hj : 4 * j + 4 ≤ Ls) (hn : lwNext p l e s m below meth c Q bs D t a mb o j) {tc rc : Nat} {F T : Nat → Nat} {L : Nat → Int32} {Z : Nat → Bool} {ro : Int32} {E B X R N : Nat → Int32} {th : Int32} {f : Nat → Int64} {d0 : Drawn} (hI : xInv tc rc F T L Z ro E B) (hd0 : s.drawn.sameBut d0 lw_cs) {H : Heap} {locs : List Loc} (hP : va_P D vwCl (LWd t a mb o tc rc F T L Z ro E B X R N th f) H) (hD : va_D (fun q => s.heap.size ≤ q) (LWd t a mb o tc rc F T L Z ro E B X R N th f)) (hS : va_S (fun q => s.heap.size ≤ q) s.heap H locs) {ls : Array Slot} (hl : lv_has ls 9 [(4, .int (nI (4 * j))), (3, .ref o), (2, .ref (mb 0)), (1, .ref (a 0)), (0, .ref bs)]) : W p l e room_1 (s.setDrawn d0) m #[Value.ref bs] below meth c H locs (20 + 1100 * j) (1000 + 14000 * j) Q (F0 m 941 ls []) := by
  obtain ⟨hx, hb, hml, hown, hts0, hXs, hbl, hlocks, hK, hXL, hXX, hfl, hLs⟩ := hV
  obtain ⟨htc, hrc, hF, hL9, hro, hE, hB⟩ := id hI
  have hts := dr_words hts0 d0
  have hown : (s.setDrawn d0).vm.findClass RL = some m.cls := hown
  have hK : va_K D vwCl (xTy t) (s.setDrawn d0) := hK
  have hXs : va_X bs Ls xs (s.setDrawn d0) (s.setDrawn d0).heap := hXs
  have hS : va_S (fun q => s.heap.size ≤ q) (s.setDrawn d0).heap H locs := hS
  have hbl : bs < (s.setDrawn d0).heap.size := hbl
  have hXL : xTl s.heap.size sa (s.setDrawn d0) := xTl.trav _ _ s (s.setDrawn d0) rfl rfl hXL
  have hXX : va_AOA .int (s.setDrawn d0) := aoT s (s.setDrawn d0) rfl rfl hXX
  have hbA : ¬ (fun q : Nat => s.heap.size ≤ q) bs := Nat.not_le.mpr hbl
  have hA : ∀ q : Nat, s.heap.size ≤ q → (fun q : Nat => s.heap.size ≤ q) q := fun _ h => h
  refine lv_aload_n hx hb dL_law_941 rfl (lv_at hl 3 rfl) ?_
  refine xd_V (b := a 0) (As := []) (rest := []) ⟨hx, hb, hml, hown, hts⟩ (c_X0_mean l D t a tc rc ro E htc) (cwV 0 hts gL_law_X0_mean rfl rfl rfl hd_X0_mean ⟨Nat.le_of_ble_eq_true rfl, Nat.le_of_ble_eq_true rfl⟩) hK hP (va_recv hK hP (ci := 0) (q0 := 0) rfl rfl) [0, 5] rfl rfl hl.1 rfl (Nat.le_of_ble_eq_true rfl) dL_law_942 ⟨(by show _ ≤ 601024; omega), (by show _ ≤ 7293034; omega)⟩ (fun r1 d1 hal1 hd1 => ?_)
  have hts := dr_words (fun w h => hts0 w h) d1
  have hd1 : s.drawn.sameBut d1 lw_cs := Drawn.sameBut.trans hd0 hd1
  refine lv_dstore (lv' := [(5, .double r1), (4, .int (nI (4 * j))), (3, .ref o), (2, .ref (mb 0)), (1, .ref (a 0)), (0, .ref bs)]) hx hb dL_law_945 hl (by decide) rfl (fun ls hl => ?_)
  refine lv_aload_n hx hb dL_law_947 rfl (lv_at hl 3 rfl) ?_
  refine xmd_V (b := mb 0) (As := []) (rest := []) (wr := [xObj a tc rc ro, xArr (t 0) (a 1) 30 (xN F), xArr (t 0) (a 2) 30 (xN T), xArr (t 0) (a 3) 30 L, xArr (t 1) (a 4) 30 (xB Z), xArr (t 0) (a 5) 12 E, xArr (t 0) (a 6) 144 B, xArr (t 0) (a 7) 12 X, xArr (t 0) (a 8) 12 R, xArr (t 0) (a 9) 12 N, xLng (t 2) o 1 f]) ⟨hx, hb, hml, hown, hts⟩ aoT (c_X1_mean l D t mb th tc rc F T L Z _ htc hrc hF) (cwV 0 hts gL_law_X1_mean rfl rfl rfl hd_X1_mean ⟨Nat.le_of_ble_eq_true rfl, Nat.le_of_ble_eq_true rfl⟩) hK hP hD hS hA (fun U hW hU => va_AOA.moved hW.alike hXX) (va_recv hK hP (ci := 1) (q0 := 10) rfl rfl) [10, 11] [0, 1, 2, 3, 4, 5, 6, 7, 8, 9, 12] rfl rfl (by decide) (by decide) (by decide) rfl hl.1 rfl (Nat.le_of_ble_eq_true rfl) dL_law_948 ⟨(by show _ ≤ 601024; omega), (by show _ ≤ 7293034; omega)⟩ (fun r2 d2 H locs hal2 hd2 hP hD hS hz => ?_)
  have hd2 : s.drawn.sameBut d2 lw_cs := Drawn.sameBut.trans hd1 hd2
  have hP : va_P D vwCl ([xObj a tc rc ro, xArr (t 0) (a 1) 30 (xN F), xArr (t 0) (a 2) 30 (xN T), xArr (t 0) (a 3) 30 L, xArr (t 1) (a 4) 30 (xB Z), xArr (t 0) (a 5) 12 E, xArr (t 0) (a 6) 144 B, xArr (t 0) (a 7) 12 X, xArr (t 0) (a 8) 12 R, xArr (t 0) (a 9) 12 N, xMod mb 0 tc rc, xArr (t 0) (mb 1) 120 (mkM F T L Z), xLng (t 2) o 1 f]) H := hP.sub [0, 1, 2, 3, 4, 5, 6, 7, 8, 9, 11, 12, 10] rfl
  have hD : va_D _ ([xObj a tc rc ro, xArr (t 0) (a 1) 30 (xN F), xArr (t 0) (a 2) 30 (xN T), xArr (t 0) (a 3) 30 L, xArr (t 1) (a 4) 30 (xB Z), xArr (t 0) (a 5) 12 E, xArr (t 0) (a 6) 144 B, xArr (t 0) (a 7) 12 X, xArr (t 0) (a 8) 12 R, xArr (t 0) (a 9) 12 N, xMod mb 0 tc rc, xArr (t 0) (mb 1) 120 (mkM F T L Z), xLng (t 2) o 1 f]) := hD.sub [0, 1, 2, 3, 4, 5, 6, 7, 8, 9, 11, 12, 10] (by decide) rfl
  refine lv_dstore (lv' := [(7, .double r2), (5, .double r1), (4, .int (nI (4 * j))), (3, .ref o), (2, .ref (mb 0)), (1, .ref (a 0)), (0, .ref bs)]) hx hb dL_law_951 hl (by decide) rfl (fun ls hl => ?_)
  rw [q_mean hI] at hal2
  rcases two_alike hal1 hal2 with hq | ⟨hq1, hq2⟩
  · refine lv_dload hx hb dL_law_953 (lv_at hl 1 rfl) ?_
    refine lv_dload hx hb dL_law_955 (lv_at hl 0 rfl) ?_
    refine lv_dcmp hx hb dL_law_957 ?_
    refine lv_if_eq (tgt := 979) hx hb dL_law_958 (by decide) (fun _ => ?_) (fun h9 => absurd hq h9)
    refine lv_goto (tgt := 996) hx hb dL_law_979 (by decide) ?_
    refine W.widen (k := 20 + 1100 * j + 1100) (n := 1000 + 14000 * j + 14000) (by omega) (by omega) ?_
    exact hn tc rc F T L Z ro E B X R N 0 f d2 hI hd2 _ _ hP hD hS _ (lv_sub hl [2, 3, 4, 5, 6] rfl)
  · refine lv_dload hx hb dL_law_953 (lv_at hl 1 rfl) ?_
    refine lv_dload hx hb dL_law_955 (lv_at hl 0 rfl) ?_
    refine lv_dcmp hx hb dL_law_957 ?_
    refine lv_if_eq (tgt := 979) hx hb dL_law_958 (by decide) (fun _ => ?_) (fun _ => ?_)
    · refine lv_goto (tgt := 996) hx hb dL_law_979 (by decide) ?_
      refine W.widen (k := 20 + 1100 * j + 1100) (n := 1000 + 14000 * j + 14000) (by omega) (by omega) ?_
      exact hn tc rc F T L Z ro E B X R N 0 f d2 hI hd2 _ _ hP hD hS _ (lv_sub hl [2, 3, 4, 5, 6] rfl)
    · refine lv_dload hx hb dL_law_961 (lv_at hl 1 rfl) ?_
      refine lv_dload hx hb dL_law_963 (lv_at hl 1 rfl) ?_
      refine lv_dcmp hx hb dL_law_965 ?_
      refine lv_if_eq (tgt := 977) hx hb dL_law_966 (by decide) (fun h9 => absurd h9 hq1) (fun _ => ?_)
      refine lv_dload hx hb dL_law_969 (lv_at hl 0 rfl) ?_
      refine lv_dload hx hb dL_law_971 (lv_at hl 0 rfl) ?_
      refine lv_dcmp hx hb dL_law_973 ?_
      refine lv_if_ne (tgt := 979) hx hb dL_law_974 (by decide) (fun _ => ?_) (fun h9 => absurd h9 hq2)
      refine lv_goto (tgt := 996) hx hb dL_law_979 (by decide) ?_
      refine W.widen (k := 20 + 1100 * j + 1100) (n := 1000 + 14000 * j + 14000) (by omega) (by omega) ?_
      exact hn tc rc F T L Z ro E B X R N 0 f d2 hI hd2 _ _ hP hD hS _ (lv_sub hl [2, 3, 4, 5, 6] rfl)
set_option maxHeartbeats 4000000 in
set_option maxRecDepth 100000 in
theorem law_digest {p : Program} {l : Launch} {e : Env} {s : State} {m : MethodId} {below : List Frame} {meth : Method} {c : Code} {Q : State → Prop} {bs Ls : Nat} {xs : Nat → Int32} {D : va_G} {t sa a mb : Nat → Nat} {o j : Nat} (hV : lwEnv p l s m meth c bs Ls xs D t sa) (hj : 4 * j + 4 ≤ Ls) (hn : lwNext p l e s m below meth c Q bs D t a mb o j) {tc rc : Nat} {F T : Nat → Nat} {L : Nat → Int32} {Z : Nat → Bool} {ro : Int32} {E B X R N : Nat → Int32} {th : Int32} {f : Nat → Int64} {d0 : Drawn} (hI : xInv tc rc F T L Z ro E B) (hd0 : s.drawn.sameBut d0 lw_cs) {H : Heap} {locs : List Loc} (hP : va_P D vwCl (LWd t a mb o tc rc F T L Z ro E B X R N th f) H) (hD : va_D (fun q => s.heap.size ≤ q) (LWd t a mb o tc rc F T L Z ro E B X R N th f)) (hS : va_S (fun q => s.heap.size ≤ q) s.heap H locs) {ls : Array Slot} (hl : lv_has ls 9 [(4, .int (nI (4 * j))), (3, .ref o), (2, .ref (mb 0)), (1, .ref (a 0)), (0, .ref bs)]) : W p l e room_1 (s.setDrawn d0) m #[Value.ref bs] below meth c H locs (20 + 1100 * j) (1000 + 14000 * j) Q (F0 m 982 ls []) := by
  obtain ⟨hx, hb, hml, hown, hts0, hXs, hbl, hlocks, hK, hXL, hXX, hfl, hLs⟩ := hV
  obtain ⟨htc, hrc, hF, hL9, hro, hE, hB⟩ := id hI
  have hts := dr_words hts0 d0
  have hown : (s.setDrawn d0).vm.findClass RL = some m.cls := hown
  have hK : va_K D vwCl (xTy t) (s.setDrawn d0) := hK
  have hXs : va_X bs Ls xs (s.setDrawn d0) (s.setDrawn d0).heap := hXs
  have hS : va_S (fun q => s.heap.size ≤ q) (s.setDrawn d0).heap H locs := hS
  have hbl : bs < (s.setDrawn d0).heap.size := hbl
  have hXL : xTl s.heap.size sa (s.setDrawn d0) := xTl.trav _ _ s (s.setDrawn d0) rfl rfl hXL
  have hXX : va_AOA .int (s.setDrawn d0) := aoT s (s.setDrawn d0) rfl rfl hXX
  have hbA : ¬ (fun q : Nat => s.heap.size ≤ q) bs := Nat.not_le.mpr hbl
  have hA : ∀ q : Nat, s.heap.size ≤ q → (fun q : Nat => s.heap.size ≤ q) q := fun _ h => h
  have haN9 := xAd_ge (fun k hk => ten_ge hD k hk)
  refine lv_aload_n hx hb dL_law_982 rfl (lv_at hl 3 rfl) ?_
  refine xmt_V (b := a 0) (As := []) (rest := []) (wr := [xArr (t 0) (a 7) 12 X, xMod mb th tc rc, xArr (t 0) (mb 1) 120 (mkM F T L Z), xLng (t 2) o 1 f]) ⟨hx, hb, hml, hown, hts⟩ (xTh.trav _ _) (c_X0_digest l hfl D t (xAd (a 0) (a 1) (a 2) (a 3) (a 4) (a 5) (a 6) (a 7) (a 8) (a 9)) tc rc ro F T L Z E B R N s.heap.size sa _ htc hrc hF haN9 hS.1) (cwV 0 hts gL_law_X0_digest rfl rfl rfl hd_X0_digest ⟨Nat.le_of_ble_eq_true rfl, Nat.le_of_ble_eq_true rfl⟩) hK hP hD hS hA (fun U hW hU => xTh.warm hW (fun q h1 h2 => by rw [hU]; exact hS.2.1 q h1 h2) hXL.1) (va_recv hK hP (ci := 0) (q0 := 0) rfl rfl) [0, 1, 2, 3, 4, 5, 6, 8, 9] [7, 10, 11, 12] rfl rfl (by decide) (by decide) (by decide) rfl hl.1 rfl (Nat.le_of_ble_eq_true rfl) dL_law_983 ⟨(by show _ ≤ 601024; omega), (by show _ ≤ 7293034; omega)⟩ (fun E9 ce9 q9 H9 locs9 hbad hz9 hk9 hS9 hce9 hv9 hcl9 => hbad.elim) (fun v9 H locs ok9 hP hD hS hz => ?_)
  have hP : va_P D vwCl ([xObj a tc rc ro, xArr (t 0) (a 1) 30 (xN F), xArr (t 0) (a 2) 30 (xN T), xArr (t 0) (a 3) 30 L, xArr (t 1) (a 4) 30 (xB Z), xArr (t 0) (a 5) 12 E, xArr (t 0) (a 6) 144 B, xArr (t 0) (a 7) 12 X, xArr (t 0) (a 8) 12 v9.1, xArr (t 0) (a 9) 12 v9.2, xMod mb th tc rc, xArr (t 0) (mb 1) 120 (mkM F T L Z), xLng (t 2) o 1 f]) H := hP.sub [4, 5, 6, 7, 8, 9, 10, 0, 11, 12, 1, 2, 3] rfl
  have hD : va_D _ ([xObj a tc rc ro, xArr (t 0) (a 1) 30 (xN F), xArr (t 0) (a 2) 30 (xN T), xArr (t 0) (a 3) 30 L, xArr (t 1) (a 4) 30 (xB Z), xArr (t 0) (a 5) 12 E, xArr (t 0) (a 6) 144 B, xArr (t 0) (a 7) 12 X, xArr (t 0) (a 8) 12 v9.1, xArr (t 0) (a 9) 12 v9.2, xMod mb th tc rc, xArr (t 0) (mb 1) 120 (mkM F T L Z), xLng (t 2) o 1 f]) := hD.sub [4, 5, 6, 7, 8, 9, 10, 0, 11, 12, 1, 2, 3] (by decide) rfl
  refine lv_aload_n hx hb dL_law_986 rfl (lv_at hl 2 rfl) ?_
  refine xm_V (b := mb 0) (As := []) (rest := [.long (dgF ro E B F T L Z tc rc)]) (wr := [xObj a tc rc ro, xArr (t 0) (a 1) 30 (xN F), xArr (t 0) (a 2) 30 (xN T), xArr (t 0) (a 3) 30 L, xArr (t 1) (a 4) 30 (xB Z), xArr (t 0) (a 5) 12 E, xArr (t 0) (a 6) 144 B, xArr (t 0) (a 7) 12 X, xArr (t 0) (a 8) 12 v9.1, xArr (t 0) (a 9) 12 v9.2, xLng (t 2) o 1 f]) ⟨hx, hb, hml, hown, hts⟩ aoT (c_X1_digest l D t mb th tc rc F T L Z _ htc hrc hF) (cwV 0 hts gL_law_X1_digest rfl rfl rfl hd_X1_digest ⟨Nat.le_of_ble_eq_true rfl, Nat.le_of_ble_eq_true rfl⟩) hK hP hD hS hA (fun U hW hU => va_AOA.moved hW.alike hXX) (va_recv hK hP (ci := 1) (q0 := 10) rfl rfl) [10, 11] [0, 1, 2, 3, 4, 5, 6, 7, 8, 9, 12] rfl rfl (by decide) (by decide) (by decide) rfl hl.1 rfl (Nat.le_of_ble_eq_true rfl) dL_law_987 ⟨(by show _ ≤ 601024; omega), (by show _ ≤ 7293034; omega)⟩ (fun u_1 H locs hu9 hP hD hS hz => ?_)
  have hP : va_P D vwCl ([xObj a tc rc ro, xArr (t 0) (a 1) 30 (xN F), xArr (t 0) (a 2) 30 (xN T), xArr (t 0) (a 3) 30 L, xArr (t 1) (a 4) 30 (xB Z), xArr (t 0) (a 5) 12 E, xArr (t 0) (a 6) 144 B, xArr (t 0) (a 7) 12 X, xArr (t 0) (a 8) 12 v9.1, xArr (t 0) (a 9) 12 v9.2, xMod mb 0 tc rc, xArr (t 0) (mb 1) 120 (mkM F T L Z), xLng (t 2) o 1 f]) H := hP.sub [0, 1, 2, 3, 4, 5, 6, 7, 8, 9, 11, 12, 10] rfl
  have hD : va_D _ ([xObj a tc rc ro, xArr (t 0) (a 1) 30 (xN F), xArr (t 0) (a 2) 30 (xN T), xArr (t 0) (a 3) 30 L, xArr (t 1) (a 4) 30 (xB Z), xArr (t 0) (a 5) 12 E, xArr (t 0) (a 6) 144 B, xArr (t 0) (a 7) 12 X, xArr (t 0) (a 8) 12 v9.1, xArr (t 0) (a 9) 12 v9.2, xMod mb 0 tc rc, xArr (t 0) (mb 1) 120 (mkM F T L Z), xLng (t 2) o 1 f]) := hD.sub [0, 1, 2, 3, 4, 5, 6, 7, 8, 9, 11, 12, 10] (by decide) rfl
  refine x_topL (w := dgF ro E B F T L Z tc rc) (q_dg hI) ?_
  refine x_lcmp (v := 0) hx hb (lcmp_self _) dL_law_990 ?_
  refine lv_if_eq (tgt := 996) hx hb dL_law_991 (by decide) (fun c_2 => ?_) (fun c_2 => ?_)
  rotate_left
  · exact False.elim (by revert c_2; decide)
  refine W.widen (k := 20 + 1100 * j + 1100) (n := 1000 + 14000 * j + 14000) (by omega) (by omega) ?_
  exact hn tc rc F T L Z ro E B X v9.1 v9.2 0 f d0 hI hd0 _ _ hP hD hS _ (lv_sub hl [0, 1, 2, 3, 4] rfl)
