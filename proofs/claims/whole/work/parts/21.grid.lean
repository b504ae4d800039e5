theorem va_cl_ {own a b : String} {i : Nat} {args : Array Value} {s : State} (e : a = b) (h : (Cond.classLink own i b).before args s = true) : (Cond.classLink own i a).before args s = true := by rw [e]; exact h
section XGN
variable {p : Program} {l : Launch} {e : Env} {R : Room} {s : State} {m : MethodId} {args : Array Value} {below : List Frame} {meth : Method} {c : Code} {H : Heap} {locs : List Loc} {cells slots : Nat} {Q : State → Prop}
variable {cc : ByteArray} {pc : Nat} {ls : Array Slot} {rest st0 : List Value} {D : va_G} {cl : List vw_C} {A0 A : Nat → Prop} {a : Nat} {ws : va_W} {H0 : Heap} {X : va_W} {t : Nat → ClassId}
theorem x_mna (hexec : p.tables.exec = Jvm.exec) (hb : c.code = cc) {own : String} {index : Nat} (hown : s.vm.findClass own = some m.cls) (hclink : (Cond.classLink own index "[[I").before args s = true) (hAO : va_AOA .int s) (harr : (Cond.arrayClass .int).before args s = true)
    (hK : va_K D cl (xTy t) s) (hP : va_P D cl X H) (hD : va_D A X) (hS : va_S A H0 H locs) (hA : ∀ q, H0.size ≤ q → A q) (hcells : cells + 13 ≤ R.cells) (hslots : slots + 156 ≤ R.slots) (hdg : decode cc pc = .ok (.multianewarray index 2, 4))
    (kk : ∀ (q : Nat) (r : Nat → Nat) (H1 : Heap), va_P D cl ((X ++ [xGo (t 3) q r]) ++ xGr (t 0) r (fun _ _ => 0)) H1 → va_D A ((X ++ [xGo (t 3) q r]) ++ xGr (t 0) r (fun _ _ => 0)) → va_S A H0 H1 locs →
      W p l e R s m args below meth c H1 locs (cells + 13) (slots + 156) Q (F0 m (pc + 4) ls (.ref q :: rest))) : W p l e R s m args below meth c H locs cells slots Q (F0 m pc ls (.int 12 :: .int 12 :: rest)) := by
  have hcy : s.vm.findClass (FieldType.array .int).toString = some (t 0) := (hK.2 0 (t 0, .int) rfl).2
  have hP0 : va_P D cl (X ++ va_pl [] (fun _ => .inr (0, []))) H := by
    show va_P D cl (X ++ []) H
    rw [List.append_nil]; exact hP
  have hD0 : va_D A (X ++ va_pl [] (fun _ => .inr (0, []))) := by
    show va_D A (X ++ [])
    rw [List.append_nil]; exact hD
  refine va_mna (cy := t 0) (ty := .int) (z := (12, .inl (fun _ => 0))) (N' := 12) (K' := 12) hexec hb hown (va_cl_ rfl hclink) hAO harr hcy hK hP0 hD0 hS hA (by decide) (by decide) (by decide) (by decide) (Nat.le_of_ble_eq_true rfl) (Nat.le_of_ble_eq_true rfl) (Nat.le_of_ble_eq_true rfl) rfl rfl hcells hslots (fun cA => (arrV_new _ _ _)) hdg (fun q r cA H1 hinj hnl hK2 hP2 hD2 hS2 => ?_)
  have h1 := (hK2.2 4 (cA, .array .int) rfl).2
  have h2 := (hK.2 3 (t 3, .array .int) rfl).2
  have he : cA = t 3 := va_RA_uniq (by intro C h; cases h) h1 h2
  subst he
  have hg : va_pl ([] ++ (List.range 12).map r) (vr_up (fun _ => .inr (0, [])) ((List.range 12).map r) (.inl (t 0, (12, .inl (fun _ => 0))))) = xGr (t 0) r (fun _ _ => 0) := by
    unfold va_pl xGr
    rw [List.nil_append, List.map_map]
    apply List.map_congr_left
    intro i hi
    show (r i, _) = _
    rw [vr_up_in (List.mem_map.mpr ⟨i, hi, rfl⟩)]
  rw [hg] at hP2 hD2
  exact kk q r H1 hP2 hD2 hS2
end XGN
theorem told_lt (F T : Nat → Nat) (L : Nat → Int32) (Z : Nat → Bool) (ro : Int32) (E : Nat → Int32) (r w : Nat) (h : w < 4) : mkM F T L Z (4 * r + w) = toldF ro E F T L Z r w := by
  rcases (by omega : w = 0 ∨ w = 1 ∨ w = 2 ∨ w = 3) with rfl | rfl | rfl | rfl
  · exact mkM_0 F T L Z r
  · exact mkM_1 F T L Z r
  · exact mkM_2 F T L Z r
  · exact mkM_3 F T L Z r
theorem told_4 (F T : Nat → Nat) (L : Nat → Int32) (Z : Nat → Bool) (ro : Int32) (E : Nat → Int32) (r w : Nat) (h : 4 ≤ w) (_ : w < 5) (x : Int32) (hx : x = bI (tightB ro E F T L Z r)) : x = toldF ro E F T L Z r w := by
  rw [hx, show w = 4 by omega]
  rfl
theorem countF_congr {P P' : Nat → Bool} {m : Nat} (h : ∀ j, j < m → P j = P' j) : ∀ n i k, i + n = m → countF P n i k = countF P' n i k
  | 0, _, _, _ => rfl
  | n + 1, i, k, hm => by
    show countF P n (i + 1) _ = countF P' n (i + 1) _
    rw [h i (by omega)]
    exact countF_congr h n (i + 1) _ (by omega)
theorem about_lt (F T : Nat → Nat) (L : Nat → Int32) (Z : Nat → Bool) (ro : Int32) (E : Nat → Int32) (v w rc tc : Nat) (hw : w < 3) (hw2 : ¬ w = 2) (hF : ∀ r, r < rc → F r < tc ∧ T r < tc) (htc : tc ≤ 12) (hv : v < tc) : nI (countF (fun r => Z r && decide (mkM F T L Z (4 * r + w) = nI v)) rc 0 0) = aboutF ro E F T Z rc v w := by
  rcases (by omega : w = 0 ∨ w = 1) with rfl | rfl
  · show nI _ = nI (countF _ rc 0 0)
    refine congrArg nI (countF_congr (m := rc) (fun j hj => ?_) rc 0 0 (by omega))
    rw [mkM_0]
    have := hF j hj
    congr 1
    exact decide_eq_decide.mpr (nI_eq (by omega) (by omega))
  · show nI _ = nI (countF _ rc 0 0)
    refine congrArg nI (countF_congr (m := rc) (fun j hj => ?_) rc 0 0 (by omega))
    rw [mkM_1]
    have := hF j hj
    congr 1
    exact decide_eq_decide.mpr (nI_eq (by omega) (by omega))
