theorem isIn_3 (x : Int32) : (!(decide (x < 0)) && !(decide (2 < x))) = inB x 3 := by
  have h := isIn_inB x 3 (by omega)
  rw [show (nI 3 - 1 : Int32) = 2 by decide] at h
  exact h
theorem isIn_5 (x : Int32) : (!(decide (x < 0)) && !(decide (4 < x))) = inB x 5 := by
  have h := isIn_inB x 5 (by omega)
  rw [show (nI 5 - 1 : Int32) = 4 by decide] at h
  exact h
theorem isIn_7 (x : Int32) : (!(decide (x < 0)) && !(decide (6 < x))) = inB x 7 := by
  have h := isIn_inB x 7 (by omega)
  rw [show (nI 7 - 1 : Int32) = 6 by decide] at h
  exact h
/-- the law's numbers of what is thrown: where the third is the second, or the first -/
def c2 (k : Nat) : Nat := if k = 3 then 2 else k
def c1 (k : Nat) : Nat := if k = 3 then 1 else k
theorem inB_ne {x y : Int32} {n a b : Nat} (ha : x = nI a) (hb : y = nI b) (h : ¬ a = b) (h1 : a < 2147483648) (h2 : b < 2147483648) : ¬ x = y := by
  rw [ha, hb]
  exact fun z => h ((nI_eq h1 h2).mp z)
section XCP
variable {p : Program} {l : Launch} {e : Env} {R : Room} {s : State} {m : MethodId} {args : Array Value} {below : List Frame} {meth : Method} {c : Code} {H : Heap} {locs : List Loc} {cells slots : Nat} {Q : State → Prop}
variable {cc : ByteArray} {pc : Nat} {ls : Array Slot} {rest st0 : List Value} {D : va_G} {cl : List vw_C} {A : Nat → Prop} {a : Nat} {tys : List (ClassId × FieldType)} {ws : va_W} {H0 : Heap}
/-- four numbers are copied into the rows -/
theorem x_copy4 {own : String} {index : Nat} (hexec : p.tables.exec = Jvm.exec) (hb : c.code = cc) (hml : c.maxLocals = ls.size) (hown : s.vm.findClass own = some m.cls) (hlink : (Cond.methodLink own index arraycopyName).before args s = true) (hnat : (Cond.native arraycopyName).before args s = true) (hstat : (Cond.static arraycopyName).before args s = true) (hini : (Cond.initialized "java/lang/System").before args s = true)
    (hK : va_K D cl tys s) (hP : va_P D cl ws H) (hD : va_D A ws) (hS : va_S A H0 H locs) (q0 q1 t0 : Nat) (ws' : va_W) {a0 rc ka kb : Nat} {cI : ClassId} {f : Nat → Int32} {F T : Nat → Nat} {L : Nat → Int32} {Z : Nat → Bool} {w : Int32} (ha0 : ws[q0]? = some (a0, .inl (cI, 4, .inl f))) (ha1 : ws[q1]? = some (a, .inl (cI, 120, .inl (mkM F T L Z)))) (ht0 : tys[t0]? = some (cI, .int))
    (h0 : f 0 = nI ka) (h1 : f 1 = nI kb) (h2 : f 2 = w) (h3 : f 3 = 1) (hrc : rc < 30) (hw : ws.set q1 (a, .inl (cI, 120, .inl (mkM (updN F rc ka) (updN T rc kb) (upd L rc w) (updB Z rc true)))) = ws')
    (hframes : 1 ≤ R.frames) (hlocals : (rest.map fun v => v.category).sum + (nativeFrameWords "java/lang/System" "arraycopy" 5 + 11) ≤ R.locals) (hdg : decode cc pc = .ok (.invokestatic index, 3))
    (kk : ∀ (H1 : Heap) (locs1 : List Loc), va_P D cl ws' H1 → va_D A ws' → va_S A H0 H1 locs1 → W p l e R s m args below meth c H1 locs1 cells slots Q (F0 m (pc + 3) ls rest)) : W p l e R s m args below meth c H locs cells slots Q (F0 m pc ls (.int 4 :: .int (nI (4 * rc)) :: .ref a :: .int 0 :: .ref a0 :: rest)) := by
  subst hw
  have hcl : (nI (4 * rc)).toNatClampNeg = 4 * rc := nI_clamp (by omega)
  refine va_copyi hexec hb hml hown hlink hnat hstat hini hK hP hD hS q0 q1 t0 t0 ha0 ha1 ht0 ht0 rfl (by decide) (nI_pos (by omega)) (by decide) (by decide) (by rw [hcl]; show 4 * rc + 4 ≤ 120; omega) (fun _ _ => rfl) hframes hlocals hdg (fun H1 locs1 hP1 hD1 hS1 => ?_)
  rw [hcl] at hP1 hD1
  have he : va_cpy f (mkM F T L Z) (Int32.toNatClampNeg 0) (4 * rc) (Int32.toNatClampNeg 4) = mkM (updN F rc ka) (updN T rc kb) (upd L rc w) (updB Z rc true) := mkM_tie F T L Z rc ka kb w f h0 h1 h2 h3
  rw [he] at hP1 hD1
  exact kk H1 locs1 hP1 hD1 hS1
end XCP
theorem nI_lit0 : nI 0 = 0 := rfl
theorem nI_lit1 : nI 1 = 1 := rfl
theorem nI_lit2 : nI 2 = 2 := rfl
theorem nI_lit3 : nI 3 = 3 := rfl
