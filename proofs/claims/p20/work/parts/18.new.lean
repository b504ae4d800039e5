/-! new arrays; final fields; methods that draw -/
def xAd (q0 q1 q2 q3 q4 q5 q6 q7 q8 q9 : Nat) : Nat → Nat
  | 0 => q0 | 1 => q1 | 2 => q2 | 3 => q3 | 4 => q4 | 5 => q5 | 6 => q6 | 7 => q7 | 8 => q8 | _ + 9 => q9
def xQd (X : UInt64) : Array Value → State → Outcome → State → Prop := fun _ st o t => ∃ r : UInt64, alike64 r X = true ∧ o = .returned (some (.double r)) ∧ t.heap = st.heap
def xQmd (D : va_G) (X : UInt64) (wc w1 : va_W) (sz : Nat) : Array Value → State → Outcome → State → Prop := fun _ st o t => ∃ r : UInt64, alike64 r X = true ∧ o = .returned (some (.double r)) ∧ va_P D vwCl w1 t.heap ∧ va_D (va_A wc sz) w1 ∧ va_F (va_A wc sz) st t
def sumF (E : Nat → Int32) : Nat → Nat → Int32 → Int32
  | 0, _, sm => sm
  | n + 1, i, sm => sumF E n (i + 1) (sm + E i)
def meanF (ro : Int32) (E : Nat → Int32) (tc : Nat) : UInt64 := if tc = 0 ∨ ro = -1 then FP.dconst0 else FP.ddiv (FP.i2d (sumF E tc 0 0)) (FP.i2d (nI tc))
theorem alike_rf (x : UInt64) : alike64 x x = true := by simp [alike64]
theorem va_RA_uniq {s : State} {c1 c2 : ClassId} {ty : FieldType} (hno : ∀ C, ty ≠ .object C) (h1 : va_RA s c1 ty) (h2 : va_RA s c2 ty) : c1 = c2 := by
  cases ty with
  | object C => exact absurd rfl (hno C)
  | _ => exact Option.some.inj (Eq.trans (Eq.symm h1) h2)
section XN
variable {p : Program} {l : Launch} {e : Env} {R : Room} {s : State} {m : MethodId} {args : Array Value} {below : List Frame} {meth : Method} {c : Code} {H : Heap} {locs : List Loc} {cells slots : Nat} {Q : State → Prop}
variable {cc : ByteArray} {pc : Nat} {ls : Array Slot} {rest st0 : List Value} {D : va_G} {cl : List vw_C} {A0 A : Nat → Prop} {a : Nat} {tys : List (ClassId × FieldType)} {ws : va_W} {H0 : Heap}
theorem x_newa (hexec : p.tables.exec = Jvm.exec) (hb : c.code = cc) {atype : ArrayType} (harr : (Cond.arrayClass (newarray.typeOf atype)).before args s = true) {ty : FieldType} (hty : newarray.typeOf atype = ty) (i0 : Nat) {cT : ClassId} (htys : tys[i0]? = some (cT, ty)) (hno : ∀ C, ty ≠ .object C) (hK : va_K D cl tys s) (hP : va_P D cl ws H) (hD : va_D A ws) (hS : va_S A H0 H locs) (hA : ∀ q, H0.size ≤ q → A q)
    {n : Int32} {N' : Nat} {a0 : vp_A} (ha : ∀ cA : ClassId, vp_cell cA a0 = arrV cA N' (fun _ => defaultValue ty)) (hn : ¬ n < 0) (hN : n.toNatClampNeg = N') (hbytes : N' * componentBytes ty ≤ 536870912) (hcells : cells + 1 ≤ R.cells) (hslots : slots + N' ≤ R.slots) (hdg : decode cc pc = .ok (.newarray atype, 2))
    (kk : ∀ (q : Nat) (H1 : Heap), va_P D cl (ws ++ [(q, .inl (cT, a0))]) H1 → va_D A (ws ++ [(q, .inl (cT, a0))]) → va_S A H0 H1 locs →
      W p l e R s m args below meth c H1 locs (cells + 1) (slots + N') Q (F0 m (pc + 2) ls (.ref q :: rest))) : W p l e R s m args below meth c H locs cells slots Q (F0 m pc ls (.int n :: rest)) := by
  refine va_newa hexec hb harr hty hK hP hD hS hA ha hn hN hbytes hcells hslots hdg (fun q cA H1 hK2 hP2 hD2 hS2 => ?_)
  have h1 := (hK2.2 tys.length (cA, ty) (by rw [List.getElem?_append_right (Nat.le_refl _), Nat.sub_self]; rfl)).2
  have h2 := (hK.2 i0 (cT, ty) htys).2
  have he : cA = cT := va_RA_uniq hno h1 h2
  subst he
  exact kk q H1 hP2 hD2 hS2
theorem x0_putF (hexec : p.tables.exec = Jvm.exec) (hb : c.code = cc) {Ts : List Cond} (hts : ∀ w ∈ Ts, w.before args s = true) (hin : ∀ w ∈ wsX00, w ∈ Ts) (hown : s.vm.findClass RX0 = some m.cls) (hK : va_K D vwCl tys s) (hP : va_P D vwCl ws H) (hD : va_D A ws) (hS : va_S A H0 H locs) (q0 : Nat) (ws' : va_W) {fs : List Value} (he : ws[q0]? = some (a, .inr (0, fs))) (k : Nat) (hk : k < 12) {index : Nat} (hlink : (Cond.fieldLink RX0 index "RopeTimes" (TX0 k).2.1 (TX0 k).2.2.1).before args s = true) (hfin : (TX0 k).2.2.2 = true) (hin2 : meth.name = "<init>") {ty : FieldType} {v : Value} (hd : parseFieldDescriptor (TX0 k).2.2.1 = some ty) (hn : narrow ty v = v) (hfit : fits ty v = true) (hl : k < fs.length) (hw : ws.set q0 (a, .inr (0, fs.set k v)) = ws') (hdg : decode cc pc = .ok (.putfield index, 3))
    (hdc : (TX0 k).1 = RX0) (kk : ∀ (H1 : Heap) (locs1 : List Loc), va_P D vwCl ws' H1 → va_D A ws' → va_S A H0 H1 locs1 → W p l e R s m args below meth c H1 locs1 cells slots Q (F0 m (pc + 3) ls rest)) : W p l e R s m args below meth c H locs cells slots Q (F0 m pc ls (v :: .ref a :: rest)) := by
  subst hw
  exact va_putF (D := D) (ci := 0) (C := RX0) (T := TX0) (N := 12) hexec hb hts hin tyX0 tyX0_ok nmX0 hown hK hP hD hS q0 he rfl k hk hlink (fun _ h9 => by rw [hdc] at h9; exact h9) hfin hin2 hdc hd hn hfit hl hdg kk
/-- the end of a reading method with a double, over the record d0 -/
theorem xd_ret {cs : List Choice} {d0 : Drawn} {X r : UInt64} (hd0 : s.drawn.sameBut d0 cs) (hexec : p.tables.exec = Jvm.exec) (hb : c.code = cc) (hr : meth.sig.returnType = some .double) (hlocks : meth.locks = false) (hal : alike64 r X = true) (hdg : decode cc pc = .ok (.dreturn, 1)) : W p l e R (s.setDrawn d0) m args below meth c s.heap [] cells slots (MQD cs below (xQd X) args s cells slots (fun _ => False)) (F0 m pc ls [.double r]) :=
  W.endD hd0 (W.dret hexec hb hr (fun t ht _ => ⟨r, hal, rfl, ht⟩) (fun _ h => nomatch h) hdg hlocks)
/-- calls of methods that draw -/
theorem xd_fin {cs : List Choice} {X : UInt64} {aa : Array Value} (hr : va_RunD cs p l e R s m args below meth c H locs cells slots 0 0 (F0 m pc ls st0) rest (xQd X aa) (fun _ => False))
    (kk : ∀ (r : UInt64) (d' : Drawn), alike64 r X = true → s.drawn.sameBut d' cs → W p l e R (s.setDrawn d') m args below meth c H locs cells slots Q (F0 m (pc + 3) ls (.double r :: rest))) : W p l e R s m args below meth c H locs cells slots Q (F0 m pc ls st0) := by
  intro T hT X9
  obtain ⟨v, st₀, t, T', L, d', hd, h0, X', hL, e1, e2, ⟨r, hal, hv, hh⟩, st⟩ := hr T hT X9
  cases hv
  obtain ⟨t2, a1, b1⟩ := kk r d' hal hd T' (by rw [e1, hh, h0]) (Stand.forget X' (fun q h => (hL q h).elim))
  exact ⟨t2, st t2 a1, b1⟩
theorem xmd_fin {cs : List Choice} {X : UInt64} {wc w1 wr : va_W} {mc ms : Nat} {aa : Array Value} (hr : va_RunD cs p l e R s m args below meth c H locs cells slots mc ms (F0 m pc ls st0) rest (xQmd D X wc w1 H.size aa) (va_A wc H.size))
    (hP : va_P D vwCl ws H) (hD : va_D A0 ws) (hS : va_S A0 H0 H locs) (hA : ∀ q, H0.size ≤ q → A0 q) (isC isR : List Nat) (hC : isC.map (fun i => ws[i]?) = wc.map some) (hR : isR.map (fun i => ws[i]?) = wr.map some) (hn : va_nd isR = true) (hdis : ∀ i ∈ isR, i ∉ isC)
    (kk : ∀ (r : UInt64) (d' : Drawn) (H1 : Heap) (locs1 : List Loc), alike64 r X = true → s.drawn.sameBut d' cs → va_P D vwCl (wr ++ w1) H1 → va_D A0 (wr ++ w1) → va_S A0 H0 H1 locs1 → H.size ≤ H1.size → W p l e R (s.setDrawn d') m args below meth c H1 locs1 (cells + mc) (slots + ms) Q (F0 m (pc + 3) ls (.double r :: rest))) : W p l e R s m args below meth c H locs cells slots Q (F0 m pc ls st0) := by
  have hF := va_free (wc := wc) hD hS hA isC hC
  intro T hT X9
  obtain ⟨v, st₀, t, T', L, d', hd, h0, X', hL, e1, e2, ⟨r, hal, hv, hP1, hD1, hz, hk⟩, st⟩ := hr T hT X9
  cases hv
  rw [h0] at hz hk
  obtain ⟨hP2, hD2⟩ := va_join (wr := wr) (w1 := w1) hP hD isC isR hC hR hn hdis (fun q h1 h2 => hk q h1 h2) hF hP1 hD1
  obtain ⟨t2, a1, b1⟩ := kk r d' T'.heap (locs ++ L) hal hd (by rw [e1]; exact hP2) hD2
    ⟨Nat.le_trans hS.1 (by rw [e1]; exact hz), fun q h1 h2 => by rw [e1, hk q (Nat.lt_of_lt_of_le h1 hS.1) (fun z => h2 (hF q z))]; exact hS.2.1 q h1 h2, fun q hq => by
      rcases List.mem_append.mp hq with h | h
      · exact hS.2.2 q h
      · exact hF _ (hL q h)⟩ (by rw [e1]; exact hz) T' rfl X'
  exact ⟨t2, st t2 a1, b1⟩
end XN
