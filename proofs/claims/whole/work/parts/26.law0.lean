/-! the law's helpers: what they throw is caught -/
def xTl (N0 : Nat) (sa : Nat → Nat) (U : State) : Prop := xTh N0 sa U ∧ va_Nc eIA eIO U ∧ va_Nc eIS eIO U ∧ va_Nc eIS eIA U
theorem xTl.trav (N0 : Nat) (sa : Nat → Nat) : xTrav (xTl N0 sa) := fun u U hv hh h => by
  have ha : u.vm.Alike U.vm := by rw [hv]; exact Vm.Alike.refl _
  exact ⟨xTh.trav N0 sa u U hv hh h.1, va_Nc.moved ha h.2.1, va_Nc.moved ha h.2.2.1, va_Nc.moved ha h.2.2.2⟩
theorem xTl.warm {N0 : Nat} {sa : Nat → Nat} {s U : State} (hW : s.WarmedH U.vm) (hk : ∀ q : Nat, q < s.heap.size → ¬ N0 ≤ q → U.heap[q]? = s.heap[q]?) (h : xTl N0 sa s) : xTl N0 sa U :=
  ⟨xTh.warm hW hk h.1, va_Nc.moved hW.alike h.2.1, va_Nc.moved hW.alike h.2.2.1, va_Nc.moved hW.alike h.2.2.2⟩
/-- over which a call answers: K is 0; else K says what it threw -/
def xLp {S : Type} (K : Nat) : Option S → Prop
  | some _ => K = 0
  | none => ¬ K = 0
def xLr {S : Type} (c : Nat) : Option S → Option Value
  | some _ => some (.int 0)
  | none => some (.int (nI c))
def xLw {S : Type} (w0 : va_W) (w1 : S → va_W) : Option S → va_W
  | some u => w1 u
  | none => w0
section XL
variable {p : Program} {l : Launch} {e : Env} {R : Room} {s : State} {m : MethodId} {args : Array Value} {below : List Frame} {meth : Method} {c : Code} {H : Heap} {locs : List Loc} {cells slots : Nat} {Q : State → Prop}
variable {cc : ByteArray} {pc : Nat} {ls : Array Slot} {rest st0 : List Value} {D : va_G} {cl : List vw_C} {A0 A : Nat → Prop} {a : Nat} {tys : List (ClassId × FieldType)} {ws : va_W} {H0 : Heap} {N0 : Nat} {sa : Nat → Nat} {mc ms : Nat} {bad : String → Prop}
/-- caught by the row j of the table -/
theorem xl_catch {name : String} {E : String} {ce : Cell} {q : Addr} {hh : List (Nat × Nat × Nat × Nat)} (hown : s.vm.findClass RL = some m.cls) (hTab : c.exceptionTable.toList = tableOf hh) (pre : List (Nat × Nat × Nat × Nat)) (x : Nat × Nat × Nat × Nat) (suf : List (Nat × Nat × Nat × Nat)) (hs : hh = pre ++ x :: suf)
    (hpass : ∀ z ∈ pre, z.2.2.2 ≠ 0 ∧ ∃ nm : String, (Cond.classLink RL z.2.2.2 nm).before args s = true ∧ va_Nc E nm s) (hx : covers ⟨x.1, x.2.1, x.2.2.1, x.2.2.2⟩ pc = true) (h0 : x.2.2.2 ≠ 0)
    (hlink : (Cond.classLink RL x.2.2.2 name).before args s = true) (hcast : (Cond.castable E name).before args s = true) (hcell : H[q]? = some ce) (hv : ce.vm = .none) (hcl : s.vm.findClass E = some ce.cls)
    (kk : W p l e R s m args below meth c H locs cells slots Q (F0 m x.2.2.1 ls [.ref q])) : vx_W p l e R s m args below meth c H locs cells slots Q (F0 m pc ls rest) q := by
  refine vx_catch hown (tableOf pre) ⟨x.1, x.2.1, x.2.2.1, x.2.2.2⟩ (tableOf suf) (by rw [hTab, hs]; simp [tableOf]) ?_ hx h0 hlink hcast hcell hv hcl kk
  intro z hz
  obtain ⟨q9, hq, rfl⟩ := List.mem_map.mp hz
  exact Or.inr (hpass q9 hq)
theorem xl_keep {W0 : va_W} {H1 : Heap} (hP : va_P D vwCl W0 H) (hk : ∀ q : Nat, q < H.size → H1[q]? = H[q]?) : va_P D vwCl W0 H1 := hP.kept (fun _ q9 h9 => hk q9.1 (vx_lt hP h9))
theorem xl_S9 {H1 : Heap} (hS : va_S A H0 H locs) (hz : H.size ≤ H1.size) (hk : ∀ q : Nat, q < H.size → H1[q]? = H[q]?) : va_S A H0 H1 locs :=
  ⟨Nat.le_trans hS.1 hz, fun q h1 h2 => by rw [hk q (Nat.lt_of_lt_of_le h1 hS.1)]; exact hS.2.1 q h1 h2, hS.2.2⟩
section Calls
variable {y : MethodName} {bytes : ByteArray} {maxL nL n index : Nat} {ret : Option FieldType} {wsy : List Cond} {rm : Room} {Ts : List Cond} {own C : String} {b : Addr} {As : List Value} {wc : va_W}
/-- a call of a helper: it comes back -/
theorem xl_S {S : Type} {pu : S → Prop} {r : S → Option Value} {w1 : S → va_W} {wr : va_W} {X : State → Prop} {hh : List (Nat × Nat × Nat × Nat)} (SF : CallFix p m c cc nL s args Ts own) (hX : xTrav X) (hM : vx_Met l y wsy rm (xMu D tys X As wc H.size) (xQm D pu r wc w1 H.size) (xXt (fun _ => False)) mc ms (va_A wc H.size)) (cw : vx_CSW R s args own index y bytes maxL ret hh wsy rm mc ms n)
    (hK : va_K D vwCl tys s) (hP : va_P D vwCl ws H) (hD : va_D A0 ws) (hS : va_S A0 H0 H locs) (hA : ∀ q, H0.size ≤ q → A0 q) (hXs : ∀ U : State, s.WarmedH U.vm → U.heap = H → X U)
    (isC isR : List Nat) (hC : isC.map (fun i => ws[i]?) = wc.map some) (hR : isR.map (fun i => ws[i]?) = wr.map some) (hnC : va_nd isC = true) (hnR : va_nd isR = true) (hdis : ∀ i ∈ isR, i ∉ isC)
    (hn : As.length = n) (hsize : ls.size = nL) (hstack : st0 = As.reverse ++ rest) (hW : (rest.map fun v => v.category).sum ≤ 8) (hdg : decode cc pc = .ok (.invokestatic index, 3)) (hc : cells + mc ≤ R.cells ∧ slots + ms ≤ R.slots)
    (kk : ∀ (u : S) (H1 : Heap) (locs1 : List Loc), pu u → va_P D vwCl (wr ++ w1 u) H1 → va_D A0 (wr ++ w1 u) → va_S A0 H0 H1 locs1 → H.size ≤ H1.size → W p l e R s m args below meth c H1 locs1 (cells + mc) (slots + ms) Q (F0 m (pc + 3) ls ((r u).toList ++ rest))) : W p l e R s m args below meth c H locs cells slots Q (F0 m pc ls st0) := by
  subst hstack
  have hPc : va_P D vwCl wc H := hP.sub isC (by
    have h := congrArg (fun l => l.filterMap id) hC
    simpa [List.filterMap_map] using h)
  have hDc := hD.sub isC hnC hC
  have hF := va_free (wc := wc) hD hS hA isC hC
  have hr := vx_runSX (e := e) (below := below) (meth := meth) (locs := locs) (cells := cells) (slots := slots) (g := F0 m pc ls (As.reverse ++ rest)) SF hM cw ⟨xMu_blind hX _ _ _ _, fun U hU hW => ⟨rfl, by rw [hU], by rw [hU]; exact hPc, va_K.moved hW.alike hK, hDc.weaken (fun _ _ _ _ => trivial), hXs U hW hU⟩⟩ rfl hn hsize rfl (lv_room hW) hdg hc
  intro T hT Xs
  rcases hr T hT Xs with ⟨v, st₀, t, T', L, h0, X', hL, e1, e2, ⟨u, hu, hv, hP1, hD1, hz, hk⟩, st⟩ | ⟨q, st₀, t, T', L, E, ce, h0, X', hL, e1, e2, ⟨hb, hz, hk⟩, hce, hcv, hcl, st⟩
  · cases hv
    rw [h0] at hz hk
    obtain ⟨hP2, hD2⟩ := va_join (wr := wr) (w1 := w1 u) hP hD isC isR hC hR hnR hdis (fun q h1 h2 => hk q h1 h2) hF hP1 hD1
    obtain ⟨t2, a1, b1⟩ := kk u T'.heap (locs ++ L) hu (by rw [e1]; exact hP2) hD2
      ⟨Nat.le_trans hS.1 (by rw [e1]; exact hz), fun q h1 h2 => by rw [e1, hk q (Nat.lt_of_lt_of_le h1 hS.1) (fun z => h2 (hF q z))]; exact hS.2.1 q h1 h2, fun q hq => by
        rcases List.mem_append.mp hq with h | h
        · exact hS.2.2 q h
        · exact hF _ (hL q h)⟩ (by rw [e1]; exact hz) T' rfl X'
    exact ⟨t2, st t2 a1, b1⟩
  · exact hb.elim
end Calls
end XL
