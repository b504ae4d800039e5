section
-- ===== PART A: goes FIRST, ahead of the names: the tables' words, and 'selects' of the private methods out of them =====
/-- a private method of a class that the tables say can be made, by its rows of tables_1 -/
def lw_okq (q : MethodName × Nat) : Prop := (q.1.cls ≠ "java/lang/invoke/MethodHandle" ∧ q.1.cls ≠ "java/lang/invoke/VarHandle") ∧ Cond.instantiable q.1.cls q.2 ∈ tables_1 ∧ Cond.privateMethod q.1 ∈ tables_1 ∧ Cond.instanceMethod q.1 ∈ tables_1
theorem lw_p0 : lw_okq (⟨"RopeTimes", "settle", "()V"⟩, 12) := ⟨⟨by decide +kernel, by decide +kernel⟩, List.mem_of_getElem? (i := 12) (by decide +kernel), List.mem_of_getElem? (i := 20) (by decide +kernel), List.mem_of_getElem? (i := 21) (by decide +kernel)⟩
theorem lw_p1 : lw_okq (⟨"RopeTimes", "findEarliest", "([II)I"⟩, 12) := ⟨⟨by decide +kernel, by decide +kernel⟩, List.mem_of_getElem? (i := 12) (by decide +kernel), List.mem_of_getElem? (i := 24) (by decide +kernel), List.mem_of_getElem? (i := 25) (by decide +kernel)⟩
theorem lw_p2 : lw_okq (⟨"RopeTimes", "pushOnce", "([II)Z"⟩, 12) := ⟨⟨by decide +kernel, by decide +kernel⟩, List.mem_of_getElem? (i := 12) (by decide +kernel), List.mem_of_getElem? (i := 28) (by decide +kernel), List.mem_of_getElem? (i := 29) (by decide +kernel)⟩
theorem lw_p3 : lw_okq (⟨"RopeTimes", "isPossible", "()Z"⟩, 12) := ⟨⟨by decide +kernel, by decide +kernel⟩, List.mem_of_getElem? (i := 12) (by decide +kernel), List.mem_of_getElem? (i := 32) (by decide +kernel), List.mem_of_getElem? (i := 33) (by decide +kernel)⟩
theorem lw_p4 : lw_okq (⟨"RopeTimes", "findBounds", "()V"⟩, 12) := ⟨⟨by decide +kernel, by decide +kernel⟩, List.mem_of_getElem? (i := 12) (by decide +kernel), List.mem_of_getElem? (i := 36) (by decide +kernel), List.mem_of_getElem? (i := 37) (by decide +kernel)⟩
theorem lw_p5 : lw_okq (⟨"RopeTimes", "startBounds", "()V"⟩, 12) := ⟨⟨by decide +kernel, by decide +kernel⟩, List.mem_of_getElem? (i := 12) (by decide +kernel), List.mem_of_getElem? (i := 40) (by decide +kernel), List.mem_of_getElem? (i := 41) (by decide +kernel)⟩
theorem lw_p6 : lw_okq (⟨"RopeTimes", "shortenBound", "(III)V"⟩, 12) := ⟨⟨by decide +kernel, by decide +kernel⟩, List.mem_of_getElem? (i := 12) (by decide +kernel), List.mem_of_getElem? (i := 45) (by decide +kernel), List.mem_of_getElem? (i := 46) (by decide +kernel)⟩
theorem lw_p7 : lw_okq (⟨"RopeTimes", "boundFrom", "(II)I"⟩, 12) := ⟨⟨by decide +kernel, by decide +kernel⟩, List.mem_of_getElem? (i := 12) (by decide +kernel), List.mem_of_getElem? (i := 52) (by decide +kernel), List.mem_of_getElem? (i := 53) (by decide +kernel)⟩
theorem lw_p8 : lw_okq (⟨"RopeTimes", "goOnOver", "(II)V"⟩, 12) := ⟨⟨by decide +kernel, by decide +kernel⟩, List.mem_of_getElem? (i := 12) (by decide +kernel), List.mem_of_getElem? (i := 56) (by decide +kernel), List.mem_of_getElem? (i := 57) (by decide +kernel)⟩
theorem lw_p9 : lw_okq (⟨"RopeTimes", "tightenOne", "(I)I"⟩, 12) := ⟨⟨by decide +kernel, by decide +kernel⟩, List.mem_of_getElem? (i := 12) (by decide +kernel), List.mem_of_getElem? (i := 103) (by decide +kernel), List.mem_of_getElem? (i := 104) (by decide +kernel)⟩
theorem lw_p10 : lw_okq (⟨"RopeTimes", "leastLength", "(II)I"⟩, 12) := ⟨⟨by decide +kernel, by decide +kernel⟩, List.mem_of_getElem? (i := 12) (by decide +kernel), List.mem_of_getElem? (i := 107) (by decide +kernel), List.mem_of_getElem? (i := 108) (by decide +kernel)⟩
theorem lw_p11 : lw_okq (⟨"RopeTimes", "lastOf", "([I)I"⟩, 12) := ⟨⟨by decide +kernel, by decide +kernel⟩, List.mem_of_getElem? (i := 12) (by decide +kernel), List.mem_of_getElem? (i := 122) (by decide +kernel), List.mem_of_getElem? (i := 123) (by decide +kernel)⟩
theorem lw_p12 : lw_okq (⟨"java/lang/Throwable", "fillInStackTrace", "(I)Ljava/lang/Throwable;"⟩, 6) := ⟨⟨by decide +kernel, by decide +kernel⟩, List.mem_of_getElem? (i := 181) (by decide +kernel), List.mem_of_getElem? (i := 179) (by decide +kernel), List.mem_of_getElem? (i := 180) (by decide +kernel)⟩
theorem lw_p13 : lw_okq (⟨"RopeTimes", "tiedRopes", "()I"⟩, 12) := ⟨⟨by decide +kernel, by decide +kernel⟩, List.mem_of_getElem? (i := 12) (by decide +kernel), List.mem_of_getElem? (i := 211) (by decide +kernel), List.mem_of_getElem? (i := 212) (by decide +kernel)⟩
theorem lw_p14 : lw_okq (⟨"RopeTimes", "tightRopes", "()I"⟩, 12) := ⟨⟨by decide +kernel, by decide +kernel⟩, List.mem_of_getElem? (i := 12) (by decide +kernel), List.mem_of_getElem? (i := 215) (by decide +kernel), List.mem_of_getElem? (i := 216) (by decide +kernel)⟩
theorem lw_p15 : lw_okq (⟨"RopeTimes", "isTight", "(I)Z"⟩, 12) := ⟨⟨by decide +kernel, by decide +kernel⟩, List.mem_of_getElem? (i := 12) (by decide +kernel), List.mem_of_getElem? (i := 219) (by decide +kernel), List.mem_of_getElem? (i := 220) (by decide +kernel)⟩
def lw_privs_1 : List (MethodName × Nat) := [(⟨"RopeTimes", "settle", "()V"⟩, 12), (⟨"RopeTimes", "findEarliest", "([II)I"⟩, 12), (⟨"RopeTimes", "pushOnce", "([II)Z"⟩, 12), (⟨"RopeTimes", "isPossible", "()Z"⟩, 12), (⟨"RopeTimes", "findBounds", "()V"⟩, 12), (⟨"RopeTimes", "startBounds", "()V"⟩, 12), (⟨"RopeTimes", "shortenBound", "(III)V"⟩, 12), (⟨"RopeTimes", "boundFrom", "(II)I"⟩, 12), (⟨"RopeTimes", "goOnOver", "(II)V"⟩, 12), (⟨"RopeTimes", "tightenOne", "(I)I"⟩, 12), (⟨"RopeTimes", "leastLength", "(II)I"⟩, 12), (⟨"RopeTimes", "lastOf", "([I)I"⟩, 12), (⟨"java/lang/Throwable", "fillInStackTrace", "(I)Ljava/lang/Throwable;"⟩, 6), (⟨"RopeTimes", "tiedRopes", "()I"⟩, 12), (⟨"RopeTimes", "tightRopes", "()I"⟩, 12), (⟨"RopeTimes", "isTight", "(I)Z"⟩, 12)]
theorem lw_r1 : ∀ q ∈ lw_privs_1, lw_okq q := List.forall_mem_cons.mpr ⟨lw_p0, List.forall_mem_cons.mpr ⟨lw_p1, List.forall_mem_cons.mpr ⟨lw_p2, List.forall_mem_cons.mpr ⟨lw_p3, List.forall_mem_cons.mpr ⟨lw_p4, List.forall_mem_cons.mpr ⟨lw_p5, List.forall_mem_cons.mpr ⟨lw_p6, List.forall_mem_cons.mpr ⟨lw_p7, List.forall_mem_cons.mpr ⟨lw_p8, List.forall_mem_cons.mpr ⟨lw_p9, List.forall_mem_cons.mpr ⟨lw_p10, List.forall_mem_cons.mpr ⟨lw_p11, List.forall_mem_cons.mpr ⟨lw_p12, List.forall_mem_cons.mpr ⟨lw_p13, List.forall_mem_cons.mpr ⟨lw_p14, List.forall_mem_cons.mpr ⟨lw_p15, fun _ h => absurd h List.not_mem_nil⟩⟩⟩⟩⟩⟩⟩⟩⟩⟩⟩⟩⟩⟩⟩⟩
theorem lw_p16 : lw_okq (⟨"RopeTimes", "shortRingLength", "()I"⟩, 12) := ⟨⟨by decide +kernel, by decide +kernel⟩, List.mem_of_getElem? (i := 12) (by decide +kernel), List.mem_of_getElem? (i := 223) (by decide +kernel), List.mem_of_getElem? (i := 224) (by decide +kernel)⟩
theorem lw_p17 : lw_okq (⟨"RopeTimes", "shortRingFrom", "(I)I"⟩, 12) := ⟨⟨by decide +kernel, by decide +kernel⟩, List.mem_of_getElem? (i := 12) (by decide +kernel), List.mem_of_getElem? (i := 227) (by decide +kernel), List.mem_of_getElem? (i := 228) (by decide +kernel)⟩
theorem lw_p18 : lw_okq (⟨"RopeTimes", "goOneRope", "()V"⟩, 12) := ⟨⟨by decide +kernel, by decide +kernel⟩, List.mem_of_getElem? (i := 12) (by decide +kernel), List.mem_of_getElem? (i := 231) (by decide +kernel), List.mem_of_getElem? (i := 232) (by decide +kernel)⟩
theorem lw_p19 : lw_okq (⟨"RopeTimes", "checkTurn", "(I)V"⟩, 12) := ⟨⟨by decide +kernel, by decide +kernel⟩, List.mem_of_getElem? (i := 12) (by decide +kernel), List.mem_of_getElem? (i := 239) (by decide +kernel), List.mem_of_getElem? (i := 240) (by decide +kernel)⟩
theorem lw_p20 : lw_okq (⟨"RopeTimes", "tiedEndsAt", "(I[I)I"⟩, 12) := ⟨⟨by decide +kernel, by decide +kernel⟩, List.mem_of_getElem? (i := 12) (by decide +kernel), List.mem_of_getElem? (i := 244) (by decide +kernel), List.mem_of_getElem? (i := 245) (by decide +kernel)⟩
theorem lw_p21 : lw_okq (⟨"RopeTimes", "checkRope", "(I)V"⟩, 12) := ⟨⟨by decide +kernel, by decide +kernel⟩, List.mem_of_getElem? (i := 12) (by decide +kernel), List.mem_of_getElem? (i := 252) (by decide +kernel), List.mem_of_getElem? (i := 253) (by decide +kernel)⟩
theorem lw_p22 : lw_okq (⟨"RopeTimes", "digestBounds", "(J)J"⟩, 12) := ⟨⟨by decide +kernel, by decide +kernel⟩, List.mem_of_getElem? (i := 12) (by decide +kernel), List.mem_of_getElem? (i := 257) (by decide +kernel), List.mem_of_getElem? (i := 258) (by decide +kernel)⟩
theorem lw_p23 : lw_okq (⟨"RopeTimes", "checkPossible", "()V"⟩, 12) := ⟨⟨by decide +kernel, by decide +kernel⟩, List.mem_of_getElem? (i := 12) (by decide +kernel), List.mem_of_getElem? (i := 352) (by decide +kernel), List.mem_of_getElem? (i := 353) (by decide +kernel)⟩
theorem lw_p24 : lw_okq (⟨"RopeTimes", "turnsAheadOf", "(I)I"⟩, 12) := ⟨⟨by decide +kernel, by decide +kernel⟩, List.mem_of_getElem? (i := 12) (by decide +kernel), List.mem_of_getElem? (i := 388) (by decide +kernel), List.mem_of_getElem? (i := 389) (by decide +kernel)⟩
theorem lw_p25 : lw_okq (⟨"RopeTimesModel", "fail", "(I)I"⟩, 4) := ⟨⟨by decide +kernel, by decide +kernel⟩, List.mem_of_getElem? (i := 392) (by decide +kernel), List.mem_of_getElem? (i := 419) (by decide +kernel), List.mem_of_getElem? (i := 420) (by decide +kernel)⟩
theorem lw_p26 : lw_okq (⟨"RopeTimesModel", "isTurn", "(I)Z"⟩, 4) := ⟨⟨by decide +kernel, by decide +kernel⟩, List.mem_of_getElem? (i := 392) (by decide +kernel), List.mem_of_getElem? (i := 427) (by decide +kernel), List.mem_of_getElem? (i := 428) (by decide +kernel)⟩
theorem lw_p27 : lw_okq (⟨"RopeTimesModel", "isRope", "(I)Z"⟩, 4) := ⟨⟨by decide +kernel, by decide +kernel⟩, List.mem_of_getElem? (i := 392) (by decide +kernel), List.mem_of_getElem? (i := 444) (by decide +kernel), List.mem_of_getElem? (i := 445) (by decide +kernel)⟩
theorem lw_p28 : lw_okq (⟨"RopeTimesModel", "ro", "(II)I"⟩, 4) := ⟨⟨by decide +kernel, by decide +kernel⟩, List.mem_of_getElem? (i := 392) (by decide +kernel), List.mem_of_getElem? (i := 448) (by decide +kernel), List.mem_of_getElem? (i := 449) (by decide +kernel)⟩
theorem lw_p29 : lw_okq (⟨"RopeTimesModel", "isTied", "(I)Z"⟩, 4) := ⟨⟨by decide +kernel, by decide +kernel⟩, List.mem_of_getElem? (i := 392) (by decide +kernel), List.mem_of_getElem? (i := 456) (by decide +kernel), List.mem_of_getElem? (i := 457) (by decide +kernel)⟩
theorem lw_p30 : lw_okq (⟨"RopeTimesModel", "isHeld", "()Z"⟩, 4) := ⟨⟨by decide +kernel, by decide +kernel⟩, List.mem_of_getElem? (i := 392) (by decide +kernel), List.mem_of_getElem? (i := 464) (by decide +kernel), List.mem_of_getElem? (i := 465) (by decide +kernel)⟩
theorem lw_p31 : lw_okq (⟨"RopeTimesModel", "earliest", "()[I"⟩, 4) := ⟨⟨by decide +kernel, by decide +kernel⟩, List.mem_of_getElem? (i := 392) (by decide +kernel), List.mem_of_getElem? (i := 468) (by decide +kernel), List.mem_of_getElem? (i := 469) (by decide +kernel)⟩
def lw_privs_2 : List (MethodName × Nat) := [(⟨"RopeTimes", "shortRingLength", "()I"⟩, 12), (⟨"RopeTimes", "shortRingFrom", "(I)I"⟩, 12), (⟨"RopeTimes", "goOneRope", "()V"⟩, 12), (⟨"RopeTimes", "checkTurn", "(I)V"⟩, 12), (⟨"RopeTimes", "tiedEndsAt", "(I[I)I"⟩, 12), (⟨"RopeTimes", "checkRope", "(I)V"⟩, 12), (⟨"RopeTimes", "digestBounds", "(J)J"⟩, 12), (⟨"RopeTimes", "checkPossible", "()V"⟩, 12), (⟨"RopeTimes", "turnsAheadOf", "(I)I"⟩, 12), (⟨"RopeTimesModel", "fail", "(I)I"⟩, 4), (⟨"RopeTimesModel", "isTurn", "(I)Z"⟩, 4), (⟨"RopeTimesModel", "isRope", "(I)Z"⟩, 4), (⟨"RopeTimesModel", "ro", "(II)I"⟩, 4), (⟨"RopeTimesModel", "isTied", "(I)Z"⟩, 4), (⟨"RopeTimesModel", "isHeld", "()Z"⟩, 4), (⟨"RopeTimesModel", "earliest", "()[I"⟩, 4)]
theorem lw_r2 : ∀ q ∈ lw_privs_2, lw_okq q := List.forall_mem_cons.mpr ⟨lw_p16, List.forall_mem_cons.mpr ⟨lw_p17, List.forall_mem_cons.mpr ⟨lw_p18, List.forall_mem_cons.mpr ⟨lw_p19, List.forall_mem_cons.mpr ⟨lw_p20, List.forall_mem_cons.mpr ⟨lw_p21, List.forall_mem_cons.mpr ⟨lw_p22, List.forall_mem_cons.mpr ⟨lw_p23, List.forall_mem_cons.mpr ⟨lw_p24, List.forall_mem_cons.mpr ⟨lw_p25, List.forall_mem_cons.mpr ⟨lw_p26, List.forall_mem_cons.mpr ⟨lw_p27, List.forall_mem_cons.mpr ⟨lw_p28, List.forall_mem_cons.mpr ⟨lw_p29, List.forall_mem_cons.mpr ⟨lw_p30, List.forall_mem_cons.mpr ⟨lw_p31, fun _ h => absurd h List.not_mem_nil⟩⟩⟩⟩⟩⟩⟩⟩⟩⟩⟩⟩⟩⟩⟩⟩
theorem lw_p32 : lw_okq (⟨"RopeTimesModel", "isFound", "([I)Z"⟩, 4) := ⟨⟨by decide +kernel, by decide +kernel⟩, List.mem_of_getElem? (i := 392) (by decide +kernel), List.mem_of_getElem? (i := 472) (by decide +kernel), List.mem_of_getElem? (i := 473) (by decide +kernel)⟩
theorem lw_p33 : lw_okq (⟨"RopeTimesModel", "shortest", "(I)I"⟩, 4) := ⟨⟨by decide +kernel, by decide +kernel⟩, List.mem_of_getElem? (i := 392) (by decide +kernel), List.mem_of_getElem? (i := 476) (by decide +kernel), List.mem_of_getElem? (i := 477) (by decide +kernel)⟩
theorem lw_p34 : lw_okq (⟨"RopeTimesModel", "ways", "()[[I"⟩, 4) := ⟨⟨by decide +kernel, by decide +kernel⟩, List.mem_of_getElem? (i := 392) (by decide +kernel), List.mem_of_getElem? (i := 480) (by decide +kernel), List.mem_of_getElem? (i := 481) (by decide +kernel)⟩
theorem lw_p35 : lw_okq (⟨"RopeTimesModel", "ropeTold", "(II[I)I"⟩, 4) := ⟨⟨by decide +kernel, by decide +kernel⟩, List.mem_of_getElem? (i := 392) (by decide +kernel), List.mem_of_getElem? (i := 493) (by decide +kernel), List.mem_of_getElem? (i := 494) (by decide +kernel)⟩
theorem lw_p36 : lw_okq (⟨"RopeTimesModel", "isTight", "(I[I)Z"⟩, 4) := ⟨⟨by decide +kernel, by decide +kernel⟩, List.mem_of_getElem? (i := 392) (by decide +kernel), List.mem_of_getElem? (i := 497) (by decide +kernel), List.mem_of_getElem? (i := 498) (by decide +kernel)⟩
theorem lw_p37 : lw_okq (⟨"RopeTimesModel", "turnTold", "(II[I)I"⟩, 4) := ⟨⟨by decide +kernel, by decide +kernel⟩, List.mem_of_getElem? (i := 392) (by decide +kernel), List.mem_of_getElem? (i := 505) (by decide +kernel), List.mem_of_getElem? (i := 506) (by decide +kernel)⟩
theorem lw_p38 : lw_okq (⟨"RopeTimesModel", "counted", "(I[I)I"⟩, 4) := ⟨⟨by decide +kernel, by decide +kernel⟩, List.mem_of_getElem? (i := 392) (by decide +kernel), List.mem_of_getElem? (i := 513) (by decide +kernel), List.mem_of_getElem? (i := 514) (by decide +kernel)⟩
theorem lw_p39 : lw_okq (⟨"RopeTimesModel", "last", "([I)I"⟩, 4) := ⟨⟨by decide +kernel, by decide +kernel⟩, List.mem_of_getElem? (i := 392) (by decide +kernel), List.mem_of_getElem? (i := 517) (by decide +kernel), List.mem_of_getElem? (i := 518) (by decide +kernel)⟩
theorem lw_p40 : lw_okq (⟨"RopeTimesModel", "ring", "()I"⟩, 4) := ⟨⟨by decide +kernel, by decide +kernel⟩, List.mem_of_getElem? (i := 392) (by decide +kernel), List.mem_of_getElem? (i := 521) (by decide +kernel), List.mem_of_getElem? (i := 522) (by decide +kernel)⟩
def lw_privs_3 : List (MethodName × Nat) := [(⟨"RopeTimesModel", "isFound", "([I)Z"⟩, 4), (⟨"RopeTimesModel", "shortest", "(I)I"⟩, 4), (⟨"RopeTimesModel", "ways", "()[[I"⟩, 4), (⟨"RopeTimesModel", "ropeTold", "(II[I)I"⟩, 4), (⟨"RopeTimesModel", "isTight", "(I[I)Z"⟩, 4), (⟨"RopeTimesModel", "turnTold", "(II[I)I"⟩, 4), (⟨"RopeTimesModel", "counted", "(I[I)I"⟩, 4), (⟨"RopeTimesModel", "last", "([I)I"⟩, 4), (⟨"RopeTimesModel", "ring", "()I"⟩, 4)]
theorem lw_r3 : ∀ q ∈ lw_privs_3, lw_okq q := List.forall_mem_cons.mpr ⟨lw_p32, List.forall_mem_cons.mpr ⟨lw_p33, List.forall_mem_cons.mpr ⟨lw_p34, List.forall_mem_cons.mpr ⟨lw_p35, List.forall_mem_cons.mpr ⟨lw_p36, List.forall_mem_cons.mpr ⟨lw_p37, List.forall_mem_cons.mpr ⟨lw_p38, List.forall_mem_cons.mpr ⟨lw_p39, List.forall_mem_cons.mpr ⟨lw_p40, fun _ h => absurd h List.not_mem_nil⟩⟩⟩⟩⟩⟩⟩⟩⟩
def lw_privs : List (MethodName × Nat) := lw_privs_1 ++ (lw_privs_2 ++ (lw_privs_3))
def lw_tbl : List Cond := k2_sels lw_privs ++ tables_1
theorem lw_privs_ok : ∀ q ∈ lw_privs, lw_okq q := by
  show ∀ q ∈ lw_privs_1 ++ (lw_privs_2 ++ (lw_privs_3)), lw_okq q
  exact List.forall_mem_append.mpr ⟨lw_r1, List.forall_mem_append.mpr ⟨lw_r2, lw_r3⟩⟩
/-- the streams that the claim lets the run draw from -/
abbrev lw_cs : List Choice := [Jvm.Choice.named "NaN.bits"]
theorem lw_bits : nanBits ∈ lw_cs := by first | decide | exact List.mem_cons_self | simp [lw_cs, nanBits]
end
section
/-! the word 'an array class over arrays has been made', which the printed names use and the kit's rows of this claim don't hold -/
def va_AOA (t : FieldType) (U : State) : Prop := (Cond.arrayOver (.array t)).before #[] U = true
theorem va_AOA.of {t : FieldType} {A : Array Value} {U : State} (h : (Cond.arrayOver (.array t)).before A U = true) : va_AOA t U := h
theorem va_AOA.use {t : FieldType} {A : Array Value} {U : State} (h : va_AOA t U) : (Cond.arrayOver (.array t)).before A U = true := h
theorem va_AOA.moved {t : FieldType} {u U : State} (hvm : u.vm.Alike U.vm) (h : va_AOA t u) : va_AOA t U := arrayOver_alikeB hvm h
end
section
/-! ===== BEGIN words of one list among another's, by their places ===== -/
theorem goodIn_r {big : List Cond} (ws : List Cond) (ps : List Nat) (hp : ws = ps.filterMap (fun i => big[i]?)) (h : ws.all goodWord = true) : GoodIn big ws := by
  intro w hw
  have h1 := List.all_eq_true.mp h w hw
  rw [hp] at hw
  obtain ⟨i, -, hi⟩ := List.mem_filterMap.mp hw
  have hm : w ∈ big := by first | exact List.mem_of_getElem? hi | exact List.getElem?_mem hi
  exact ⟨hm, good_of_word h1⟩
theorem goodIn_app {big a b : List Cond} (ha : GoodIn big a) (hb : GoodIn big b) : GoodIn big (a ++ b) := fun w h => (List.mem_append.mp h).elim (ha w) (hb w)
theorem goodIn_ca {big a b : List Cond} {c : Cond} (ha : GoodIn big (c :: a)) (hb : GoodIn big b) : GoodIn big (c :: (a ++ b)) := fun w h => (List.mem_cons.mp h).elim (fun e => ha w (List.mem_cons.mpr (Or.inl e))) (fun h => (List.mem_append.mp h).elim (fun h => ha w (List.mem_cons.mpr (Or.inr h))) (hb w))
theorem goodIn_sub {big ws : List Cond} (hm : ∀ w ∈ ws, w ∈ big) (h : ws.all goodWord = true) : GoodIn big ws := fun w hw => ⟨hm w hw, good_of_word (List.all_eq_true.mp h w hw)⟩
/-! ===== END ===== -/

/-! ===== BEGIN new T[n][m]: the outer array a place, the inner ones among the pooled ===== -/
/-- f, but v at every address of l -/
def vr_up {α : Type} (f : Nat → α) (l : List Nat) (v : α) : Nat → α := fun a => if a ∈ l then v else f a
theorem vr_up_in {α : Type} {f : Nat → α} {l : List Nat} {v : α} {a : Nat} (h : a ∈ l) : vr_up f l v a = v := if_pos h
theorem vr_up_ne {α : Type} {f : Nat → α} {l : List Nat} {v : α} {a : Nat} (h : a ∉ l) : vr_up f l v a = f a := if_neg h
theorem vr_rows {L l : List Nat} {f : Nat → va_E} {e : va_E} (h : ∀ a, a ∈ l → a ∉ L) : va_pl L f ++ l.map (fun a => (a, e)) = va_pl (L ++ l) (vr_up f l e) := by
  unfold va_pl
  rw [List.map_append]
  congr 1
  · apply List.map_congr_left
    intro a ha
    rw [vr_up_ne (fun q => h a q ha)]
  · apply List.map_congr_left
    intro a ha
    rw [vr_up_in ha]
theorem vr_lay {X rows : va_W} {x : Nat × va_E} {pl : va_W} {D : va_G} {cl : List vw_C} {H : Heap} (hP : va_P D cl (((X ++ pl) ++ [x]) ++ rows) H) : va_P D cl ((X ++ [x]) ++ (pl ++ rows)) H := by
  rw [List.append_assoc (X ++ pl)] at hP
  have h := va_P.swap hP
  rw [← List.append_assoc X] at h
  have h2 := va_P.swap h
  rw [List.append_assoc (X ++ [x])] at h2
  exact h2
theorem vr_layD {X rows : va_W} {x : Nat × va_E} {pl : va_W} {A : Nat → Prop} (hD : va_D A (((X ++ pl) ++ [x]) ++ rows)) : va_D A ((X ++ [x]) ++ (pl ++ rows)) := by
  rw [List.append_assoc (X ++ pl)] at hD
  have h := va_D.swap hD
  rw [← List.append_assoc X] at h
  have h2 := va_D.swap h
  rw [List.append_assoc (X ++ [x])] at h2
  exact h2
theorem vr_outer (c : ClassId) (N h0 : Nat) : ∀ i : Nat, Jvm.Free.Multi.outerC c N h0 i = arrV c N (fun j => va_rf (if j < i then some (h0 + 1 + j) else none))
  | 0 => by
    show ({ cls := c, slots := Array.replicate N .null, vm := .none } : Cell) = _
    rw [arrV_new]
    refine congrArg (arrV c N) (funext fun j => ?_)
    simp [va_rf]
  | i + 1 => by
    show (Jvm.Free.Multi.outerC c N h0 i).setSlot i (.ref (h0 + 1 + i)) = _
    rw [vr_outer c N h0 i, arrV_store]
    refine congrArg (arrV c N) (funext fun j => ?_)
    by_cases e : j = i
    · subst e
      simp [updV, va_rf]
    · by_cases h : j < i
      · simp [updV, e, h, Nat.lt_succ_of_lt h]
      · simp [updV, e, h, show ¬ j < i + 1 by omega]
section VGM
variable {p : Program} {l : Launch} {e : Env} {R : Room} {s : State} {m : MethodId} {args : Array Value} {below : List Frame} {meth : Method} {c : Code} {H : Heap} {locs : List Loc} {cells slots : Nat} {Q : State → Prop}
variable {cc : ByteArray} {pc : Nat} {ls : Array Slot} {rest : List Value} {D : va_G} {cl : List vw_C} {A : Nat → Prop} {a : Nat} {tys : List (ClassId × FieldType)} {ws : va_W} {H0 : Heap}
theorem va_mna {X : va_W} {L : List Nat} {f : Nat → va_E} {cc : ByteArray} (hexec : p.tables.exec = Jvm.exec) (hb : c.code = cc) {own : String} {index : Nat} {ty : FieldType} {cy : ClassId} (hown : s.vm.findClass own = some m.cls) (hclink : (Cond.classLink own index ("[" ++ (FieldType.array ty).toString)).before args s = true) (hover : va_AOA ty s) (harr : (Cond.arrayClass ty).before args s = true) (hcy : s.vm.findClass (FieldType.array ty).toString = some cy)
    (hK : va_K D cl tys s) (hP : va_P D cl (X ++ va_pl L f) H) (hD : va_D A (X ++ va_pl L f)) (hS : va_S A H0 H locs) (hA : ∀ q, H0.size ≤ q → A q) {n k : Int32} {N' K' : Nat} {z : vp_A} (hn : ¬ n < 0) (hk : ¬ k < 0) (hN : n.toNatClampNeg = N') (hM : k.toNatClampNeg = K')
    (hb1 : N' * 4 ≤ 536870912) (hb2 : K' * componentBytes ty ≤ 536870912) (hb3 : K' ≤ 536870912) (hdf : fits ty (defaultValue ty) = true) (hdd : (defaultValue ty).isDefault = true) (hcells : cells + (1 + N') ≤ R.cells) (hslots : slots + (N' + N' * K') ≤ R.slots) (hz : ∀ c : ClassId, Jvm.Free.Multi.innerC c K' (defaultValue ty) = vp_cell c z) (hdg : decode cc pc = .ok (.multianewarray index 2, 4))
    (kk : ∀ (q : Nat) (r : Nat → Nat) (cA : ClassId) (H1 : Heap), (∀ i j : Nat, i < N' → j < N' → r i = r j → i = j) → (∀ i : Nat, i < N' → r i ∉ L) → va_K D cl (tys ++ [(cA, .array ty)]) s →
      va_P D cl ((X ++ [(q, .inl (cA, N', .inr (.inr (.inr (.inr (fun i => if i < N' then some (r i) else none))))))]) ++ va_pl (L ++ (List.range N').map r) (vr_up f ((List.range N').map r) (.inl (cy, z)))) H1 → va_D A ((X ++ [(q, .inl (cA, N', .inr (.inr (.inr (.inr (fun i => if i < N' then some (r i) else none))))))]) ++ va_pl (L ++ (List.range N').map r) (vr_up f ((List.range N').map r) (.inl (cy, z)))) → va_S A H0 H1 locs →
      W p l e R s m args below meth c H1 locs (cells + 1 + N') (slots + N' + N' * K') Q (F0 m (pc + 4) ls (.ref q :: rest))) : W p l e R s m args below meth c H locs cells slots Q (F0 m pc ls (.int k :: .int n :: rest)) := by
  subst hN
  subst hM
  intro T hT Xs
  obtain ⟨vm₁, cA, comp, -, fA, fC, hO, -, X', step⟩ := Xs.multianewarray2F hexec hown hclink (va_AOA.use hover) harr (g := F0 m pc ls (.int k :: .int n :: rest)) rfl (by rw [hb]; exact hdg) rfl hn hk hb1 hb2 hb3 hdf hdd hcells hslots
  have ec : some cy = some comp := hcy.symm.trans fC
  cases ec
  generalize hF : Jvm.Free.Multi.fill (T.setVm vm₁) cA cy n.toNatClampNeg k.toNatClampNeg (defaultValue ty) n.toNatClampNeg = F at X' step
  have hTh : (T.setVm vm₁).heap = H := hT
  obtain ⟨f1, f2, -, -⟩ := Jvm.Free.Multi.fill_facts (T.setVm vm₁) cA cy n.toNatClampNeg k.toNatClampNeg (defaultValue ty) n.toNatClampNeg
  rw [hF, hTh] at f1 f2
  have hold : ∀ x : Nat, x < H.size → F.heap[x]? = H[x]? := fun x hx => by
    have := Jvm.Free.Multi.fill_old (T.setVm vm₁) cA cy n.toNatClampNeg k.toNatClampNeg (defaultValue ty) (a := x) (by rw [hTh]; exact hx) n.toNatClampNeg
    rw [hF, hTh] at this
    exact this
  have hrow : ∀ j : Nat, j < n.toNatClampNeg → F.heap[H.size + 1 + j]? = some (vp_cell cy z) := fun j hj => by
    have := Jvm.Free.Multi.fill_inner (T.setVm vm₁) cA cy n.toNatClampNeg k.toNatClampNeg (defaultValue ty) n.toNatClampNeg j hj
    rw [hF, hTh, hz] at this
    exact this
  have hout : Jvm.Free.Multi.outerC cA n.toNatClampNeg H.size n.toNatClampNeg = vp_cell cA (n.toNatClampNeg, .inr (.inr (.inr (.inr (fun i => if i < n.toNatClampNeg then some (H.size + 1 + i) else none))))) := by
    rw [vp_cell_q]
    exact vr_outer cA n.toNatClampNeg H.size n.toNatClampNeg
  rw [hout] at f2
  have hlt : ∀ a, a ∈ L → a < H.size := fun a ha => by
    obtain ⟨k9, hk9⟩ := va_pl_get (X := X) (f := f) ha
    exact (hP k9 _ hk9).lt
  have hnl : ∀ i : Nat, i < n.toNatClampNeg → H.size + 1 + i ∉ L := fun i _ h => by
    have := hlt _ h
    omega
  have hnm : ∀ a, a ∈ (List.range n.toNatClampNeg).map (fun i => H.size + 1 + i) → a ∉ L := fun a ha h => by
    obtain ⟨i, -, rfl⟩ := List.mem_map.mp ha
    have := hlt _ h
    omega
  have hP0 : va_P D cl (X ++ va_pl L f) F.heap := hP.kept (fun k9 x hx => hold x.1 ((hP k9 x hx).lt))
  have hP1 : va_P D cl ((X ++ va_pl L f) ++ [(H.size, .inl (cA, n.toNatClampNeg, .inr (.inr (.inr (.inr (fun i => if i < n.toNatClampNeg then some (H.size + 1 + i) else none))))))]) F.heap := hP0.app (fun k9 x hx => by
    have h0 : k9 < 1 := (List.getElem?_eq_some_iff.mp hx).1
    rw [show k9 = 0 by omega] at hx
    cases hx
    exact f2)
  have hP2 : va_P D cl (((X ++ va_pl L f) ++ [(H.size, .inl (cA, n.toNatClampNeg, .inr (.inr (.inr (.inr (fun i => if i < n.toNatClampNeg then some (H.size + 1 + i) else none))))))]) ++ ((List.range n.toNatClampNeg).map (fun i => H.size + 1 + i)).map (fun a => (a, .inl (cy, z)))) F.heap := hP1.app (fun k9 x hx => by
    obtain ⟨a, ha, rfl⟩ := List.mem_map.mp (List.mem_of_getElem? hx)
    obtain ⟨i, hi, rfl⟩ := List.mem_map.mp ha
    exact hrow i (List.mem_range.mp hi))
  have hD2 : va_D A (((X ++ va_pl L f) ++ [(H.size, .inl (cA, n.toNatClampNeg, .inr (.inr (.inr (.inr (fun i => if i < n.toNatClampNeg then some (H.size + 1 + i) else none))))))]) ++ ((List.range n.toNatClampNeg).map (fun i => H.size + 1 + i)).map (fun a => (a, .inl (cy, z)))) := by
    have hD1 := hD.push (e := .inl (cA, n.toNatClampNeg, .inr (.inr (.inr (.inr (fun i => if i < n.toNatClampNeg then some (H.size + 1 + i) else none)))))) hP rfl (hA _ hS.1)
    generalize hW1 : (X ++ va_pl L f) ++ [(H.size, .inl (cA, n.toNatClampNeg, .inr (.inr (.inr (.inr (fun i => if i < n.toNatClampNeg then some (H.size + 1 + i) else none))))))] = W1 at hD1 hP1 ⊢
    have hle : ∀ (k9 : Nat) (x : Nat × va_E), W1[k9]? = some x → x.1 ≤ H.size := fun k9 x hx => by
      rw [← hW1] at hx
      by_cases hl : k9 < (X ++ va_pl L f).length
      · rw [List.getElem?_append_left hl] at hx
        exact Nat.le_of_lt ((hP k9 x hx).lt)
      · rw [List.getElem?_append_right (by omega)] at hx
        have h0 : k9 - (X ++ va_pl L f).length < 1 := (List.getElem?_eq_some_iff.mp hx).1
        rw [show k9 - (X ++ va_pl L f).length = 0 by omega] at hx
        cases hx
        exact Nat.le_refl _
    have hr : ∀ (k9 : Nat) (x : Nat × va_E), (((List.range n.toNatClampNeg).map (fun i => H.size + 1 + i)).map (fun a => ((a, .inl (cy, z)) : Nat × va_E)))[k9]? = some x → x.1 = H.size + 1 + k9 := fun k9 x hx => by
      rw [List.getElem?_map, List.getElem?_map] at hx
      by_cases h9 : k9 < n.toNatClampNeg
      · rw [List.getElem?_range h9] at hx
        cases hx
        rfl
      · have hn0 : (List.range n.toNatClampNeg)[k9]? = none := List.getElem?_eq_none (by rw [List.length_range]; omega)
        rw [hn0] at hx
        cases hx
    refine ⟨fun i j x y hi hj hxy => ?_, fun k9 x hx => ?_⟩
    · by_cases h1 : i < W1.length <;> by_cases h2 : j < W1.length
      · rw [List.getElem?_append_left h1] at hi
        rw [List.getElem?_append_left h2] at hj
        exact hD1.1 i j x y hi hj hxy
      · rw [List.getElem?_append_left h1] at hi
        rw [List.getElem?_append_right (by omega)] at hj
        have := hle _ _ hi
        have := hr _ _ hj
        omega
      · rw [List.getElem?_append_right (by omega)] at hi
        rw [List.getElem?_append_left h2] at hj
        have := hle _ _ hj
        have := hr _ _ hi
        omega
      · rw [List.getElem?_append_right (by omega)] at hi hj
        have := hr _ _ hi
        have := hr _ _ hj
        omega
    · by_cases h1 : k9 < W1.length
      · rw [List.getElem?_append_left h1] at hx
        exact hD1.2 k9 x hx
      · rw [List.getElem?_append_right (by omega)] at hx
        have := hr _ _ hx
        exact hA _ (by have := hS.1; omega)
  have hAr : ArrOfT s cA (.array ty) := fun N9 z9 => by
    obtain ⟨-, k9, hk9, cm9, hkk9⟩ := (hO 0 0 0).1
    exact ⟨(fun q hq => by cases hq), k9, hk9, cm9, hkk9⟩
  have hK2 : va_K D cl (tys ++ [(cA, .array ty)]) s := ⟨hK.1, fun k9 x hx => by
    by_cases hl : k9 < tys.length
    · rw [List.getElem?_append_left hl] at hx
      exact hK.2 k9 x hx
    · rw [List.getElem?_append_right (by omega)] at hx
      have h0 : k9 - tys.length < 1 := (List.getElem?_eq_some_iff.mp hx).1
      rw [show k9 - tys.length = 0 by omega] at hx
      cases hx
      exact ⟨hAr, fA⟩⟩
  obtain ⟨t, a1, b1⟩ := kk H.size (fun i => H.size + 1 + i) cA F.heap (fun i j _ _ h => by have h9 : H.size + 1 + i = H.size + 1 + j := h; omega) hnl hK2 (by rw [← vr_rows hnm]; exact vr_lay hP2) (by rw [← vr_rows hnm]; exact vr_layD hD2) ⟨by rw [f1]; have := hS.1; omega, fun x h1 h2 => (hold x (Nat.lt_of_lt_of_le h1 hS.1)).trans (hS.2.1 x h1 h2), hS.2.2⟩ F rfl X'
  refine ⟨t, step t ?_, b1⟩
  have e : T.heap.size = H.size := by rw [hT]
  rw [e]
  exact a1
end VGM
/-! ===== END ===== -/

/-! ===== BEGIN exceptions that leave a method, and their catching by the caller (launches without stack traces) ===== -/
section VXA
/-! The laws vx_back, vx_callV, vx_callS, vx_callSW, vx_throw0, vx_throwS follow proofs of the library, with one case more: JvmDerived/Free/Laws.lean (Back.of_free), Shelf42/LK1.lean (callV, callS), Shelf/KitTraced.lean (throwNew0V, throwNewS). -/
/-- where a method has thrown q: the class by its name, the cell, what was written, the world -/
def vx_T (XC : String → State → State → Prop) (st : State) (q : Addr) (t : State) (mc ms : Nat) (free : Addr → Prop) : Prop :=
  ∃ (E : String) (ce : Cell) (L : List Loc), XC E st t ∧ t.heap[q]? = some ce ∧ ce.vm = .none ∧ st.vm.findClass E = some ce.cls ∧ st.WarmedH t.vm ∧ st.sameButNew ({ t with vm := st.vm } : State) L mc ms ∧ ∀ z ∈ L, free z.base
def vx_Q (Qc : Array Value → State → Outcome → State → Prop) (XC : String → State → State → Prop) (mc ms : Nat) (free : Addr → Prop) : Array Value → State → Outcome → State → Prop := fun a st o t =>
  (Qc a st o t ∧ ∃ L, FrameEnd st o t L mc ms ∧ ∀ q ∈ L, free q.base) ∨ ∃ q, o = .threw q ∧ vx_T XC st q t mc ms free
/-- a callee that returns or throws -/
def vx_Met (l : Launch) (y : MethodName) (ws : List Cond) (rm : Room) (Pc : Array Value → State → Prop) (Qc : Array Value → State → Outcome → State → Prop) (XC : String → State → State → Prop) (mc ms : Nat) (free : Addr → Prop) : Prop :=
  MetFree l y (headSpec ws rm) Pc (fun _ _ _ _ _ => True) (vx_Q Qc XC mc ms free)
def vx_Post (XC : String → State → State → Prop) (mc ms : Nat) (free : Addr → Prop) : Pt → Array Value → Addr → Pt → Prop := fun A a q B =>
  ∃ (g : JFrame) (mk : MethodId) (t : State) (L : List Loc) (E : String) (ce : Cell), B.U.heap = t.heap ∧ B.U.vm = t.vm ∧ XC E (A.U.calling g mk a) t ∧ t.heap[q]? = some ce ∧ ce.vm = .none ∧ A.U.vm.findClass E = some ce.cls ∧ B.locs = A.locs ++ L ∧ (∀ z ∈ L, free z.base) ∧ B.cells = A.cells + mc ∧ B.slots = A.slots + ms
def vx_Back (l : Launch) (R : Room) (p : Program) (e : Env) (below : List Frame) (s : State) (sargs : Array Value) (y : MethodName) (len W9 : Nat)
    (Pre : Pt → Array Value → Prop) (Post : Pt → Array Value → Option Value → Pt → Prop) (PostX : Pt → Array Value → Addr → Pt → Prop) : Prop :=
  ∀ (m : MethodId) (meth : Method) (c : Code) (A : Pt) (g : JFrame) (ig : Instr) (mk : MethodId) (a : Array Value),
    Stand p l e R s m sargs below meth c A.U A.locs A.cells A.slots → g.method = m → g.locals.size = c.maxLocals → decode c.code g.pc = .ok (ig, len) →
    2 * g.monitorRoom + (g.stack.map fun v => v.category).sum ≤ W9 → A.U.methodNamed? y = some mk → Pre A a →
    (∃ (v : Option Value) (B : Pt), Stand p l e R s m sargs below meth c B.U B.locs B.cells B.slots ∧ Post A a v B ∧
      Steps p.tables e below (doInvoke e (A.U.setTop g) [] mk a).1 (B.U.setTop { g with pc := g.pc + len, stack := v.toList ++ g.stack })) ∨
    (∃ (q : Addr) (B : Pt), Stand p l e R s m sargs below meth c B.U B.locs B.cells B.slots ∧ PostX A a q B ∧
      Steps p.tables e below (doInvoke e (A.U.setTop g) [] mk a).1 ((B.U.setTop g).pushFrame (.throwing q)))
section Payer
variable {l : Launch} {R : Room} {p : Program} {e : Env} {below : List Frame} {s : State} {sargs : Array Value} {y : MethodName} {len W9 : Nat}
theorem vx_back {ws : List Cond} {rm : Room} {Pc : Array Value → State → Prop} {Qc : Array Value → State → Outcome → State → Prop} {XC : String → State → State → Prop} {mc ms : Nat} {free : Addr → Prop} {bytes : ByteArray} {maxL : Nat} {ret : Option FieldType}
    (hM : vx_Met l y ws rm Pc Qc XC mc ms free) (hblind : FrameBlind Pc) (hrc : rm.cells = mc) (hrs : rm.slots = ms)
    (hframes : rm.frames + 1 ≤ R.frames) (hlocals : W9 + (maxL + 11) + rm.locals ≤ R.locals)
    (hws : ∀ w ∈ ws, ∀ a' U, s.WarmedH U.vm → w.before a' U = true) (hcode : Cond.code y bytes maxL ret ∈ ws) (hinit : ∀ a' U, s.WarmedH U.vm → (Cond.initialized y.cls).before a' U = true) :
    vx_Back l R p e below s sargs y len W9 (PreOf R mc ms Pc) (PostOf Qc mc ms free) (vx_Post XC mc ms free) := by
  intro m meth c A g ig mk a X hg hsize hdg hW hn hp
  have h1 : (headSpec ws rm).pre.before a A.U = true := atoms_intro fun w hw => hws w hw _ _ X.warmed
  have h2 : (Cond.code y bytes maxL ret).before a A.U = true := hws _ hcode _ _ X.warmed
  have h3 : (Cond.initialized y.cls).before a A.U = true := hinit _ _ X.warmed
  have h4 : A.cells + (headSpec ws rm).room.cells ≤ R.cells := by rw [show (headSpec ws rm).room.cells = mc from hrc]; exact hp.1
  have h5 : A.slots + (headSpec ws rm).room.slots ≤ R.slots := by rw [show (headSpec ws rm).room.slots = ms from hrs]; exact hp.2.1
  have hPc : Pc a (A.U.calling g mk a) := hblind _ _ _ _ hp.2.2
  obtain ⟨U, Ls, c0, s0⟩ := A
  dsimp only [Pt.U, Pt.locs, Pt.cells, Pt.slots] at h1 h2 h3 h4 h5 X hn hPc ⊢
  obtain ⟨methY, cY, hmY, hcY, -, hlY, -, -, -, -⟩ := Cond.code_spec hn h2
  obtain ⟨kY, hkY, -⟩ := className_of_methodNamed hn
  have hinitY : kY.init = .initialized := Cond.initialized_spec (findClass_of_methodNamed hn) hkY h3
  have h : At U g.method c below := by rw [hg]; exact X.here
  have hlocals9 : W9 + (maxL + 11) + (headSpec ws rm).room.locals ≤ R.locals := hlocals
  have happ : (headSpec ws rm).appliesLoose y e.platform (U.calling g mk a) = true :=
    Spec.appliesLoose_calling (g := g) h hdg hn hkY hinitY
      (X.room_calling (g := g) (R' := (headSpec ws rm).room) hsize hmY hcY hframes (by rw [hlY]; omega) h4 h5) h1
  obtain ⟨mid, hmid⟩ := h.above
  have hfr : (U.setTop g).frames = (.java g :: mid) ++ below := by rw [State.frames_setTop' g h.top, hmid]; rfl
  obtain ⟨o, s₂, hsteps, -, hend, hq⟩ := Steps.callFree hM p X.admits X.cas X.clock (acts := []) hfr happ hPc trivial
  have hq' : vx_Q Qc XC mc ms free a (U.calling g mk a) o s₂ := hq
  rw [State.frames_setTop' g h.top] at hend
  obtain ⟨g₀, hg0⟩ := Option.isSome_iff_exists.mp h.top
  obtain ⟨r, hr⟩ := State.topJava?_eq_some.mp hg0
  have hr' : (({ U with heap := s₂.heap, slotsUsed := s₂.slotsUsed } : State).setVm s₂.vm).frames = .java g₀ :: r := hr
  rcases hq' with ⟨hqc, L, hfe, hL⟩ | ⟨q, rfl, E, ce, L, hx, hce, hcv, hcl, hW₂, hsm, hL⟩
  · obtain ⟨⟨v, rfl⟩, hW₂, e2, q2, q3, q4, q5, q6⟩ := id hfe
    have e3 : s₂ = ({ (U.calling g mk a).setFrames s₂.frames with heap := s₂.heap, slotsUsed := s₂.slotsUsed } : State).setVm s₂.vm := by
      have : s₂ = ({ s₂ with vm := (U.calling g mk a).vm } : State).setVm s₂.vm := rfl
      rw [e2] at this
      exact this
    obtain ⟨c₂, i₂, len₂, hc₂, hd₂, hf₂⟩ := hend
    have hW' : U.WarmedH s₂.vm := hW₂
    have hcc : c₂ = c := by
      have h1 : s₂.code? g.method = U.code? g.method := by
        rw [State.code?_eq, State.code?_eq, hW'.alike.method?]
      exact Option.some.inj (hc₂.symm.trans (h1.trans h.code))
    subst hcc
    have hlen : len₂ = len := by rw [hdg] at hd₂; cases hd₂; rfl
    subst hlen
    have hs₂ : s₂ = (({ U with heap := s₂.heap, slotsUsed := s₂.slotsUsed } : State).setVm s₂.vm).setTop { g with pc := g.pc + len₂, stack := v.toList ++ g.stack } := by
      refine e3.trans ?_
      rw [hf₂, State.calling_eq h.top, State.setFrames_setFrames, State.setTop_of_frames _ hr', hr]
      rfl
    have hsame : U.sameButNew ({ U with heap := s₂.heap, slotsUsed := s₂.slotsUsed } : State) L mc ms := by
      refine ⟨?_, q2, q3, q4, q5, q6⟩
      obtain ⟨t, ht, -⟩ := State.frames_cons hr
      show ({ U with heap := s₂.heap, slotsUsed := s₂.slotsUsed } : State) = { U.setFrames U.frames with heap := s₂.heap, slotsUsed := s₂.slotsUsed }
      rw [State.setFrames_self ht]
    subst hg
    refine Or.inl ⟨v, ⟨(({ U with heap := s₂.heap, slotsUsed := s₂.slotsUsed } : State).setVm s₂.vm), Ls ++ L, c0 + mc, s0 + ms⟩,
      ⟨X.admits, X.cas, X.clock, X.frames, X.room, X.hears, X.method, X.code, (X.here.setHeapUsed s₂.heap s₂.slotsUsed).setVm hW'.alike, X.tail, State.WarmedH.trans X.warmed hW', X.limits, X.bytes, X.same.trans (hsame.setVm s.vm)⟩,
      ⟨g, mk, s₂, L, rfl, rfl, hqc, rfl, hL, rfl, rfl⟩, ?_⟩
    show Steps p.tables e below _ ((({ U with heap := s₂.heap, slotsUsed := s₂.slotsUsed } : State).setVm s₂.vm).setTop { g with pc := g.pc + len₂, stack := v.toList ++ g.stack })
    rw [← hs₂]
    exact hsteps
  · obtain ⟨e2, q2, q3, q4, q5, q6⟩ := id hsm
    have e3 : s₂ = ({ (U.calling g mk a).setFrames s₂.frames with heap := s₂.heap, slotsUsed := s₂.slotsUsed } : State).setVm s₂.vm := by
      have : s₂ = ({ s₂ with vm := (U.calling g mk a).vm } : State).setVm s₂.vm := rfl
      rw [e2] at this
      exact this
    have hf₂ : s₂.frames = .throwing q :: .java g :: U.frames.tail := hend
    have hW' : U.WarmedH s₂.vm := hW₂
    have hs₂ : s₂ = ((({ U with heap := s₂.heap, slotsUsed := s₂.slotsUsed } : State).setVm s₂.vm).setTop g).pushFrame (.throwing q) := by
      refine e3.trans ?_
      rw [hf₂, State.calling_eq h.top, State.setFrames_setFrames, State.pushFrame, State.frames_setTop _ hr', State.setTop_of_frames _ hr', State.setFrames_setFrames, hr]
      rfl
    have hsame : U.sameButNew ({ U with heap := s₂.heap, slotsUsed := s₂.slotsUsed } : State) L mc ms := by
      refine ⟨?_, q2, q3, q4, q5, q6⟩
      obtain ⟨t, ht, -⟩ := State.frames_cons hr
      show ({ U with heap := s₂.heap, slotsUsed := s₂.slotsUsed } : State) = { U.setFrames U.frames with heap := s₂.heap, slotsUsed := s₂.slotsUsed }
      rw [State.setFrames_self ht]
    subst hg
    refine Or.inr ⟨q, ⟨(({ U with heap := s₂.heap, slotsUsed := s₂.slotsUsed } : State).setVm s₂.vm), Ls ++ L, c0 + mc, s0 + ms⟩,
      ⟨X.admits, X.cas, X.clock, X.frames, X.room, X.hears, X.method, X.code, (X.here.setHeapUsed s₂.heap s₂.slotsUsed).setVm hW'.alike, X.tail, State.WarmedH.trans X.warmed hW', X.limits, X.bytes, X.same.trans (hsame.setVm s.vm)⟩,
      ⟨g, mk, s₂, L, E, ce, rfl, rfl, hx, hce, hcv, hcl, rfl, hL, rfl, rfl⟩, ?_⟩
    show Steps p.tables e below _ (((({ U with heap := s₂.heap, slotsUsed := s₂.slotsUsed } : State).setVm s₂.vm).setTop g).pushFrame (.throwing q))
    rw [← hs₂]
    exact hsteps
end Payer
section Calls
variable {p : Program} {l : Launch} {e : Env} {R : Room} {s : State} {m : MethodId} {args : Array Value} {below : List Frame} {meth : Method} {c : Code} {T : State} {locs : List Loc} {cells slots : Nat}
theorem vx_callV (X : Stand p l e R s m args below meth c T locs cells slots) (hexec : p.tables.exec = Jvm.exec) {own C : String} {index : Nat} {y : MethodName} {bytes : ByteArray} {maxL : Nat} {ret : Option FieldType}
    (hown : s.vm.findClass own = some m.cls) (hlink : (Cond.methodLink own index y).before args s = true) (hinst : (Cond.instanceMethod y).before args s = true) (hsel : (Cond.selects C y y).before args s = true)
    (hcode : (Cond.code y bytes maxL ret).before args s = true) (hy : y.cls ≠ "java/lang/invoke/MethodHandle" ∧ y.cls ≠ "java/lang/invoke/VarHandle")
    {W9 : Nat} {Pre : Pt → Array Value → Prop} {Post : Pt → Array Value → Option Value → Pt → Prop} {PostX : Pt → Array Value → Addr → Pt → Prop} (hK : vx_Back l R p e below s args y 3 W9 Pre Post PostX)
    {b : Addr} {cellB : Cell} (hcell : T.heap[b]? = some cellB) (hobj : cellB.vm.isStatics = false) (hcls : s.vm.findClass C = some cellB.cls)
    {g : JFrame} (hg : g.method = m) (hsize : g.locals.size = c.maxLocals) {argsL rest : List Value} (hlen : ∀ sig, parseMethodDescriptor y.desc = some sig → argsL.length = sig.parameters.length)
    (hstack : g.stack = argsL.reverse ++ .ref b :: rest) (hW : 2 * g.monitorRoom + (rest.map fun v => v.category).sum ≤ W9) (hdg : decode c.code g.pc = .ok (.invokevirtual index, 3))
    (hpre : ∀ vm₁, s.WarmedH vm₁ → Pre ⟨T.setVm vm₁, locs, cells, slots⟩ (Value.ref b :: argsL).toArray) :
    (∃ (v : Option Value) (vm₁ : Vm) (B : Pt), s.WarmedH vm₁ ∧ Stand p l e R s m args below meth c B.U B.locs B.cells B.slots ∧ Post ⟨T.setVm vm₁, locs, cells, slots⟩ (Value.ref b :: argsL).toArray v B ∧
      ∀ target, Steps p.tables e below (B.U.setTop { g with pc := g.pc + 3, stack := v.toList ++ rest }) target → Steps p.tables e below (T.setTop g) target) ∨
    (∃ (q : Addr) (vm₁ : Vm) (B : Pt), s.WarmedH vm₁ ∧ Stand p l e R s m args below meth c B.U B.locs B.cells B.slots ∧ PostX ⟨T.setVm vm₁, locs, cells, slots⟩ (Value.ref b :: argsL).toArray q B ∧
      Steps p.tables e below (T.setTop g) ((B.U.setTop { g with stack := rest }).pushFrame (.throwing q))) := by
  obtain ⟨mk, methM, hnamed, hmethM, hstM, habM⟩ := Cond.instanceMethod_spec hinst
  obtain ⟨methM', cM, hmethM', -, -, -, -, -, -, hsigM⟩ := Cond.code_spec hnamed hcode
  cases hmethM.symm.trans hmethM'
  obtain ⟨c2, r2, m2, q1, q2, q3, q4, kP, hkP, hkPi⟩ := Cond.selects_spec hsel
  cases hcls.symm.trans q1
  cases (State.methodFound?_of_named hnamed hy).symm.trans q2
  cases hnamed.symm.trans q3
  have hselP : selectMethod e.platform s.vm cellB.cls mk = .method mk := by rw [Launch.admits_selectMethod X.admits]; exact q4
  obtain ⟨vm₁, X₁, hstep₁⟩ := X.invokevirtual hexec hown hlink hnamed hmethM hstM hkP hkPi hy (a := b) (cell := cellB) hcell
    (fun z h => by rw [h] at hobj; cases hobj) hselP hmethM habM hkP hkPi (g := g) hg (argsL := argsL) (rest := rest) (hlen _ hsigM) hstack hdg
  rcases hK m meth c ⟨T.setVm vm₁, locs, cells, slots⟩ { g with stack := rest } (.invokevirtual index) mk (Value.ref b :: argsL).toArray X₁ hg hsize hdg hW (X₁.named hnamed) (hpre vm₁ X₁.warmed) with ⟨v, B, X', hpost, hsteps⟩ | ⟨q, B, X', hpost, hsteps⟩
  · exact Or.inl ⟨v, vm₁, B, X₁.warmed, X', hpost, fun target h => hstep₁ _ fun acts => by rw [doInvoke_state]; exact hsteps.trans h⟩
  · exact Or.inr ⟨q, vm₁, B, X₁.warmed, X', hpost, hstep₁ _ fun acts => by rw [doInvoke_state]; exact hsteps⟩
theorem vx_callS (X : Stand p l e R s m args below meth c T locs cells slots) (hexec : p.tables.exec = Jvm.exec) {own : String} {index : Nat} {y : MethodName} {bytes : ByteArray} {maxL : Nat} {ret : Option FieldType}
    (hown : s.vm.findClass own = some m.cls) (hlink : (Cond.methodLink own index y).before args s = true) (hstat : (Cond.static y).before args s = true) (hinit : (Cond.initialized y.cls).before args s = true)
    (hcode : (Cond.code y bytes maxL ret).before args s = true) (hy : y.cls ≠ "java/lang/invoke/MethodHandle" ∧ y.cls ≠ "java/lang/invoke/VarHandle")
    {W9 : Nat} {Pre : Pt → Array Value → Prop} {Post : Pt → Array Value → Option Value → Pt → Prop} {PostX : Pt → Array Value → Addr → Pt → Prop} (hK : vx_Back l R p e below s args y 3 W9 Pre Post PostX)
    {g : JFrame} (hg : g.method = m) (hsize : g.locals.size = c.maxLocals) {argsL rest : List Value} (hlen : ∀ sig, parseMethodDescriptor y.desc = some sig → argsL.length = sig.parameters.length)
    (hstack : g.stack = argsL.reverse ++ rest) (hW : 2 * g.monitorRoom + (rest.map fun v => v.category).sum ≤ W9) (hdg : decode c.code g.pc = .ok (.invokestatic index, 3))
    (hpre : ∀ vm₁, s.WarmedH vm₁ → Pre ⟨T.setVm vm₁, locs, cells, slots⟩ argsL.toArray) :
    (∃ (v : Option Value) (vm₁ : Vm) (B : Pt), s.WarmedH vm₁ ∧ Stand p l e R s m args below meth c B.U B.locs B.cells B.slots ∧ Post ⟨T.setVm vm₁, locs, cells, slots⟩ argsL.toArray v B ∧
      ∀ target, Steps p.tables e below (B.U.setTop { g with pc := g.pc + 3, stack := v.toList ++ rest }) target → Steps p.tables e below (T.setTop g) target) ∨
    (∃ (q : Addr) (vm₁ : Vm) (B : Pt), s.WarmedH vm₁ ∧ Stand p l e R s m args below meth c B.U B.locs B.cells B.slots ∧ PostX ⟨T.setVm vm₁, locs, cells, slots⟩ argsL.toArray q B ∧
      Steps p.tables e below (T.setTop g) ((B.U.setTop { g with stack := rest }).pushFrame (.throwing q))) := by
  obtain ⟨mk, hnamed⟩ := Cond.code_named hcode
  obtain ⟨methM, cM, hmethM, -, -, -, -, -, -, hsigM⟩ := Cond.code_spec hnamed hcode
  have hstatic : methM.isStatic = true := Cond.static_spec hnamed hmethM hstat
  obtain ⟨kP, hkP, -⟩ := className_of_methodNamed hnamed
  have hinitP : kP.init = .initialized := Cond.initialized_spec (findClass_of_methodNamed hnamed) hkP hinit
  obtain ⟨vm₁, X₁, hstep₁⟩ := X.invokestatic hexec hown hlink hnamed hmethM hstatic hkP hinitP hy (g := g) hg (argsL := argsL) (rest := rest) (hlen _ hsigM) hstack hdg
  rcases hK m meth c ⟨T.setVm vm₁, locs, cells, slots⟩ { g with stack := rest } (.invokestatic index) mk argsL.toArray X₁ hg hsize hdg hW (X₁.named hnamed) (hpre vm₁ X₁.warmed) with ⟨v, B, X', hpost, hsteps⟩ | ⟨q, B, X', hpost, hsteps⟩
  · exact Or.inl ⟨v, vm₁, B, X₁.warmed, X', hpost, fun target h => hstep₁ _ fun acts => by rw [doInvoke_state]; exact hsteps.trans h⟩
  · exact Or.inr ⟨q, vm₁, B, X₁.warmed, X', hpost, hstep₁ _ fun acts => by rw [doInvoke_state]; exact hsteps⟩
end Calls
theorem vx_cls {s : State} {T : State} {vm₁ : Vm} {E : String} {k : ClassId} (hW : s.WarmedH vm₁) (h : (T.setVm vm₁).vm.findClass E = some k) : s.vm.findClass E = some k := by
  have h1 : vm₁.findClass E = some k := h
  rw [hW.alike.findClass] at h1
  exact h1
/-- the method's frame g, with q thrown over it -/
def vx_W (p : Program) (l : Launch) (e : Env) (R : Room) (s : State) (m : MethodId) (args : Array Value) (below : List Frame) (meth : Method) (c : Code) (H : Heap) (locs : List Loc) (cells slots : Nat) (Q : State → Prop) (g : JFrame) (q : Addr) : Prop :=
  ∀ T : State, T.heap = H → Stand p l e R s m args below meth c T locs cells slots → ∃ t, Steps p.tables e below ((T.setTop g).pushFrame (.throwing q)) t ∧ Q t
def vx_Run (p : Program) (l : Launch) (e : Env) (R : Room) (s : State) (m : MethodId) (args : Array Value) (below : List Frame) (meth : Method) (c : Code) (H : Heap) (locs : List Loc) (cells slots mc ms : Nat) (g : JFrame) (rest : List Value) (Qa : State → Outcome → State → Prop) (XC : String → State → State → Prop) (free : Addr → Prop) : Prop :=
  ∀ T : State, T.heap = H → Stand p l e R s m args below meth c T locs cells slots →
    (∃ (v : Option Value) (st₀ t T' : State) (L : List Loc), st₀.heap = H ∧ Stand p l e R s m args below meth c T' (locs ++ L) (cells + mc) (slots + ms) ∧ (∀ q ∈ L, free q.base) ∧ T'.heap = t.heap ∧ T'.vm = t.vm ∧ Qa st₀ (.returned v) t ∧
      Goes p e below T g T' { g with pc := g.pc + 3, stack := v.toList ++ rest }) ∨
    (∃ (q : Addr) (st₀ t T' : State) (L : List Loc) (E : String) (ce : Cell), st₀.heap = H ∧ Stand p l e R s m args below meth c T' (locs ++ L) (cells + mc) (slots + ms) ∧ (∀ z ∈ L, free z.base) ∧ T'.heap = t.heap ∧ T'.vm = t.vm ∧ XC E st₀ t ∧ t.heap[q]? = some ce ∧ ce.vm = .none ∧ s.vm.findClass E = some ce.cls ∧
      Steps p.tables e below (T.setTop g) ((T'.setTop { g with stack := rest }).pushFrame (.throwing q)))
def vx_X {S : Type} (px : S → Prop) (B : String → S → State → Prop) (A : Nat → Prop) : String → State → State → Prop := fun E st t => ∃ u : S, px u ∧ B E u t ∧ va_F A st t
section Runs
variable {p : Program} {l : Launch} {e : Env} {R : Room} {s : State} {m : MethodId} {args : Array Value} {below : List Frame} {meth : Method} {c : Code} {H : Heap} {locs : List Loc} {cells slots : Nat}
variable {y : MethodName} {bytes cc : ByteArray} {maxL nL mc ms n index : Nat} {ret : Option FieldType} {ws : List Cond} {rm : Room} {Pc : Array Value → State → Prop} {Qc : Array Value → State → Outcome → State → Prop} {XC : String → State → State → Prop} {free : Addr → Prop} {Ts : List Cond} {own C : String} {b : Addr} {As rest : List Value} {g : JFrame}
theorem vx_callBack (cb : CallB R s args own index y bytes maxL ret ws rm mc ms n) (hM : vx_Met l y ws rm Pc Qc XC mc ms free) (hbl : FrameBlind Pc) : vx_Back l R p e below s args y 3 8 (PreOf R mc ms Pc) (PostOf Qc mc ms free) (vx_Post XC mc ms free) := by
  obtain ⟨hrc, hrs, hfr, hlo, hws, hcw, -, hini, -⟩ := cb
  exact vx_back (bytes := bytes) (maxL := maxL) (ret := ret) hM hbl hrc hrs hfr hlo hws hcw (fun a' U hW => word_at hW (Or.inl (by first | rfl | simp [Cond.onTables, Cond.keeps, Cond.steady])) hini)
theorem vx_runV (S : CallFix p m c cc nL s args Ts own) (hM : vx_Met l y ws rm Pc Qc XC mc ms free) (cw : CallW R s args own C index y bytes maxL ret ws rm mc ms n) (hp : PreV s H C b Pc As)
    (hg : g.method = m) (hn : As.length = n) (hsize : g.locals.size = nL) (hstack : g.stack = As.reverse ++ .ref b :: rest) (hW : 2 * g.monitorRoom + (rest.map fun v => v.category).sum ≤ 8) (hdg : decode cc g.pc = .ok (.invokevirtual index, 3)) (hf : cells + mc ≤ R.cells ∧ slots + ms ≤ R.slots) :
    vx_Run p l e R s m args below meth c H locs cells slots mc ms g rest (Qc (Value.ref b :: As).toArray) XC free := by
  have hK : vx_Back l R p e below s args y 3 8 (PreOf R mc ms Pc) (PostOf Qc mc ms free) (vx_Post XC mc ms free) := vx_callBack cw.1 hM hp.1
  obtain ⟨⟨-, -, -, -, -, -, hcode, -, hy, hlen, hl⟩, hin, hse⟩ := cw
  obtain ⟨hx, hb, hml, ho, -⟩ := S
  obtain ⟨-, ⟨cellB, hcB, hoB, hclB⟩, hPc⟩ := hp
  intro T hT X
  rcases vx_callV X hx (C := C) (bytes := bytes) (maxL := maxL) (ret := ret) ho hl hin hse hcode hy hK (by rw [hT]; exact hcB) hoB hclB hg (hsize.trans hml.symm) (argsL := As) (rest := rest) (fun sig h => hn.trans (hlen sig h)) hstack hW (by rw [hb]; exact hdg)
    (fun vm₁ hW₁ => ⟨hf.1, hf.2, hPc (T.setVm vm₁) hT hW₁⟩) with ⟨v, vm₁, ⟨U', l2, c2, s2⟩, hW₁, X', ⟨g', mk, t, L, e1, e2, hq, h1, hL, h2, h3⟩, st⟩ | ⟨q, vm₁, ⟨U', l2, c2, s2⟩, hW₁, X', ⟨g', mk, t, L, E, ce, e1, e2, hq, hce, hcv, hcl, h1, hL, h2, h3⟩, st⟩
  · dsimp only [Pt.U, Pt.locs, Pt.cells, Pt.slots] at X' e1 e2 h1 h2 h3 st
    subst h1; subst h2; subst h3
    exact Or.inl ⟨v, (T.setVm vm₁).calling g' mk (Value.ref b :: As).toArray, t, U', L, hT, X', hL, e1, e2, hq, st⟩
  · dsimp only [Pt.U, Pt.locs, Pt.cells, Pt.slots] at X' e1 e2 h1 h2 h3 st hcl
    subst h1; subst h2; subst h3
    exact Or.inr ⟨q, (T.setVm vm₁).calling g' mk (Value.ref b :: As).toArray, t, U', L, E, ce, hT, X', hL, e1, e2, hq, hce, hcv, vx_cls hW₁ hcl, st⟩
theorem vx_runS (S : CallFix p m c cc nL s args Ts own) (hM : vx_Met l y ws rm Pc Qc XC mc ms free) (cw : CallB R s args own index y bytes maxL ret ws rm mc ms n ∧ (Cond.static y).before args s = true) (hp : PreS s H Pc As)
    (hg : g.method = m) (hn : As.length = n) (hsize : g.locals.size = nL) (hstack : g.stack = As.reverse ++ rest) (hW : 2 * g.monitorRoom + (rest.map fun v => v.category).sum ≤ 8) (hdg : decode cc g.pc = .ok (.invokestatic index, 3)) (hf : cells + mc ≤ R.cells ∧ slots + ms ≤ R.slots) :
    vx_Run p l e R s m args below meth c H locs cells slots mc ms g rest (Qc As.toArray) XC free := by
  have hK : vx_Back l R p e below s args y 3 8 (PreOf R mc ms Pc) (PostOf Qc mc ms free) (vx_Post XC mc ms free) := vx_callBack cw.1 hM hp.1
  obtain ⟨⟨-, -, -, -, -, -, hcode, hini, hy, hlen, hl⟩, hstt⟩ := cw
  obtain ⟨hx, hb, hml, ho, -⟩ := S
  intro T hT X
  rcases vx_callS X hx (bytes := bytes) (maxL := maxL) (ret := ret) ho hl hstt hini hcode hy hK hg (hsize.trans hml.symm) (argsL := As) (rest := rest) (fun sig h => hn.trans (hlen sig h)) hstack hW (by rw [hb]; exact hdg)
    (fun vm₁ hW₁ => ⟨hf.1, hf.2, hp.2 (T.setVm vm₁) hT hW₁⟩) with ⟨v, vm₁, ⟨U', l2, c2, s2⟩, hW₁, X', ⟨g', mk, t, L, e1, e2, hq, h1, hL, h2, h3⟩, st⟩ | ⟨q, vm₁, ⟨U', l2, c2, s2⟩, hW₁, X', ⟨g', mk, t, L, E, ce, e1, e2, hq, hce, hcv, hcl, h1, hL, h2, h3⟩, st⟩
  · dsimp only [Pt.U, Pt.locs, Pt.cells, Pt.slots] at X' e1 e2 h1 h2 h3 st
    subst h1; subst h2; subst h3
    exact Or.inl ⟨v, (T.setVm vm₁).calling g' mk As.toArray, t, U', L, hT, X', hL, e1, e2, hq, st⟩
  · dsimp only [Pt.U, Pt.locs, Pt.cells, Pt.slots] at X' e1 e2 h1 h2 h3 st hcl
    subst h1; subst h2; subst h3
    exact Or.inr ⟨q, (T.setVm vm₁).calling g' mk As.toArray, t, U', L, E, ce, hT, X', hL, e1, e2, hq, hce, hcv, vx_cls hW₁ hcl, st⟩
end Runs
section Rows
variable {p : Program} {l : Launch} {e : Env} {R : Room} {s : State} {m : MethodId} {args : Array Value} {below : List Frame} {meth : Method} {c : Code} {H : Heap} {locs : List Loc} {cells slots : Nat} {Q : State → Prop}
variable {mc ms : Nat} {free : Addr → Prop} {A0 A1 : Nat → Prop} {H0 : Heap} {a : Array Value} {pc : Nat} {ls : Array Slot} {st0 rest : List Value}
theorem vx_keep {st₀ t T' : State} {L : List Loc} (h0 : st₀.heap = H) (e1 : T'.heap = t.heap) (hS : va_S A0 H0 H locs) (hA : ∀ q, q < H.size → A1 q → A0 q) (hf : ∀ q, free q → A0 q) (hL : ∀ q ∈ L, free q.base) (hF : va_F A1 st₀ t) :
    H.size ≤ T'.heap.size ∧ (∀ q : Nat, q < H.size → ¬ A1 q → T'.heap[q]? = H[q]?) ∧ va_S A0 H0 T'.heap (locs ++ L) := by
  obtain ⟨hz, hk⟩ := hF
  rw [h0] at hz hk
  exact ⟨by rw [e1]; exact hz, fun q h1 h2 => by rw [e1]; exact hk q h1 h2,
    ⟨Nat.le_trans hS.1 (by rw [e1]; exact hz), fun q h1 h2 => by rw [e1, hk q (Nat.lt_of_lt_of_le h1 hS.1) (fun z => h2 (hA q (Nat.lt_of_lt_of_le h1 hS.1) z))]; exact hS.2.1 q h1 h2, fun q hq => by
      rcases List.mem_append.mp hq with h | h
      · exact hS.2.2 q h
      · exact hf _ (hL q h)⟩⟩
theorem vx_calli {S SX : Type} {post : Int32 → S → Prop} {px : SX → Prop} {B : S → State → Prop} {BX : String → SX → State → Prop} {AX : Nat → Prop} (hr : vx_Run p l e R s m args below meth c H locs cells slots mc ms (F0 m pc ls st0) rest (va_Qi post B A1 a) (vx_X px BX AX) free) (hS : va_S A0 H0 H locs) (hA : ∀ q, q < H.size → A1 q → A0 q) (hf : ∀ q, free q → A0 q) (hAX : ∀ q, q < H.size → AX q → A0 q)
    (kx : ∀ (E : String) (ce : Cell) (q9 : Addr) (u : SX) (t : State) (H1 : Heap) (locs1 : List Loc), t.heap = H1 → s.vm.Alike t.vm → px u → BX E u t → H.size ≤ H1.size → (∀ q : Nat, q < H.size → ¬ AX q → H1[q]? = H[q]?) → va_S A0 H0 H1 locs1 → H1[q9]? = some ce → ce.vm = .none → s.vm.findClass E = some ce.cls → vx_W p l e R s m args below meth c H1 locs1 (cells + mc) (slots + ms) Q (F0 m pc ls rest) q9)
    (kk : ∀ (r : Int32) (u : S) (t : State) (H1 : Heap) (locs1 : List Loc), t.heap = H1 → s.vm.Alike t.vm → post r u → B u t → H.size ≤ H1.size → (∀ q : Nat, q < H.size → ¬ A1 q → H1[q]? = H[q]?) → va_S A0 H0 H1 locs1 → W p l e R s m args below meth c H1 locs1 (cells + mc) (slots + ms) Q (F0 m (pc + 3) ls (.int r :: rest))) : W p l e R s m args below meth c H locs cells slots Q (F0 m pc ls st0) := by
  intro T hT X
  rcases hr T hT X with ⟨v, st₀, t, T', L, h0, X', hL, e1, e2, ⟨⟨r, u, hv, hp, hb⟩, hF⟩, st⟩ | ⟨q, st₀, t, T', L, E, ce, h0, X', hL, e1, e2, ⟨u, hp, hb, hF⟩, hce, hcv, hcl, st⟩
  · cases hv
    obtain ⟨k1, k2, k3⟩ := vx_keep h0 e1 hS hA hf hL hF
    obtain ⟨t2, a1, b1⟩ := kk r u t T'.heap (locs ++ L) e1.symm (by rw [← e2]; exact X'.warmed.alike) hp hb k1 k2 k3 T' rfl X'
    exact ⟨t2, st t2 a1, b1⟩
  · obtain ⟨k1, k2, k3⟩ := vx_keep h0 e1 hS hAX hf hL hF
    obtain ⟨t2, a1, b1⟩ := kx E ce q u t T'.heap (locs ++ L) e1.symm (by rw [← e2]; exact X'.warmed.alike) hp hb k1 k2 k3 (by rw [e1]; exact hce) hcv hcl T' rfl X'
    exact ⟨t2, st.trans a1, b1⟩
theorem vx_calll {S SX : Type} {post : Int64 → S → Prop} {px : SX → Prop} {B : S → State → Prop} {BX : String → SX → State → Prop} {AX : Nat → Prop} (hr : vx_Run p l e R s m args below meth c H locs cells slots mc ms (F0 m pc ls st0) rest (va_Ql post B A1 a) (vx_X px BX AX) free) (hS : va_S A0 H0 H locs) (hA : ∀ q, q < H.size → A1 q → A0 q) (hf : ∀ q, free q → A0 q) (hAX : ∀ q, q < H.size → AX q → A0 q)
    (kx : ∀ (E : String) (ce : Cell) (q9 : Addr) (u : SX) (t : State) (H1 : Heap) (locs1 : List Loc), t.heap = H1 → s.vm.Alike t.vm → px u → BX E u t → H.size ≤ H1.size → (∀ q : Nat, q < H.size → ¬ AX q → H1[q]? = H[q]?) → va_S A0 H0 H1 locs1 → H1[q9]? = some ce → ce.vm = .none → s.vm.findClass E = some ce.cls → vx_W p l e R s m args below meth c H1 locs1 (cells + mc) (slots + ms) Q (F0 m pc ls rest) q9)
    (kk : ∀ (r : Int64) (u : S) (t : State) (H1 : Heap) (locs1 : List Loc), t.heap = H1 → s.vm.Alike t.vm → post r u → B u t → H.size ≤ H1.size → (∀ q : Nat, q < H.size → ¬ A1 q → H1[q]? = H[q]?) → va_S A0 H0 H1 locs1 → W p l e R s m args below meth c H1 locs1 (cells + mc) (slots + ms) Q (F0 m (pc + 3) ls (.long r :: rest))) : W p l e R s m args below meth c H locs cells slots Q (F0 m pc ls st0) := by
  intro T hT X
  rcases hr T hT X with ⟨v, st₀, t, T', L, h0, X', hL, e1, e2, ⟨⟨r, u, hv, hp, hb⟩, hF⟩, st⟩ | ⟨q, st₀, t, T', L, E, ce, h0, X', hL, e1, e2, ⟨u, hp, hb, hF⟩, hce, hcv, hcl, st⟩
  · cases hv
    obtain ⟨k1, k2, k3⟩ := vx_keep h0 e1 hS hA hf hL hF
    obtain ⟨t2, a1, b1⟩ := kk r u t T'.heap (locs ++ L) e1.symm (by rw [← e2]; exact X'.warmed.alike) hp hb k1 k2 k3 T' rfl X'
    exact ⟨t2, st t2 a1, b1⟩
  · obtain ⟨k1, k2, k3⟩ := vx_keep h0 e1 hS hAX hf hL hF
    obtain ⟨t2, a1, b1⟩ := kx E ce q u t T'.heap (locs ++ L) e1.symm (by rw [← e2]; exact X'.warmed.alike) hp hb k1 k2 k3 (by rw [e1]; exact hce) hcv hcl T' rfl X'
    exact ⟨t2, st.trans a1, b1⟩
theorem vx_callf {S SX : Type} {post : UInt32 → S → Prop} {px : SX → Prop} {B : S → State → Prop} {BX : String → SX → State → Prop} {AX : Nat → Prop} (hr : vx_Run p l e R s m args below meth c H locs cells slots mc ms (F0 m pc ls st0) rest (va_Qf post B A1 a) (vx_X px BX AX) free) (hS : va_S A0 H0 H locs) (hA : ∀ q, q < H.size → A1 q → A0 q) (hf : ∀ q, free q → A0 q) (hAX : ∀ q, q < H.size → AX q → A0 q)
    (kx : ∀ (E : String) (ce : Cell) (q9 : Addr) (u : SX) (t : State) (H1 : Heap) (locs1 : List Loc), t.heap = H1 → s.vm.Alike t.vm → px u → BX E u t → H.size ≤ H1.size → (∀ q : Nat, q < H.size → ¬ AX q → H1[q]? = H[q]?) → va_S A0 H0 H1 locs1 → H1[q9]? = some ce → ce.vm = .none → s.vm.findClass E = some ce.cls → vx_W p l e R s m args below meth c H1 locs1 (cells + mc) (slots + ms) Q (F0 m pc ls rest) q9)
    (kk : ∀ (r : UInt32) (u : S) (t : State) (H1 : Heap) (locs1 : List Loc), t.heap = H1 → s.vm.Alike t.vm → post r u → B u t → H.size ≤ H1.size → (∀ q : Nat, q < H.size → ¬ A1 q → H1[q]? = H[q]?) → va_S A0 H0 H1 locs1 → W p l e R s m args below meth c H1 locs1 (cells + mc) (slots + ms) Q (F0 m (pc + 3) ls (.float r :: rest))) : W p l e R s m args below meth c H locs cells slots Q (F0 m pc ls st0) := by
  intro T hT X
  rcases hr T hT X with ⟨v, st₀, t, T', L, h0, X', hL, e1, e2, ⟨⟨r, u, hv, hp, hb⟩, hF⟩, st⟩ | ⟨q, st₀, t, T', L, E, ce, h0, X', hL, e1, e2, ⟨u, hp, hb, hF⟩, hce, hcv, hcl, st⟩
  · cases hv
    obtain ⟨k1, k2, k3⟩ := vx_keep h0 e1 hS hA hf hL hF
    obtain ⟨t2, a1, b1⟩ := kk r u t T'.heap (locs ++ L) e1.symm (by rw [← e2]; exact X'.warmed.alike) hp hb k1 k2 k3 T' rfl X'
    exact ⟨t2, st t2 a1, b1⟩
  · obtain ⟨k1, k2, k3⟩ := vx_keep h0 e1 hS hAX hf hL hF
    obtain ⟨t2, a1, b1⟩ := kx E ce q u t T'.heap (locs ++ L) e1.symm (by rw [← e2]; exact X'.warmed.alike) hp hb k1 k2 k3 (by rw [e1]; exact hce) hcv hcl T' rfl X'
    exact ⟨t2, st.trans a1, b1⟩
theorem vx_calld {S SX : Type} {post : UInt64 → S → Prop} {px : SX → Prop} {B : S → State → Prop} {BX : String → SX → State → Prop} {AX : Nat → Prop} (hr : vx_Run p l e R s m args below meth c H locs cells slots mc ms (F0 m pc ls st0) rest (va_Qd post B A1 a) (vx_X px BX AX) free) (hS : va_S A0 H0 H locs) (hA : ∀ q, q < H.size → A1 q → A0 q) (hf : ∀ q, free q → A0 q) (hAX : ∀ q, q < H.size → AX q → A0 q)
    (kx : ∀ (E : String) (ce : Cell) (q9 : Addr) (u : SX) (t : State) (H1 : Heap) (locs1 : List Loc), t.heap = H1 → s.vm.Alike t.vm → px u → BX E u t → H.size ≤ H1.size → (∀ q : Nat, q < H.size → ¬ AX q → H1[q]? = H[q]?) → va_S A0 H0 H1 locs1 → H1[q9]? = some ce → ce.vm = .none → s.vm.findClass E = some ce.cls → vx_W p l e R s m args below meth c H1 locs1 (cells + mc) (slots + ms) Q (F0 m pc ls rest) q9)
    (kk : ∀ (r : UInt64) (u : S) (t : State) (H1 : Heap) (locs1 : List Loc), t.heap = H1 → s.vm.Alike t.vm → post r u → B u t → H.size ≤ H1.size → (∀ q : Nat, q < H.size → ¬ A1 q → H1[q]? = H[q]?) → va_S A0 H0 H1 locs1 → W p l e R s m args below meth c H1 locs1 (cells + mc) (slots + ms) Q (F0 m (pc + 3) ls (.double r :: rest))) : W p l e R s m args below meth c H locs cells slots Q (F0 m pc ls st0) := by
  intro T hT X
  rcases hr T hT X with ⟨v, st₀, t, T', L, h0, X', hL, e1, e2, ⟨⟨r, u, hv, hp, hb⟩, hF⟩, st⟩ | ⟨q, st₀, t, T', L, E, ce, h0, X', hL, e1, e2, ⟨u, hp, hb, hF⟩, hce, hcv, hcl, st⟩
  · cases hv
    obtain ⟨k1, k2, k3⟩ := vx_keep h0 e1 hS hA hf hL hF
    obtain ⟨t2, a1, b1⟩ := kk r u t T'.heap (locs ++ L) e1.symm (by rw [← e2]; exact X'.warmed.alike) hp hb k1 k2 k3 T' rfl X'
    exact ⟨t2, st t2 a1, b1⟩
  · obtain ⟨k1, k2, k3⟩ := vx_keep h0 e1 hS hAX hf hL hF
    obtain ⟨t2, a1, b1⟩ := kx E ce q u t T'.heap (locs ++ L) e1.symm (by rw [← e2]; exact X'.warmed.alike) hp hb k1 k2 k3 (by rw [e1]; exact hce) hcv hcl T' rfl X'
    exact ⟨t2, st.trans a1, b1⟩
theorem vx_callv {S SX : Type} {post : S → Prop} {px : SX → Prop} {B : S → State → Prop} {BX : String → SX → State → Prop} {AX : Nat → Prop} (hr : vx_Run p l e R s m args below meth c H locs cells slots mc ms (F0 m pc ls st0) rest (va_Qv post B A1 a) (vx_X px BX AX) free) (hS : va_S A0 H0 H locs) (hA : ∀ q, q < H.size → A1 q → A0 q) (hf : ∀ q, free q → A0 q) (hAX : ∀ q, q < H.size → AX q → A0 q)
    (kx : ∀ (E : String) (ce : Cell) (q9 : Addr) (u : SX) (t : State) (H1 : Heap) (locs1 : List Loc), t.heap = H1 → s.vm.Alike t.vm → px u → BX E u t → H.size ≤ H1.size → (∀ q : Nat, q < H.size → ¬ AX q → H1[q]? = H[q]?) → va_S A0 H0 H1 locs1 → H1[q9]? = some ce → ce.vm = .none → s.vm.findClass E = some ce.cls → vx_W p l e R s m args below meth c H1 locs1 (cells + mc) (slots + ms) Q (F0 m pc ls rest) q9)
    (kk : ∀ (u : S) (t : State) (H1 : Heap) (locs1 : List Loc), t.heap = H1 → s.vm.Alike t.vm → post u → B u t → H.size ≤ H1.size → (∀ q : Nat, q < H.size → ¬ A1 q → H1[q]? = H[q]?) → va_S A0 H0 H1 locs1 → W p l e R s m args below meth c H1 locs1 (cells + mc) (slots + ms) Q (F0 m (pc + 3) ls (rest))) : W p l e R s m args below meth c H locs cells slots Q (F0 m pc ls st0) := by
  intro T hT X
  rcases hr T hT X with ⟨v, st₀, t, T', L, h0, X', hL, e1, e2, ⟨⟨u, hv, hp, hb⟩, hF⟩, st⟩ | ⟨q, st₀, t, T', L, E, ce, h0, X', hL, e1, e2, ⟨u, hp, hb, hF⟩, hce, hcv, hcl, st⟩
  · cases hv
    obtain ⟨k1, k2, k3⟩ := vx_keep h0 e1 hS hA hf hL hF
    obtain ⟨t2, a1, b1⟩ := kk u t T'.heap (locs ++ L) e1.symm (by rw [← e2]; exact X'.warmed.alike) hp hb k1 k2 k3 T' rfl X'
    exact ⟨t2, st t2 a1, b1⟩
  · obtain ⟨k1, k2, k3⟩ := vx_keep h0 e1 hS hAX hf hL hF
    obtain ⟨t2, a1, b1⟩ := kx E ce q u t T'.heap (locs ++ L) e1.symm (by rw [← e2]; exact X'.warmed.alike) hp hb k1 k2 k3 (by rw [e1]; exact hce) hcv hcl T' rfl X'
    exact ⟨t2, st.trans a1, b1⟩
/-- caught by the row x of this method's table; the rows ahead don't take it -/
theorem vx_catch {own name : String} {E : String} {ce : Cell} {q : Addr} (hown : s.vm.findClass own = some m.cls) (pre : List ExceptionTableEntry) (x : ExceptionTableEntry) (suf : List ExceptionTableEntry) (hsplit : c.exceptionTable.toList = pre ++ x :: suf)
    (hpass : ∀ z ∈ pre, covers z pc = false ∨ (z.catchType ≠ 0 ∧ ∃ nm : String, (Cond.classLink own z.catchType nm).before args s = true ∧ va_Nc E nm s)) (hx : covers x pc = true) (h0 : x.catchType ≠ 0)
    (hlink : (Cond.classLink own x.catchType name).before args s = true) (hcast : (Cond.castable E name).before args s = true) (hcell : H[q]? = some ce) (hv : ce.vm = .none) (hcl : s.vm.findClass E = some ce.cls)
    (kk : W p l e R s m args below meth c H locs cells slots Q (F0 m x.handlerPc ls [.ref q])) : vx_W p l e R s m args below meth c H locs cells slots Q (F0 m pc ls rest) q := by
  intro T hT X
  have hpl : e.platform.magicAccessors = ({} : Platform).magicAccessors := by rw [X.admits.platform]
  obtain ⟨c3, c4, hc3, hc4, hasg⟩ := Cond.castable_spec hcast
  cases Option.some.inj (hc3.symm.trans hcl)
  obtain ⟨c5, hc5, hcl5⟩ := Cond.classLink_spec hown hlink e.platform hpl
  cases Option.some.inj (hc4.symm.trans hc5)
  obtain ⟨vm', X', st⟩ := X.thenCaughtThrough q (g := F0 m pc ls rest) rfl (Steps.refl _) (by rw [hT]; exact hcell) (by rw [hv]; rfl) (by obtain ⟨k9, h9, -⟩ := Vm.findClass_spec hcl; exact ⟨k9, h9⟩) pre x suf hsplit
    (fun z hz => by
      rcases hpass z hz with h | ⟨hz0, nm, hl1, hn1⟩
      · exact Or.inl h
      · obtain ⟨c6, hc6, hcl6⟩ := Cond.classLink_spec hown hl1 e.platform hpl
        obtain ⟨a8, b8, h1, h2, h3⟩ := hn1
        cases Option.some.inj (h1.symm.trans hcl)
        cases Option.some.inj (h2.symm.trans hc6)
        exact Or.inr ⟨hz0, _, hcl6, h3⟩) hx (Or.inr ⟨h0, c4, hcl5, hasg⟩)
  obtain ⟨t, a1, b1⟩ := kk (T.setVm vm') hT X'
  exact ⟨t, st.trans a1, b1⟩
end Rows
section Ends
variable {p : Program} {l : Launch} {e : Env} {R : Room} {s : State} {m : MethodId} {args : Array Value} {below : List Frame} {meth : Method} {c : Code} {H : Heap} {locs : List Loc} {cells slots : Nat} {Q : State → Prop}
variable {mc ms : Nat} {free : Addr → Prop} {A0 A1 : Nat → Prop} {H0 : Heap} {a : Array Value} {ls : Array Slot} {st0 rest : List Value}
variable {Qc : Array Value → State → Outcome → State → Prop} {XC : String → State → State → Prop}
/-- what a body that may throw owes at its end -/
def vx_MQ (below : List Frame) (Qc : Array Value → State → Outcome → State → Prop) (XC : String → State → State → Prop) (a : Array Value) (s : State) (mc ms : Nat) (free : Addr → Prop) : State → Prop := fun t =>
  ∃ o, t.status = .running ∧ Ended t below o ∧ vx_Q Qc XC mc ms free a s o t
theorem vx_ret {g : JFrame} {mc ms : Nat} (k : W p l e R s m args below meth c H locs cells slots (MQ below Qc args s mc ms free) g) : W p l e R s m args below meth c H locs cells slots (vx_MQ below Qc XC args s mc ms free) g := by
  intro T hT X
  obtain ⟨t, a1, o, b1, b2, b3, b4⟩ := k T hT X
  exact ⟨t, a1, o, b1, b2, Or.inl ⟨b3, b4⟩⟩
/-- not caught here: it goes on to the caller -/
theorem vx_widen {g : JFrame} {q : Addr} {k n : Nat} (h1 : cells ≤ k) (h2 : slots ≤ n) (kk : vx_W p l e R s m args below meth c H locs k n Q g q) : vx_W p l e R s m args below meth c H locs cells slots Q g q := fun T hT X => kk T hT (stand_widen X h1 h2)
theorem vx_out {pc : Nat} {E : String} {ce : Cell} {q : Addr} {mc ms : Nat} (hout : ∀ x ∈ c.exceptionTable.toList, covers x pc = false) (hlocks : meth.locks = false) (hcell : H[q]? = some ce) (hv : ce.vm = .none) (hcl : s.vm.findClass E = some ce.cls)
    (hx : ∀ t : State, t.heap = H → s.vm.Alike t.vm → XC E s t) (hf : ∀ z ∈ locs, free z.base) (hc : cells ≤ mc) (hs : slots ≤ ms) :
    vx_W p l e R s m args below meth c H locs cells slots (vx_MQ below Qc XC args s mc ms free) (F0 m pc ls rest) q := by
  intro T hT X
  obtain ⟨st1, hrun, hend, hW, hsm⟩ := X.leaveThrown q (g := F0 m pc ls rest) rfl rfl rfl hout hlocks
  have hcell9 : (T.setFrames (.throwing q :: below)).heap[q]? = some ce := by
    show T.heap[q]? = some ce
    rw [hT]; exact hcell
  exact ⟨_, st1, .threw q, hrun, hend, Or.inr ⟨q, rfl, E, ce, locs, hx _ hT hW.alike, hcell9, hv, hcl, hW, hsm.mono hc hs, hf⟩⟩
theorem vx_frame {U : State} {k n : Nat} (h : s.sameButNew ({ U with vm := s.vm } : State) locs k n) : s.heap.size ≤ U.heap.size ∧ ∀ q : Nat, q < s.heap.size → (∀ z ∈ locs, z.base ≠ q) → U.heap[q]? = s.heap[q]? := by
  obtain ⟨-, h2, -, -, -, h6⟩ := h
  refine ⟨h2, fun q hq hz => ?_⟩
  obtain ⟨c9, e1, e2, e3, e4⟩ := h6 q _ (Array.getElem?_eq_getElem hq)
  have hs : c9.slots = (s.heap[q]).slots := Array.ext_getElem? fun i => e4 i fun hm => hz _ hm rfl
  have h9 : c9 = s.heap[q] := by
    rw [hs] at e2
    exact e2
  have e5 : U.heap[q]? = some c9 := e1
  rw [e5, h9, Array.getElem?_eq_getElem hq]
/-- the words of a throw but the four that speak of the heap -/
def vx_no (w : Cond) : Bool := decide (w ≠ .isRef (.static Bundle.tN "UNASSIGNED_STACK" Bundle.steD)) && decide (w ≠ .isRef (.static Bundle.tN "SUPPRESSED_SENTINEL" Bundle.listD)) && decide (w ≠ .laysStatic Bundle.tN "UNASSIGNED_STACK" Bundle.steD) && decide (w ≠ .laysStatic Bundle.tN "SUPPRESSED_SENTINEL" Bundle.listD)
def vx_at0 (own : String) (ic : Nat) (X : String) (names : List String) : List Cond := (Bundle.ownAtoms0 own ic X names).filter vx_no
def vx_atS (own : String) (ic : Nat) (X : String) (names : List String) : List Cond := (Bundle.ownAtoms own ic X names).filter vx_no
/-- a word that the tables alone decide, or a good one -/
def vx_ot (w : Cond) : Bool := w.onTables || goodWord w
theorem vx_ot_at {args a' : Array Value} {s U : State} {w : Cond} (hW : s.WarmedH U.vm) (hvm : s.vm = U.vm) (hg : vx_ot w = true) (h : w.before args s = true) : w.before a' U = true := by
  simp only [vx_ot, Bool.or_eq_true] at hg
  rcases hg with hg | hg
  · exact va_tabs hg hvm h
  · exact word_at hW (good_of_word hg) h
/-- a list's words: the good ones out of the method's own list, the others by premises of their own -/
theorem vx_hat {args : Array Value} {s : State} {L B : List Cond} (h1 : ∀ w ∈ L.filter goodWord, w.before args s = true) (h2 : ∀ w ∈ L.filter (fun w => !goodWord w), w ∈ B) (h3 : ∀ w ∈ B, w.before args s = true) : ∀ w ∈ L, w.before args s = true := by
  intro w hw
  by_cases g : goodWord w = true
  · exact h1 w (List.mem_filter.mpr ⟨hw, g⟩)
  · refine h3 w (h2 w (List.mem_filter.mpr ⟨hw, ?_⟩))
    show (!goodWord w) = true
    cases hgw : goodWord w
    · rfl
    · exact absurd hgw g
theorem vx_c {args : Array Value} {s : State} {w : Cond} {B : List Cond} (h : w.before args s = true) (t : ∀ w ∈ B, w.before args s = true) : ∀ w' ∈ w :: B, w'.before args s = true := fun w' h' => (List.mem_cons.mp h').elim (fun e => by rw [e]; exact h) (t w')
theorem vx_n {args : Array Value} {s : State} : ∀ w ∈ ([] : List Cond), w.before args s = true := fun _ h => nomatch h
theorem vx_own {args : Array Value} {s : State} {L : List Cond} (h1 : ∀ w ∈ L.filter vx_no, w.before args s = true)
    (hU : (Cond.isRef (.static Bundle.tN "UNASSIGNED_STACK" Bundle.steD)).before args s = true) (hN : (Cond.isRef (.static Bundle.tN "SUPPRESSED_SENTINEL" Bundle.listD)).before args s = true)
    (lU : (Cond.laysStatic Bundle.tN "UNASSIGNED_STACK" Bundle.steD).before args s = true) (lN : (Cond.laysStatic Bundle.tN "SUPPRESSED_SENTINEL" Bundle.listD).before args s = true) : ∀ w ∈ L, w.before args s = true := by
  intro w hw
  by_cases e1 : w = .isRef (.static Bundle.tN "UNASSIGNED_STACK" Bundle.steD)
  · rw [e1]; exact hU
  · by_cases e2 : w = .isRef (.static Bundle.tN "SUPPRESSED_SENTINEL" Bundle.listD)
    · rw [e2]; exact hN
    · by_cases e3 : w = .laysStatic Bundle.tN "UNASSIGNED_STACK" Bundle.steD
      · rw [e3]; exact lU
      · by_cases e4 : w = .laysStatic Bundle.tN "SUPPRESSED_SENTINEL" Bundle.listD
        · rw [e4]; exact lN
        · exact h1 w (List.mem_filter.mpr ⟨hw, by unfold vx_no; rw [decide_eq_true e1, decide_eq_true e2, decide_eq_true e3, decide_eq_true e4]; rfl⟩)
/-- where a static field lies, its class's statics cell in H -/
def vx_L (C n d : String) (A : Nat → Prop) (U : State) (H : Heap) : Prop := ∃ (c : ClassId) (k : Class) (i : Nat) (f : Field) (a : Nat) (cell : Cell), U.vm.findClass C = some c ∧ U.fieldFound? C n d = some (c, k, i, f) ∧ f.isStatic = true ∧ k.statics = some a ∧ H[a]? = some cell ∧ cell.vm.isStatics = true ∧ cell.cls = c ∧ f.slot < cell.slots.size ∧ k.staticTypes[f.slot]? = some f.type ∧ ¬ A a
theorem vx_L.moved {C n d : String} {A : Nat → Prop} {u U : State} {H : Heap} (hvm : u.vm.Alike U.vm) (h : vx_L C n d A u H) : vx_L C n d A U H := by
  obtain ⟨c, k, i, f, a, cell, h1, h2, h3, h4, h5, h6, h7, h8, h9, h10⟩ := h
  obtain ⟨k', hi', he⟩ := State.fieldFound?_setVm hvm h2
  exact ⟨c, k', i, f, a, cell, by rw [hvm.findClass]; exact h1, hi', h3, by rw [he]; exact h4, h5, h6, h7, h8, by rw [he]; exact h9, h10⟩
theorem vx_L.kept {C n d : String} {A : Nat → Prop} {U : State} {H H1 : Heap} (h : vx_L C n d A U H) (hq : ∀ a : Nat, a < H.size → ¬ A a → H1[a]? = H[a]?) : vx_L C n d A U H1 := by
  obtain ⟨c, k, i, f, a, cell, h1, h2, h3, h4, h5, h6, h7, h8, h9, h10⟩ := h
  exact ⟨c, k, i, f, a, cell, h1, h2, h3, h4, by rw [hq a (Array.getElem?_eq_some_iff.mp h5).1 h10]; exact h5, h6, h7, h8, h9, h10⟩
theorem vx_L.narrow {C n d : String} {A B : Nat → Prop} {U : State} {H : Heap} (h : vx_L C n d A U H) (hAB : ∀ q, B q → A q) : vx_L C n d B U H := by
  obtain ⟨c, k, i, f, a, cell, h1, h2, h3, h4, h5, h6, h7, h8, h9, h10⟩ := h
  exact ⟨c, k, i, f, a, cell, h1, h2, h3, h4, h5, h6, h7, h8, h9, fun z => h10 (hAB _ z)⟩
theorem vx_L.word {C n d : String} {A : Nat → Prop} {s : State} {args : Array Value} (h : vx_L C n d A s s.heap) : (Cond.laysStatic C n d).before args s = true := by
  obtain ⟨c, k, i, f, a, cell, h1, h2, h3, h4, h5, h6, h7, h8, h9, -⟩ := h
  show (Cond.laysStatic C n d).holds args s none s [] = true
  exact Cond.laysStatic_of h1 h2 h3 h4 h5 h6 h7 h8 h9
/-- .. and what it holds: null or some reference -/
def vx_Zq (C n d : String) (A : Nat → Prop) (U : State) (H : Heap) : Prop := va_Zq C n d A U H ∧ vx_L C n d A U H
theorem vx_Zq.moved {C n d : String} {A : Nat → Prop} {u U : State} {H : Heap} (hvm : u.vm.Alike U.vm) (h : vx_Zq C n d A u H) : vx_Zq C n d A U H := ⟨va_Zq.moved hvm h.1, vx_L.moved hvm h.2⟩
theorem vx_Zq.kept {C n d : String} {A : Nat → Prop} {U : State} {H H1 : Heap} (h : vx_Zq C n d A U H) (hq : ∀ a : Nat, a < H.size → ¬ A a → H1[a]? = H[a]?) : vx_Zq C n d A U H1 := ⟨va_Zq.kept h.1 hq, vx_L.kept h.2 hq⟩
theorem vx_Zq.narrow {C n d : String} {A B : Nat → Prop} {U : State} {H : Heap} (h : vx_Zq C n d A U H) (hAB : ∀ q, B q → A q) : vx_Zq C n d B U H := ⟨va_Zq.narrow h.1 hAB, vx_L.narrow h.2 hAB⟩
theorem vx_Zqof {args : Array Value} {s : State} {C n d : String} {A : Nat → Prop} (hl : (Cond.laysStatic C n d).before args s = true) (hini : (Cond.initialized C).before args s = true) (h : (Cond.isRef (.static C n d)).before args s = true) (hA : ∀ a : Nat, a < s.heap.size → ¬ A a) : vx_Zq C n d A s s.heap := by
  refine ⟨va_Zqof hl hini h hA, ?_⟩
  obtain ⟨c, k, i, f, a, cell, h1, h2, h3, h4, h5, h6, h7, h8, h9⟩ := Cond.laysStatic_spec hl
  exact ⟨c, k, i, f, a, cell, h1, h2, h3, h4, h5, h6, h7, h8, h9, hA a (Array.getElem?_eq_some_iff.mp h5).1⟩
theorem vx_isRef {C n d : String} {v : Value} {A : Nat → Prop} {s : State} {args : Array Value} (h : va_Z C n d v A s s.heap) (hv : v.isRef = true) : (Cond.isRef (.static C n d)).before args s = true := by
  obtain ⟨cf, kf, fi, f, a, cell, h1, h2, h3, h4, h5, h6, h7, -⟩ := h
  have he : (Term.static C n d).eval args s none [] s = some v := by
    simp [Term.eval, State.fieldNamed?, h1, h2, h4, h5, h6, h7]
  simp only [Cond.before, Cond.holds, Cond.value, he]
  cases v <;> simp_all [Value.isRef]
theorem vx_isRefq {C n d : String} {A : Nat → Prop} {s : State} {args : Array Value} (h : va_Zq C n d A s s.heap) : (Cond.isRef (.static C n d)).before args s = true := by
  rcases h with h | ⟨t, h⟩
  · exact vx_isRef h rfl
  · exact vx_isRef h rfl
/-- the same frame, seen from here: as if the method were called anew in this heap -/
theorem vx_rebase {T : State} (X : Stand p l e R s m args below meth c T locs cells slots) {R' : Room} (hf : R'.frames ≤ R.frames) (hl : R'.locals ≤ R.locals) (hc : cells + R'.cells ≤ R.cells) (hs : slots + R'.slots ≤ R.slots) :
    Stand p l e R' ((T.setVm s.vm).setFrames (.invoking m args :: below)) m args below meth c T [] 0 0 := by
  have htop : (T.setVm s.vm).topJava?.isSome := X.here.top
  have hF : ((T.setVm s.vm).setFrames (.invoking m args :: below)).frames = .invoking m args :: below := State.frames_setFrames _ (State.cur_lt_of_top htop)
  obtain ⟨g₀, hg0⟩ := Option.isSome_iff_exists.mp htop
  obtain ⟨r, hr⟩ := State.topJava?_eq_some.mp hg0
  have hl9 : e.platform.stackLimits (T.setVm s.vm).me = e.platform.stackLimits s.me := X.limits
  have hb9 : (T.setVm s.vm).me.stackBytes = s.me.stackBytes := X.bytes
  refine ⟨X.admits, X.cas, X.clock, hF, ?_, X.hears, X.method, X.code, X.here, X.tail, X.warmed, ?_, ?_, ?_⟩
  · have h := X.room
    have hU : ((T.setVm s.vm).setFrames (.invoking m args :: below)).localsInUse = s.localsInUse := by
      rw [State.localsInUse_invoking hF (meth := meth) (c := c) X.method X.code, State.localsInUse_invoking X.frames X.method X.code]
    simp only [State.hasRoom, Bool.and_eq_true, decide_eq_true_eq] at h ⊢
    obtain ⟨⟨⟨⟨h1, h2, h3, h4, h5, h6⟩, h7⟩, h8⟩, h9⟩ := h
    rw [X.frames, List.length_cons] at h2 h3
    have q1 := X.heapSize
    have q2 := X.used
    simp only [hF, hU, List.length_cons, State.stackLimits_setFrames, State.stackBytes_setFrames, hl9, hb9]
    refine ⟨⟨⟨⟨by omega, by omega, by omega, by omega, by omega, h6⟩, ?_⟩, ?_⟩, X.book⟩
    · show T.heap.size + R'.cells ≤ e.platform.maxCells
      omega
    · show T.slotsUsed + R'.slots ≤ e.platform.maxSlots
      omega
  · rw [State.stackLimits_setFrames]; rfl
  · rw [State.stackBytes_setFrames]; rfl
  · refine ⟨?_, Nat.le_refl _, Nat.le_refl _, ?_, ?_, fun a c9 h9 => ⟨c9, h9, rfl, rfl, fun _ _ => rfl⟩⟩
    · obtain ⟨t, ht, -⟩ := State.frames_cons hr
      show T.setVm s.vm = { ((T.setVm s.vm).setFrames (.invoking m args :: below)).setFrames (T.setVm s.vm).frames with heap := T.heap, slotsUsed := T.slotsUsed }
      rw [State.setFrames_setFrames, State.setFrames_self ht]
      rfl
    · show T.slotsUsed = T.slotsUsed + ((T.heap.toList.drop T.heap.size).map (·.slots.size)).sum
      rw [List.drop_eq_nil_of_le (Nat.le_of_eq Array.length_toList)]
      rfl
    · show ((T.heap.toList.drop T.heap.size).map (·.slots.size)).sum ≤ 0
      rw [List.drop_eq_nil_of_le (Nat.le_of_eq Array.length_toList)]
      exact Nat.le_refl _
/-- 'throw new E()': new; dup; invokespecial; athrow -/
theorem vx_throw0 {cc : ByteArray} {pc : Nat} (hexec : p.tables.exec = Jvm.exec) (hb : c.code = cc) (hl : l.stackTraces = false) {own cls : String} {names : List String} {ik ic mc ms : Nat} {A : Nat → Prop}
    (hown : s.vm.findClass own = some m.cls) (hcls : Bundle.fit cls = true) (hnames : ∀ n ∈ names, Bundle.fit n = true)
    (hk : (Cond.classLink own ik cls).before args s = true) (hini : (Cond.initialized cls).before args s = true) (hat : ∀ w ∈ vx_at0 own ic cls names, w.before args s = true)
    (hgood : ∀ w ∈ Cond.classLink own ik cls :: Cond.initialized cls :: vx_at0 own ic cls names, vx_ot w = true)
    (hU : vx_Zq Bundle.tN "UNASSIGNED_STACK" Bundle.steD A s s.heap) (hN : vx_Zq Bundle.tN "SUPPRESSED_SENTINEL" Bundle.listD A s s.heap) (hS : va_S A s.heap H locs) (hsize : ls.size = c.maxLocals)
    (d0 : decode cc pc = .ok (.new ik, 3)) (d3 : decode cc (pc + 3) = .ok (.dup, 1)) (d4 : decode cc (pc + 4) = .ok (.invokespecial ic, 3)) (d7 : decode cc (pc + 7) = .ok (.athrow, 1))
    (hout : ∀ x ∈ c.exceptionTable.toList, covers x (pc + 7) = false)
    (hRframes : names.length + 3 < R.frames) (hRlocals : (rest.map fun v => v.category).sum + (13 * (names.length + 1) + 42) ≤ R.locals) (hRcells : cells + 1 ≤ R.cells) (hRslots : slots + 6 ≤ R.slots) (hlocks : meth.locks = false)
    (hx : ∀ t : State, s.vm.Alike t.vm → H.size ≤ t.heap.size → (∀ q : Nat, q < H.size → t.heap[q]? = H[q]?) → XC cls s t)
    (hf : ∀ z ∈ locs, free z.base) (hc : cells + 1 ≤ mc) (hs : slots + 6 ≤ ms) :
    W p l e R s m args below meth c H locs cells slots (vx_MQ below Qc XC args s mc ms free) (F0 m pc ls rest) := by
  intro T hT X
  have htr : e.platform.stackTraces = false := (show e.platform.stackTraces = l.stackTraces by rw [X.admits.platform]).trans hl
  have Y := vx_rebase X (R' := { frames := R.frames, locals := R.locals, cells := 1, slots := 6 }) (Nat.le_refl _) (Nat.le_refl _) hRcells hRslots
  obtain ⟨s', hA⟩ : ∃ z, z = (T.setVm s.vm).setFrames (.invoking m args :: below) := ⟨_, rfl⟩
  rw [← hA] at Y
  have hvm : s'.vm = s.vm := by rw [hA]; rfl
  have hhp : s'.heap = H := by rw [hA]; exact hT
  have hW0 : s.WarmedH s'.vm := by rw [hvm]; exact State.WarmedH.refl s
  have hat' : ∀ w ∈ vx_at0 own ic cls names, w.before args s' = true := fun w hw => vx_ot_at hW0 hvm.symm (hgood w (List.mem_cons_of_mem _ (List.mem_cons_of_mem _ hw))) (hat w hw)
  have hk' : (Cond.classLink own ik cls).before args s' = true := vx_ot_at hW0 hvm.symm (hgood _ List.mem_cons_self) hk
  have hini' : (Cond.initialized cls).before args s' = true := vx_ot_at hW0 hvm.symm (hgood _ (List.mem_cons_of_mem _ List.mem_cons_self)) hini
  have hU' : vx_Zq Bundle.tN "UNASSIGNED_STACK" Bundle.steD A s' s'.heap := by rw [hhp]; exact vx_Zq.moved hW0.alike (hU.kept hS.2.1)
  have hN' : vx_Zq Bundle.tN "SUPPRESSED_SENTINEL" Bundle.listD A s' s'.heap := by rw [hhp]; exact vx_Zq.moved hW0.alike (hN.kept hS.2.1)
  have h : ∀ w ∈ Bundle.ownAtoms0 own ic cls names, w.before args s' = true := vx_own hat' (vx_isRefq hU'.1) (vx_isRefq hN'.1) hU'.2.word hN'.2.word
  have hown' : s'.vm.findClass own = some m.cls := by rw [hvm]; exact hown
  have hins : (Cond.instantiable cls 6).before args s' = true := h _ (by simp [Bundle.ownAtoms0])
  obtain ⟨vm₁, cX, kX, hfX, hkX, -, -, X₁, st1⟩ := Y.newCold hexec (own := own) (C := cls) (index := ik) (n := 6) hown' hk' hins hini'
    (g := F0 m pc ls rest) rfl (by rw [hb]; exact d0) (Nat.le_refl _) (Nat.le_refl _)
  generalize hT1 : (T.setVm vm₁).pushCell { cls := cX, slots := kX.instanceTypes.map defaultValue, vm := .none } = T1 at X₁ st1
  have hcat : (Value.ref T.heap.size).category = 1 := rfl
  have hcellA : T1.heap[T.heap.size]? = some (freshCell cX kX) := by rw [← hT1]; exact State.heap_pushCell_size _ _
  have d3' : decode c.code (pc + 3) = .ok (.dup, 1) := by rw [hb]; exact d3
  obtain ⟨U, hsteps, hrun, hend, hW, hsame, ce, hce, hO⟩ := X₁.ctorThrow0 hexec htr (own := own) (cls := cls) (names := names) (ic := ic) hown' hcls hnames h (fun x hx => nomatch hx) hfX hkX hcellA (by rw [hhp, hT]; exact Nat.le_refl _)
    (g := { method := m, pc := pc + 4, locals := ls, stack := .ref T.heap.size :: .ref T.heap.size :: rest, locked := none }) rfl hsize rfl rfl (rest := rest) rfl
    (by rw [hb]; exact d4) (by rw [hb]; exact d7) hout hRframes (by simp only [List.map_cons, List.sum_cons, hcat]; omega) hlocks
  obtain ⟨f1, f2⟩ := vx_frame hsame
  rw [hhp] at f1 f2
  have hWs : s.WarmedH U.vm := State.WarmedH.trans hW0 hW
  have hcl : s.vm.findClass cls = some ce.cls := by
    have h9 := hO.cls
    rw [hvm] at h9
    exact h9
  have hall : s.sameButNew ({ U with vm := s.vm } : State) locs mc ms := by
    subst hA
    obtain ⟨e1, e2⟩ := hsame
    rw [State.setFrames_setFrames] at e1
    have h2 : (T.setVm s.vm).sameButNew ({ U with vm := s.vm } : State) [] (0 + 1) (0 + 6) := ⟨e1, e2⟩
    have h3 := X.same.trans h2
    rw [List.append_nil] at h3
    exact h3.mono hc hs
  refine ⟨U, ?_, .threw T.heap.size, hrun, hend, Or.inr ⟨T.heap.size, rfl, cls, ce, locs, hx U hWs.alike f1 (fun q hq => f2 q hq (fun z hz => nomatch hz)), hce, hO.vm, hcl, hWs, hall, hf⟩⟩
  refine st1 _ ?_
  show Steps p.tables e below (T1.setTop { method := m, pc := pc + 3, locals := ls, stack := .ref T.heap.size :: rest, locked := none }) _
  jvm_step X₁.here [X₁.here.top, hexec, d3', Value.category]
  exact hsteps
/-- 'throw new E("text")': new; dup; ldc; invokespecial; athrow -/
theorem vx_throwS {cc : ByteArray} {pc : Nat} (hexec : p.tables.exec = Jvm.exec) (hb : c.code = cc) (hl : l.stackTraces = false) {own cls text : String} {names : List String} {ik is ic mc ms sa : Nat} {A : Nat → Prop}
    (hown : s.vm.findClass own = some m.cls) (hcls : Bundle.fit cls = true) (hnames : ∀ n ∈ names, Bundle.fit n = true)
    (hk : (Cond.classLink own ik cls).before args s = true) (hini : (Cond.initialized cls).before args s = true) (hstr : vk_R own is text sa s) (hat : ∀ w ∈ vx_atS own ic cls names, w.before args s = true)
    (hgood : ∀ w ∈ Cond.classLink own ik cls :: Cond.initialized cls :: vx_atS own ic cls names, vx_ot w = true)
    (hU : vx_Zq Bundle.tN "UNASSIGNED_STACK" Bundle.steD A s s.heap) (hN : vx_Zq Bundle.tN "SUPPRESSED_SENTINEL" Bundle.listD A s s.heap) (hS : va_S A s.heap H locs) (hsize : ls.size = c.maxLocals)
    (d0 : decode cc pc = .ok (.new ik, 3)) (d3 : decode cc (pc + 3) = .ok (.dup, 1)) (d4 : decode cc (pc + 4) = .ok (.ldc is, 2)) (d6 : decode cc (pc + 6) = .ok (.invokespecial ic, 3)) (d9 : decode cc (pc + 9) = .ok (.athrow, 1))
    (hout : ∀ x ∈ c.exceptionTable.toList, covers x (pc + 9) = false)
    (hRframes : names.length + 3 < R.frames) (hRlocals : (rest.map fun v => v.category).sum + (13 * (names.length + 1) + 43) ≤ R.locals) (hRcells : cells + 1 ≤ R.cells) (hRslots : slots + 6 ≤ R.slots) (hlocks : meth.locks = false)
    (hx : ∀ t : State, s.vm.Alike t.vm → H.size ≤ t.heap.size → (∀ q : Nat, q < H.size → t.heap[q]? = H[q]?) → XC cls s t)
    (hf : ∀ z ∈ locs, free z.base) (hc : cells + 1 ≤ mc) (hs : slots + 6 ≤ ms) :
    W p l e R s m args below meth c H locs cells slots (vx_MQ below Qc XC args s mc ms free) (F0 m pc ls rest) := by
  intro T hT X
  have htr : e.platform.stackTraces = false := (show e.platform.stackTraces = l.stackTraces by rw [X.admits.platform]).trans hl
  have Y := vx_rebase X (R' := { frames := R.frames, locals := R.locals, cells := 1, slots := 6 }) (Nat.le_refl _) (Nat.le_refl _) hRcells hRslots
  obtain ⟨s', hA⟩ : ∃ z, z = (T.setVm s.vm).setFrames (.invoking m args :: below) := ⟨_, rfl⟩
  rw [← hA] at Y
  have hvm : s'.vm = s.vm := by rw [hA]; rfl
  have hhp : s'.heap = H := by rw [hA]; exact hT
  have hW0 : s.WarmedH s'.vm := by rw [hvm]; exact State.WarmedH.refl s
  have hat' : ∀ w ∈ vx_atS own ic cls names, w.before args s' = true := fun w hw => vx_ot_at hW0 hvm.symm (hgood w (List.mem_cons_of_mem _ (List.mem_cons_of_mem _ hw))) (hat w hw)
  have hk' : (Cond.classLink own ik cls).before args s' = true := vx_ot_at hW0 hvm.symm (hgood _ List.mem_cons_self) hk
  have hini' : (Cond.initialized cls).before args s' = true := vx_ot_at hW0 hvm.symm (hgood _ (List.mem_cons_of_mem _ List.mem_cons_self)) hini
  have hU' : vx_Zq Bundle.tN "UNASSIGNED_STACK" Bundle.steD A s' s'.heap := by rw [hhp]; exact vx_Zq.moved hW0.alike (hU.kept hS.2.1)
  have hN' : vx_Zq Bundle.tN "SUPPRESSED_SENTINEL" Bundle.listD A s' s'.heap := by rw [hhp]; exact vx_Zq.moved hW0.alike (hN.kept hS.2.1)
  have h : ∀ w ∈ Bundle.ownAtoms own ic cls names, w.before args s' = true := vx_own hat' (vx_isRefq hU'.1) (vx_isRefq hN'.1) hU'.2.word hN'.2.word
  have hown' : s'.vm.findClass own = some m.cls := by rw [hvm]; exact hown
  have hins : (Cond.instantiable cls 6).before args s' = true := h _ (by simp [Bundle.ownAtoms])
  obtain ⟨vm₁, cX, kX, hfX, hkX, -, -, X₁, st1⟩ := Y.newCold hexec (own := own) (C := cls) (index := ik) (n := 6) hown' hk' hins hini'
    (g := F0 m pc ls rest) rfl (by rw [hb]; exact d0) (Nat.le_refl _) (Nat.le_refl _)
  generalize hT1 : (T.setVm vm₁).pushCell { cls := cX, slots := kX.instanceTypes.map defaultValue, vm := .none } = T1 at X₁ st1
  have hcat : (Value.ref T.heap.size).category = 1 := rfl
  have hcellA : T1.heap[T.heap.size]? = some (freshCell cX kX) := by rw [← hT1]; exact State.heap_pushCell_size _ _
  have d3' : decode c.code (pc + 3) = .ok (.dup, 1) := by rw [hb]; exact d3
  have d4' : decode c.code (pc + 4) = .ok (.ldc is, 2) := by rw [hb]; exact d4
  have hstr' : vk_R own is text sa s' := vk_R.warm hW0 hstr
  obtain ⟨U, hsteps, hrun, hend, hW, hsame, ce, hce, hO⟩ := X₁.ctorThrowS hexec htr (own := own) (cls := cls) (names := names) (ic := ic) hown' hcls hnames h (fun x hx => nomatch hx) hfX hkX hcellA (by rw [hhp, hT]; exact Nat.le_refl _) (msg := .ref sa) rfl
    (g := { method := m, pc := pc + 6, locals := ls, stack := .ref sa :: .ref T.heap.size :: .ref T.heap.size :: rest, locked := none }) rfl hsize rfl rfl (rest := rest) rfl
    (by rw [hb]; exact d6) (by rw [hb]; exact d9) hout hRframes (by simp only [List.map_cons, List.sum_cons, hcat]; omega) hlocks
  obtain ⟨f1, f2⟩ := vx_frame hsame
  rw [hhp] at f1 f2
  have hWs : s.WarmedH U.vm := State.WarmedH.trans hW0 hW
  have hcl : s.vm.findClass cls = some ce.cls := by
    have h9 := hO.cls
    rw [hvm] at h9
    exact h9
  have hall : s.sameButNew ({ U with vm := s.vm } : State) locs mc ms := by
    subst hA
    obtain ⟨e1, e2⟩ := hsame
    rw [State.setFrames_setFrames] at e1
    have h2 : (T.setVm s.vm).sameButNew ({ U with vm := s.vm } : State) [] (0 + 1) (0 + 6) := ⟨e1, e2⟩
    have h3 := X.same.trans h2
    rw [List.append_nil] at h3
    exact h3.mono hc hs
  refine ⟨U, ?_, .threw T.heap.size, hrun, hend, Or.inr ⟨T.heap.size, rfl, cls, ce, locs, hx U hWs.alike f1 (fun q hq => f2 q hq (fun z hz => nomatch hz)), hce, hO.vm, hcl, hWs, hall, hf⟩⟩
  refine st1 _ ?_
  show Steps p.tables e below (T1.setTop { method := m, pc := pc + 3, locals := ls, stack := .ref T.heap.size :: rest, locked := none }) _
  jvm_step X₁.here [X₁.here.top, hexec, d3', Value.category]
  exact X₁.ldcString hexec (own := own) (text := text) (index := is) (a := sa) hown' hstr'.1 hstr'.2
    (g := { method := m, pc := pc + 4, locals := ls, stack := .ref T.heap.size :: .ref T.heap.size :: rest, locked := none }) rfl d4' _ hsteps
/-- 'throw new E("text")', the text by a wide index -/
theorem vx_throwSW {cc : ByteArray} {pc : Nat} (hexec : p.tables.exec = Jvm.exec) (hb : c.code = cc) (hl : l.stackTraces = false) {own cls text : String} {names : List String} {ik is ic mc ms sa : Nat} {A : Nat → Prop}
    (hown : s.vm.findClass own = some m.cls) (hcls : Bundle.fit cls = true) (hnames : ∀ n ∈ names, Bundle.fit n = true)
    (hk : (Cond.classLink own ik cls).before args s = true) (hini : (Cond.initialized cls).before args s = true) (hstr : vk_R own is text sa s) (hat : ∀ w ∈ vx_atS own ic cls names, w.before args s = true)
    (hgood : ∀ w ∈ Cond.classLink own ik cls :: Cond.initialized cls :: vx_atS own ic cls names, vx_ot w = true)
    (hU : vx_Zq Bundle.tN "UNASSIGNED_STACK" Bundle.steD A s s.heap) (hN : vx_Zq Bundle.tN "SUPPRESSED_SENTINEL" Bundle.listD A s s.heap) (hS : va_S A s.heap H locs) (hsize : ls.size = c.maxLocals)
    (d0 : decode cc pc = .ok (.new ik, 3)) (d3 : decode cc (pc + 3) = .ok (.dup, 1)) (d4 : decode cc (pc + 4) = .ok (.ldc_w is, 3)) (d7 : decode cc (pc + 7) = .ok (.invokespecial ic, 3)) (d10 : decode cc (pc + 10) = .ok (.athrow, 1))
    (hout : ∀ x ∈ c.exceptionTable.toList, covers x (pc + 10) = false)
    (hRframes : names.length + 3 < R.frames) (hRlocals : (rest.map fun v => v.category).sum + (13 * (names.length + 1) + 43) ≤ R.locals) (hRcells : cells + 1 ≤ R.cells) (hRslots : slots + 6 ≤ R.slots) (hlocks : meth.locks = false)
    (hx : ∀ t : State, s.vm.Alike t.vm → H.size ≤ t.heap.size → (∀ q : Nat, q < H.size → t.heap[q]? = H[q]?) → XC cls s t)
    (hf : ∀ z ∈ locs, free z.base) (hc : cells + 1 ≤ mc) (hs : slots + 6 ≤ ms) :
    W p l e R s m args below meth c H locs cells slots (vx_MQ below Qc XC args s mc ms free) (F0 m pc ls rest) := by
  intro T hT X
  have htr : e.platform.stackTraces = false := (show e.platform.stackTraces = l.stackTraces by rw [X.admits.platform]).trans hl
  have Y := vx_rebase X (R' := { frames := R.frames, locals := R.locals, cells := 1, slots := 6 }) (Nat.le_refl _) (Nat.le_refl _) hRcells hRslots
  obtain ⟨s', hA⟩ : ∃ z, z = (T.setVm s.vm).setFrames (.invoking m args :: below) := ⟨_, rfl⟩
  rw [← hA] at Y
  have hvm : s'.vm = s.vm := by rw [hA]; rfl
  have hhp : s'.heap = H := by rw [hA]; exact hT
  have hW0 : s.WarmedH s'.vm := by rw [hvm]; exact State.WarmedH.refl s
  have hat' : ∀ w ∈ vx_atS own ic cls names, w.before args s' = true := fun w hw => vx_ot_at hW0 hvm.symm (hgood w (List.mem_cons_of_mem _ (List.mem_cons_of_mem _ hw))) (hat w hw)
  have hk' : (Cond.classLink own ik cls).before args s' = true := vx_ot_at hW0 hvm.symm (hgood _ List.mem_cons_self) hk
  have hini' : (Cond.initialized cls).before args s' = true := vx_ot_at hW0 hvm.symm (hgood _ (List.mem_cons_of_mem _ List.mem_cons_self)) hini
  have hU' : vx_Zq Bundle.tN "UNASSIGNED_STACK" Bundle.steD A s' s'.heap := by rw [hhp]; exact vx_Zq.moved hW0.alike (hU.kept hS.2.1)
  have hN' : vx_Zq Bundle.tN "SUPPRESSED_SENTINEL" Bundle.listD A s' s'.heap := by rw [hhp]; exact vx_Zq.moved hW0.alike (hN.kept hS.2.1)
  have h : ∀ w ∈ Bundle.ownAtoms own ic cls names, w.before args s' = true := vx_own hat' (vx_isRefq hU'.1) (vx_isRefq hN'.1) hU'.2.word hN'.2.word
  have hown' : s'.vm.findClass own = some m.cls := by rw [hvm]; exact hown
  have hins : (Cond.instantiable cls 6).before args s' = true := h _ (by simp [Bundle.ownAtoms])
  obtain ⟨vm₁, cX, kX, hfX, hkX, -, -, X₁, st1⟩ := Y.newCold hexec (own := own) (C := cls) (index := ik) (n := 6) hown' hk' hins hini'
    (g := F0 m pc ls rest) rfl (by rw [hb]; exact d0) (Nat.le_refl _) (Nat.le_refl _)
  generalize hT1 : (T.setVm vm₁).pushCell { cls := cX, slots := kX.instanceTypes.map defaultValue, vm := .none } = T1 at X₁ st1
  have hcat : (Value.ref T.heap.size).category = 1 := rfl
  have hcellA : T1.heap[T.heap.size]? = some (freshCell cX kX) := by rw [← hT1]; exact State.heap_pushCell_size _ _
  have d3' : decode c.code (pc + 3) = .ok (.dup, 1) := by rw [hb]; exact d3
  have d4' : decode c.code (pc + 4) = .ok (.ldc_w is, 3) := by rw [hb]; exact d4
  have hstr' : vk_R own is text sa s' := vk_R.warm hW0 hstr
  obtain ⟨U, hsteps, hrun, hend, hW, hsame, ce, hce, hO⟩ := X₁.ctorThrowS hexec htr (own := own) (cls := cls) (names := names) (ic := ic) hown' hcls hnames h (fun x hx => nomatch hx) hfX hkX hcellA (by rw [hhp, hT]; exact Nat.le_refl _) (msg := .ref sa) rfl
    (g := { method := m, pc := pc + 7, locals := ls, stack := .ref sa :: .ref T.heap.size :: .ref T.heap.size :: rest, locked := none }) rfl hsize rfl rfl (rest := rest) rfl
    (by rw [hb]; exact d7) (by rw [hb]; exact d10) hout hRframes (by simp only [List.map_cons, List.sum_cons, hcat]; omega) hlocks
  obtain ⟨f1, f2⟩ := vx_frame hsame
  rw [hhp] at f1 f2
  have hWs : s.WarmedH U.vm := State.WarmedH.trans hW0 hW
  have hcl : s.vm.findClass cls = some ce.cls := by
    have h9 := hO.cls
    rw [hvm] at h9
    exact h9
  have hall : s.sameButNew ({ U with vm := s.vm } : State) locs mc ms := by
    subst hA
    obtain ⟨e1, e2⟩ := hsame
    rw [State.setFrames_setFrames] at e1
    have h2 : (T.setVm s.vm).sameButNew ({ U with vm := s.vm } : State) [] (0 + 1) (0 + 6) := ⟨e1, e2⟩
    have h3 := X.same.trans h2
    rw [List.append_nil] at h3
    exact h3.mono hc hs
  refine ⟨U, ?_, .threw T.heap.size, hrun, hend, Or.inr ⟨T.heap.size, rfl, cls, ce, locs, hx U hWs.alike f1 (fun q hq => f2 q hq (fun z hz => nomatch hz)), hce, hO.vm, hcl, hWs, hall, hf⟩⟩
  refine st1 _ ?_
  show Steps p.tables e below (T1.setTop { method := m, pc := pc + 3, locals := ls, stack := .ref T.heap.size :: rest, locked := none }) _
  jvm_step X₁.here [X₁.here.top, hexec, d3', Value.category]
  exact X₁.ldcStringW hexec (own := own) (text := text) (index := is) (a := sa) hown' hstr'.1 hstr'.2
    (g := { method := m, pc := pc + 4, locals := ls, stack := .ref T.heap.size :: .ref T.heap.size :: rest, locked := none }) rfl d4' _ hsteps
end Ends
section Bodies
variable {l : Launch}
theorem vx_ofW {y : MethodName} {ws ws' : List Cond} {rm : Room} {Pc : Array Value → State → Prop} {Qc : Array Value → State → Outcome → State → Prop} {XC : String → State → State → Prop} {mc ms : Nat} {free : Addr → Prop} {cc : ByteArray} {maxL : Nat} {ret : Option FieldType}
    (hy : plainName y.cls = true) (hw : ws = Cond.code y cc maxL ret :: ws')
    (body : ∀ p e s m args below meth c s₁, BodyLoose p l y (headSpec ws rm) cc maxL ret e s m args below meth c s₁ → c.maxLocals = maxL → (∀ x ∈ c.exceptionTable.toList, False) → Pc args s →
      W p l e (headSpec ws rm).room s m args below meth c s.heap [] 0 0 (vx_MQ below Qc XC args s mc ms free) (entryFrame m args maxL)) : vx_Met l y ws rm Pc Qc XC mc ms free := by
  refine MetFree.of_bodyS (code := cc) (maxLocals := maxL) (ret := ret) hy ?_ ?_
  · intro args s m h hn
    obtain ⟨meth, c, h1, h2, h3, h4, h5, h6, -, -⟩ := Cond.code_spec hn (atoms_spec (ws := ws) h _ (by rw [hw]; exact List.mem_cons_self))
    exact ⟨meth, c, h1, h2, h3, h4, h5, h6⟩
  · intro p e s m args below meth c s₁ B hml hP _
    have hh0 : s₁.heap = s.heap := by rw [B.state]; rfl
    have ht : ∀ x ∈ c.exceptionTable.toList, False := by
      obtain ⟨meth9, c9, h1, h2, -, -, -, -, h7, -⟩ := Cond.code_spec B.named (atoms_spec (ws := ws) B.pre _ (by rw [hw]; exact List.mem_cons_self))
      cases Option.some.inj (h1.symm.trans B.method)
      cases Option.some.inj (h2.symm.trans (Stand.of_body B).code)
      intro x hx
      rw [Array.isEmpty_iff.mp h7] at hx
      cases hx
    obtain ⟨t, a1, o, b1, b2, b3⟩ := body p e s m args below meth c s₁ B hml ht hP s₁ hh0 (Stand.of_body B)
    exact ⟨t, o, a1, b1, b2, b3⟩
/-- the table of a body with handlers -/
theorem vx_table {p : Program} {x y : MethodName} {S : Spec} {cc bytes : ByteArray} {maxL maxL' : Nat} {ret ret' : Option FieldType} {e : Env} {s s₁ : State} {m : MethodId} {args : Array Value} {below : List Frame} {meth : Method} {c : Code} {hh : List (Nat × Nat × Nat × Nat)}
    (B : BodyLoose p l y S cc maxL ret e s m args below meth c s₁) (h : (Cond.codeWith y bytes maxL' ret' hh).before args s = true) : c.exceptionTable.toList = tableOf hh := by
  obtain ⟨m9, meth9, c9, hn9, h1, h2, -, -, h6, -⟩ := Cond.codeWith_spec h
  cases Option.some.inj (hn9.symm.trans B.named)
  cases Option.some.inj (h1.symm.trans B.method)
  cases Option.some.inj (h2.symm.trans (Stand.of_body B).code)
  rw [← h6, table_eq]
end Bodies
end VXA
/-! ===== END ===== -/
/-! ===== BEGIN a static call of a method with an exception table ===== -/
section VXS
variable {p : Program} {l : Launch} {e : Env} {R : Room} {s : State} {m : MethodId} {args : Array Value} {below : List Frame} {meth : Method} {c : Code} {T : State} {H : Heap} {locs : List Loc} {cells slots : Nat}
abbrev vx_CSW (R : Room) (s : State) (args : Array Value) (own : String) (index : Nat) (y : MethodName) (bytes : ByteArray) (maxL : Nat) (ret : Option FieldType) (hh : List (Nat × Nat × Nat × Nat)) (ws : List Cond) (rm : Room) (mc ms n : Nat) : Prop :=
  (rm.cells = mc ∧ rm.slots = ms ∧ rm.frames + 1 ≤ R.frames ∧ 8 + (maxL + 11) + rm.locals ≤ R.locals ∧ (∀ w ∈ ws, ∀ (a' : Array Value) (U : State), s.WarmedH U.vm → w.before a' U = true) ∧ Cond.codeWith y bytes maxL ret hh ∈ ws) ∧
  (Cond.codeWith y bytes maxL ret hh).before args s = true ∧ (Cond.initialized y.cls).before args s = true ∧ (y.cls ≠ "java/lang/invoke/MethodHandle" ∧ y.cls ≠ "java/lang/invoke/VarHandle") ∧
  (∀ sig, parseMethodDescriptor y.desc = some sig → n = sig.parameters.length) ∧ (Cond.methodLink own index y).before args s = true ∧ (Cond.static y).before args s = true
theorem vx_cwSW {own : String} {index maxL mc ms : Nat} {y : MethodName} {bytes : ByteArray} {ret : Option FieldType} {hh : List (Nat × Nat × Nat × Nat)} {Ts ws ws' : List Cond} {rm : Room} (n : Nat) (ht : ∀ w ∈ Ts, w.before args s = true) (hT : GoodIn Ts (va_wsS own index y ws)) (hw : ws = Cond.codeWith y bytes maxL ret hh :: ws') (hrc : rm.cells = mc) (hrs : rm.slots = ms)
    (hd : y.cls ≠ "java/lang/invoke/MethodHandle" ∧ y.cls ≠ "java/lang/invoke/VarHandle" ∧ (parseMethodDescriptor y.desc).map (fun d => d.parameters.length) = some n) (hR : rm.frames + 1 ≤ R.frames ∧ 8 + (maxL + 11) + rm.locals ≤ R.locals) :
    vx_CSW R s args own index y bytes maxL ret hh ws rm mc ms n := by
  have ok : ∀ w ∈ va_wsS own index y ws, w.before args s = true := fun w h => ht w (hT w h).1
  have hG : GoodIn Ts ws := fun w h => hT w (by unfold va_wsS; exact List.mem_append_right _ h)
  have hc : Cond.codeWith y bytes maxL ret hh ∈ ws := by rw [hw]; exact List.mem_cons_self
  refine ⟨⟨hrc, hrs, hR.1, hR.2, pay_in ht hG, hc⟩, ht _ (hG _ hc).1, ok _ (by simp [va_wsS]), ⟨hd.1, hd.2.1⟩, fun sig h => ?_, ok _ (by simp [va_wsS]), ok _ (by simp [va_wsS])⟩
  have h2 := hd.2.2
  rw [h] at h2
  exact (Option.some.inj h2).symm
theorem vx_callSW (X : Stand p l e R s m args below meth c T locs cells slots) (hexec : p.tables.exec = Jvm.exec) {own : String} {index : Nat} {y : MethodName} {bytes : ByteArray} {maxL : Nat} {ret : Option FieldType} {hh : List (Nat × Nat × Nat × Nat)}
    (hown : s.vm.findClass own = some m.cls) (hlink : (Cond.methodLink own index y).before args s = true) (hstat : (Cond.static y).before args s = true) (hinit : (Cond.initialized y.cls).before args s = true)
    (hcode : (Cond.codeWith y bytes maxL ret hh).before args s = true) (hy : y.cls ≠ "java/lang/invoke/MethodHandle" ∧ y.cls ≠ "java/lang/invoke/VarHandle")
    {W9 : Nat} {Pre : Pt → Array Value → Prop} {Post : Pt → Array Value → Option Value → Pt → Prop} (hK : Back l R p e below s args y 3 W9 Pre Post)
    {g : JFrame} (hg : g.method = m) (hsize : g.locals.size = c.maxLocals) {argsL rest : List Value} (hlen : ∀ sig, parseMethodDescriptor y.desc = some sig → argsL.length = sig.parameters.length)
    (hstack : g.stack = argsL.reverse ++ rest) (hW : 2 * g.monitorRoom + (rest.map fun v => v.category).sum ≤ W9) (hdg : decode c.code g.pc = .ok (.invokestatic index, 3))
    (hpre : ∀ vm₁, s.WarmedH vm₁ → Pre ⟨T.setVm vm₁, locs, cells, slots⟩ argsL.toArray) :
    ∃ (v : Option Value) (vm₁ : Vm) (B : Pt), s.WarmedH vm₁ ∧ Stand p l e R s m args below meth c B.U B.locs B.cells B.slots ∧ Post ⟨T.setVm vm₁, locs, cells, slots⟩ argsL.toArray v B ∧
      ∀ target, Steps p.tables e below (B.U.setTop { g with pc := g.pc + 3, stack := v.toList ++ rest }) target → Steps p.tables e below (T.setTop g) target := by
  obtain ⟨mk, methM, cM, hnamed, hmethM, -, -, -, -, -, -, hsigM⟩ := Cond.codeWith_spec hcode
  have hstatic : methM.isStatic = true := Cond.static_spec hnamed hmethM hstat
  obtain ⟨kP, hkP, -⟩ := className_of_methodNamed hnamed
  have hinitP : kP.init = .initialized := Cond.initialized_spec (findClass_of_methodNamed hnamed) hkP hinit
  obtain ⟨vm₁, X₁, hstep₁⟩ := X.invokestatic hexec hown hlink hnamed hmethM hstatic hkP hinitP hy (g := g) hg (argsL := argsL) (rest := rest) (hlen _ hsigM) hstack hdg
  obtain ⟨v, B, X', hpost, hsteps⟩ := hK m meth c ⟨T.setVm vm₁, locs, cells, slots⟩ { g with stack := rest } (.invokestatic index) mk argsL.toArray X₁ hg hsize hdg hW (X₁.named hnamed) (hpre vm₁ X₁.warmed)
  exact ⟨v, vm₁, B, X₁.warmed, X', hpost, fun target h => hstep₁ _ fun acts => by rw [doInvoke_state]; exact hsteps.trans h⟩
theorem vx_runSW {y : MethodName} {bytes cc : ByteArray} {maxL nL mc ms n index : Nat} {ret : Option FieldType} {hh : List (Nat × Nat × Nat × Nat)} {ws : List Cond} {rm : Room} {Pc : Array Value → State → Prop} {Qc : Array Value → State → Outcome → State → Prop} {free : Addr → Prop} {Ts : List Cond} {own : String} {As rest : List Value} {g : JFrame}
    (S : CallFix p m c cc nL s args Ts own) (hM : Met l y ws rm Pc Qc mc ms free) (cw : vx_CSW R s args own index y bytes maxL ret hh ws rm mc ms n) (hp : PreS s H Pc As)
    (hg : g.method = m) (hn : As.length = n) (hsize : g.locals.size = nL) (hstack : g.stack = As.reverse ++ rest) (hW : 2 * g.monitorRoom + (rest.map fun v => v.category).sum ≤ 8) (hdg : decode cc g.pc = .ok (.invokestatic index, 3)) (hf : cells + mc ≤ R.cells ∧ slots + ms ≤ R.slots) :
    va_Run p l e R s m args below meth c H locs cells slots mc ms g rest (Qc As.toArray) (free) := by
  obtain ⟨⟨hrc, hrs, hfr, hlo, hws, hcw⟩, hcode, hini, hy, hlen, hl, hstt⟩ := cw
  have hK : Back l R p e below s args y 3 8 (PreOf R mc ms Pc) (PostOf Qc mc ms free) := va_backW (hh := hh) (bytes := bytes) (maxL := maxL) (ret := ret) hM hp.1 hrc hrs hfr hlo hws hcw (fun a' U hW => word_at hW (Or.inl (by first | rfl | simp [Cond.onTables, Cond.keeps, Cond.steady])) hini)
  obtain ⟨hx, hb, hml, ho, -⟩ := S
  intro T hT X
  obtain ⟨v, vm₁, ⟨U', l2, c2, s2⟩, hW₁, X', ⟨g', mk, t, L, e1, e2, hq, h1, hL, h2, h3⟩, st⟩ := vx_callSW X hx (hh := hh) (bytes := bytes) (maxL := maxL) (ret := ret) ho hl hstt hini hcode hy hK hg (hsize.trans hml.symm) (argsL := As) (rest := rest) (fun sig h => hn.trans (hlen sig h)) hstack hW (by rw [hb]; exact hdg)
    (fun vm₁ hW₁ => ⟨hf.1, hf.2, hp.2 (T.setVm vm₁) hT hW₁⟩)
  dsimp only [Pt.U, Pt.locs, Pt.cells, Pt.slots] at X' e1 e2 h1 h2 h3 st
  subst h1; subst h2; subst h3
  exact ⟨v, (T.setVm vm₁).calling g' mk As.toArray, t, U', L, hT, X', hL, e1, e2, hq, st⟩
/-- not caught here, past rows that name other classes: it goes on to the caller -/
theorem vx_outP {p : Program} {l : Launch} {e : Env} {R : Room} {s : State} {m : MethodId} {args : Array Value} {below : List Frame} {meth : Method} {c : Code} {H : Heap} {locs : List Loc} {cells slots : Nat} {free : Addr → Prop} {ls : Array Slot} {rest : List Value} {Qc : Array Value → State → Outcome → State → Prop} {XC : String → State → State → Prop}
    {pc : Nat} {own E : String} {ce : Cell} {q : Addr} {mc ms : Nat} (hown : s.vm.findClass own = some m.cls) (hlocks : meth.locks = false)
    (hpass : ∀ z ∈ c.exceptionTable.toList, covers z pc = false ∨ (z.catchType ≠ 0 ∧ ∃ nm : String, (Cond.classLink own z.catchType nm).before args s = true ∧ va_Nc E nm s)) (hcell : H[q]? = some ce) (hv : ce.vm = .none) (hcl : s.vm.findClass E = some ce.cls)
    (hx : ∀ t : State, t.heap = H → s.vm.Alike t.vm → XC E s t) (hf : ∀ z ∈ locs, free z.base) (hc : cells ≤ mc) (hs : slots ≤ ms) :
    vx_W p l e R s m args below meth c H locs cells slots (vx_MQ below Qc XC args s mc ms free) (F0 m pc ls rest) q := by
  intro T hT X
  have hpl : e.platform.magicAccessors = ({} : Platform).magicAccessors := by rw [X.admits.platform]
  obtain ⟨vm', hW', X', st⟩ := X.outThrough hlocks q (g := F0 m pc ls rest) rfl rfl rfl (cell := ce) (by rw [hT]; exact hcell) (by rw [hv]; rfl)
    (by obtain ⟨k9, h9, -⟩ := Vm.findClass_spec hcl; exact ⟨k9, h9⟩) (fun z hz => by
      rcases hpass z hz with h | ⟨hz0, nm, hl1, hn1⟩
      · exact Or.inl h
      · obtain ⟨c6, hc6, hcl6⟩ := Cond.classLink_spec hown hl1 e.platform hpl
        obtain ⟨a8, b8, h1, h2, h3⟩ := hn1
        cases Option.some.inj (h1.symm.trans hcl)
        cases Option.some.inj (h2.symm.trans hc6)
        exact Or.inr ⟨hz0, _, hcl6, h3⟩)
  obtain ⟨g₀, hfr⟩ := X'.frames_eq
  have hcell9 : ((T.setVm vm').setFrames (.throwing q :: below)).heap[q]? = some ce := by
    show T.heap[q]? = some ce
    rw [hT]; exact hcell
  have hend : Ended ((T.setVm vm').setFrames (.throwing q :: below)) below (.threw q) := State.frames_setFrames _ (State.cur_lt_of_frames hfr)
  refine ⟨(T.setVm vm').setFrames (.throwing q :: below), ?_, .threw q, X'.here.running, hend, Or.inr ⟨q, rfl, E, ce, locs, hx _ hT (X'.ends _).1.alike, hcell9, hv, hcl, (X'.ends _).1, (X'.ends _).2.mono hc hs, hf⟩⟩
  rw [X.pushThrowing_eq]
  exact st
/-- a thing of a world lies in the heap -/
theorem vx_lt {D : va_G} {cl : List vw_C} {ws : va_W} {H1 : Heap} (h : va_P D cl ws H1) {k : Nat} {q : Nat × va_E} (hk : ws[k]? = some q) : q.1 < H1.size := (h k q hk).lt
end VXS
/-! ===== END ===== -/
/-! ===== BEGIN methods with a table of their own: called by a name, returning or throwing ===== -/
section VXH
/-! vx_backW, vx_callVX, vx_callSX, vx_callVW, vx_runVW, vx_runVX, vx_runSX, vx_ofWH follow the same proofs as their sisters above (Free/Laws.lean, Shelf42/LK1.lean); vx_outP calls Shelf42/NT130.lean (outThrough). -/
section
variable {l : Launch} {R : Room} {p : Program} {e : Env} {below : List Frame} {s : State} {sargs : Array Value} {y : MethodName} {len W9 : Nat}
theorem vx_backW {ws : List Cond} {rm : Room} {Pc : Array Value → State → Prop} {Qc : Array Value → State → Outcome → State → Prop} {XC : String → State → State → Prop} {mc ms : Nat} {free : Addr → Prop} {bytes : ByteArray} {maxL : Nat} {ret : Option FieldType} {hh : List (Nat × Nat × Nat × Nat)}
    (hM : vx_Met l y ws rm Pc Qc XC mc ms free) (hblind : FrameBlind Pc) (hrc : rm.cells = mc) (hrs : rm.slots = ms)
    (hframes : rm.frames + 1 ≤ R.frames) (hlocals : W9 + (maxL + 11) + rm.locals ≤ R.locals)
    (hws : ∀ w ∈ ws, ∀ a' U, s.WarmedH U.vm → w.before a' U = true) (hcode : Cond.codeWith y bytes maxL ret hh ∈ ws) (hinit : ∀ a' U, s.WarmedH U.vm → (Cond.initialized y.cls).before a' U = true) :
    vx_Back l R p e below s sargs y len W9 (PreOf R mc ms Pc) (PostOf Qc mc ms free) (vx_Post XC mc ms free) := by
  intro m meth c A g ig mk a X hg hsize hdg hW hn hp
  have h1 : (headSpec ws rm).pre.before a A.U = true := atoms_intro fun w hw => hws w hw _ _ X.warmed
  have h2 : (Cond.codeWith y bytes maxL ret hh).before a A.U = true := hws _ hcode _ _ X.warmed
  have h3 : (Cond.initialized y.cls).before a A.U = true := hinit _ _ X.warmed
  have h4 : A.cells + (headSpec ws rm).room.cells ≤ R.cells := by rw [show (headSpec ws rm).room.cells = mc from hrc]; exact hp.1
  have h5 : A.slots + (headSpec ws rm).room.slots ≤ R.slots := by rw [show (headSpec ws rm).room.slots = ms from hrs]; exact hp.2.1
  have hPc : Pc a (A.U.calling g mk a) := hblind _ _ _ _ hp.2.2
  obtain ⟨U, Ls, c0, s0⟩ := A
  dsimp only [Pt.U, Pt.locs, Pt.cells, Pt.slots] at h1 h2 h3 h4 h5 X hn hPc ⊢
  obtain ⟨m9, methY, cY, hn9, hmY, hcY, -, hlY, -⟩ := Cond.codeWith_spec h2
  cases Option.some.inj (hn9.symm.trans hn)
  obtain ⟨kY, hkY, -⟩ := className_of_methodNamed hn
  have hinitY : kY.init = .initialized := Cond.initialized_spec (findClass_of_methodNamed hn) hkY h3
  have h : At U g.method c below := by rw [hg]; exact X.here
  have hlocals9 : W9 + (maxL + 11) + (headSpec ws rm).room.locals ≤ R.locals := hlocals
  have happ : (headSpec ws rm).appliesLoose y e.platform (U.calling g mk a) = true :=
    Spec.appliesLoose_calling (g := g) h hdg hn hkY hinitY
      (X.room_calling (g := g) (R' := (headSpec ws rm).room) hsize hmY hcY hframes (by rw [hlY]; omega) h4 h5) h1
  obtain ⟨mid, hmid⟩ := h.above
  have hfr : (U.setTop g).frames = (.java g :: mid) ++ below := by rw [State.frames_setTop' g h.top, hmid]; rfl
  obtain ⟨o, s₂, hsteps, -, hend, hq⟩ := Steps.callFree hM p X.admits X.cas X.clock (acts := []) hfr happ hPc trivial
  have hq' : vx_Q Qc XC mc ms free a (U.calling g mk a) o s₂ := hq
  rw [State.frames_setTop' g h.top] at hend
  obtain ⟨g₀, hg0⟩ := Option.isSome_iff_exists.mp h.top
  obtain ⟨r, hr⟩ := State.topJava?_eq_some.mp hg0
  have hr' : (({ U with heap := s₂.heap, slotsUsed := s₂.slotsUsed } : State).setVm s₂.vm).frames = .java g₀ :: r := hr
  rcases hq' with ⟨hqc, L, hfe, hL⟩ | ⟨q, rfl, E, ce, L, hx, hce, hcv, hcl, hW₂, hsm, hL⟩
  · obtain ⟨⟨v, rfl⟩, hW₂, e2, q2, q3, q4, q5, q6⟩ := id hfe
    have e3 : s₂ = ({ (U.calling g mk a).setFrames s₂.frames with heap := s₂.heap, slotsUsed := s₂.slotsUsed } : State).setVm s₂.vm := by
      have : s₂ = ({ s₂ with vm := (U.calling g mk a).vm } : State).setVm s₂.vm := rfl
      rw [e2] at this
      exact this
    obtain ⟨c₂, i₂, len₂, hc₂, hd₂, hf₂⟩ := hend
    have hW' : U.WarmedH s₂.vm := hW₂
    have hcc : c₂ = c := by
      have h1 : s₂.code? g.method = U.code? g.method := by
        rw [State.code?_eq, State.code?_eq, hW'.alike.method?]
      exact Option.some.inj (hc₂.symm.trans (h1.trans h.code))
    subst hcc
    have hlen : len₂ = len := by rw [hdg] at hd₂; cases hd₂; rfl
    subst hlen
    have hs₂ : s₂ = (({ U with heap := s₂.heap, slotsUsed := s₂.slotsUsed } : State).setVm s₂.vm).setTop { g with pc := g.pc + len₂, stack := v.toList ++ g.stack } := by
      refine e3.trans ?_
      rw [hf₂, State.calling_eq h.top, State.setFrames_setFrames, State.setTop_of_frames _ hr', hr]
      rfl
    have hsame : U.sameButNew ({ U with heap := s₂.heap, slotsUsed := s₂.slotsUsed } : State) L mc ms := by
      refine ⟨?_, q2, q3, q4, q5, q6⟩
      obtain ⟨t, ht, -⟩ := State.frames_cons hr
      show ({ U with heap := s₂.heap, slotsUsed := s₂.slotsUsed } : State) = { U.setFrames U.frames with heap := s₂.heap, slotsUsed := s₂.slotsUsed }
      rw [State.setFrames_self ht]
    subst hg
    refine Or.inl ⟨v, ⟨(({ U with heap := s₂.heap, slotsUsed := s₂.slotsUsed } : State).setVm s₂.vm), Ls ++ L, c0 + mc, s0 + ms⟩,
      ⟨X.admits, X.cas, X.clock, X.frames, X.room, X.hears, X.method, X.code, (X.here.setHeapUsed s₂.heap s₂.slotsUsed).setVm hW'.alike, X.tail, State.WarmedH.trans X.warmed hW', X.limits, X.bytes, X.same.trans (hsame.setVm s.vm)⟩,
      ⟨g, mk, s₂, L, rfl, rfl, hqc, rfl, hL, rfl, rfl⟩, ?_⟩
    show Steps p.tables e below _ ((({ U with heap := s₂.heap, slotsUsed := s₂.slotsUsed } : State).setVm s₂.vm).setTop { g with pc := g.pc + len₂, stack := v.toList ++ g.stack })
    rw [← hs₂]
    exact hsteps
  · obtain ⟨e2, q2, q3, q4, q5, q6⟩ := id hsm
    have e3 : s₂ = ({ (U.calling g mk a).setFrames s₂.frames with heap := s₂.heap, slotsUsed := s₂.slotsUsed } : State).setVm s₂.vm := by
      have : s₂ = ({ s₂ with vm := (U.calling g mk a).vm } : State).setVm s₂.vm := rfl
      rw [e2] at this
      exact this
    have hf₂ : s₂.frames = .throwing q :: .java g :: U.frames.tail := hend
    have hW' : U.WarmedH s₂.vm := hW₂
    have hs₂ : s₂ = ((({ U with heap := s₂.heap, slotsUsed := s₂.slotsUsed } : State).setVm s₂.vm).setTop g).pushFrame (.throwing q) := by
      refine e3.trans ?_
      rw [hf₂, State.calling_eq h.top, State.setFrames_setFrames, State.pushFrame, State.frames_setTop _ hr', State.setTop_of_frames _ hr', State.setFrames_setFrames, hr]
      rfl
    have hsame : U.sameButNew ({ U with heap := s₂.heap, slotsUsed := s₂.slotsUsed } : State) L mc ms := by
      refine ⟨?_, q2, q3, q4, q5, q6⟩
      obtain ⟨t, ht, -⟩ := State.frames_cons hr
      show ({ U with heap := s₂.heap, slotsUsed := s₂.slotsUsed } : State) = { U.setFrames U.frames with heap := s₂.heap, slotsUsed := s₂.slotsUsed }
      rw [State.setFrames_self ht]
    subst hg
    refine Or.inr ⟨q, ⟨(({ U with heap := s₂.heap, slotsUsed := s₂.slotsUsed } : State).setVm s₂.vm), Ls ++ L, c0 + mc, s0 + ms⟩,
      ⟨X.admits, X.cas, X.clock, X.frames, X.room, X.hears, X.method, X.code, (X.here.setHeapUsed s₂.heap s₂.slotsUsed).setVm hW'.alike, X.tail, State.WarmedH.trans X.warmed hW', X.limits, X.bytes, X.same.trans (hsame.setVm s.vm)⟩,
      ⟨g, mk, s₂, L, E, ce, rfl, rfl, hx, hce, hcv, hcl, rfl, hL, rfl, rfl⟩, ?_⟩
    show Steps p.tables e below _ (((({ U with heap := s₂.heap, slotsUsed := s₂.slotsUsed } : State).setVm s₂.vm).setTop g).pushFrame (.throwing q))
    rw [← hs₂]
    exact hsteps
end
variable {p : Program} {l : Launch} {e : Env} {R : Room} {s : State} {m : MethodId} {args : Array Value} {below : List Frame} {meth : Method} {c : Code} {T : State} {H : Heap} {locs : List Loc} {cells slots : Nat}
theorem vx_callVX (X : Stand p l e R s m args below meth c T locs cells slots) (hexec : p.tables.exec = Jvm.exec) {own C : String} {index : Nat} {y : MethodName} {bytes : ByteArray} {maxL : Nat} {ret : Option FieldType} {hh : List (Nat × Nat × Nat × Nat)}
    (hown : s.vm.findClass own = some m.cls) (hlink : (Cond.methodLink own index y).before args s = true) (hinst : (Cond.instanceMethod y).before args s = true) (hsel : (Cond.selects C y y).before args s = true)
    (hcode : (Cond.codeWith y bytes maxL ret hh).before args s = true) (hy : y.cls ≠ "java/lang/invoke/MethodHandle" ∧ y.cls ≠ "java/lang/invoke/VarHandle")
    {W9 : Nat} {Pre : Pt → Array Value → Prop} {Post : Pt → Array Value → Option Value → Pt → Prop} {PostX : Pt → Array Value → Addr → Pt → Prop} (hK : vx_Back l R p e below s args y 3 W9 Pre Post PostX)
    {b : Addr} {cellB : Cell} (hcell : T.heap[b]? = some cellB) (hobj : cellB.vm.isStatics = false) (hcls : s.vm.findClass C = some cellB.cls)
    {g : JFrame} (hg : g.method = m) (hsize : g.locals.size = c.maxLocals) {argsL rest : List Value} (hlen : ∀ sig, parseMethodDescriptor y.desc = some sig → argsL.length = sig.parameters.length)
    (hstack : g.stack = argsL.reverse ++ .ref b :: rest) (hW : 2 * g.monitorRoom + (rest.map fun v => v.category).sum ≤ W9) (hdg : decode c.code g.pc = .ok (.invokevirtual index, 3))
    (hpre : ∀ vm₁, s.WarmedH vm₁ → Pre ⟨T.setVm vm₁, locs, cells, slots⟩ (Value.ref b :: argsL).toArray) :
    (∃ (v : Option Value) (vm₁ : Vm) (B : Pt), s.WarmedH vm₁ ∧ Stand p l e R s m args below meth c B.U B.locs B.cells B.slots ∧ Post ⟨T.setVm vm₁, locs, cells, slots⟩ (Value.ref b :: argsL).toArray v B ∧
      ∀ target, Steps p.tables e below (B.U.setTop { g with pc := g.pc + 3, stack := v.toList ++ rest }) target → Steps p.tables e below (T.setTop g) target) ∨
    (∃ (q : Addr) (vm₁ : Vm) (B : Pt), s.WarmedH vm₁ ∧ Stand p l e R s m args below meth c B.U B.locs B.cells B.slots ∧ PostX ⟨T.setVm vm₁, locs, cells, slots⟩ (Value.ref b :: argsL).toArray q B ∧
      Steps p.tables e below (T.setTop g) ((B.U.setTop { g with stack := rest }).pushFrame (.throwing q))) := by
  obtain ⟨mk, methM, hnamed, hmethM, hstM, habM⟩ := Cond.instanceMethod_spec hinst
  obtain ⟨m8, methM', cM, hn8, hmethM', -, -, -, -, -, -, hsigM⟩ := Cond.codeWith_spec hcode
  cases Option.some.inj (hn8.symm.trans hnamed)
  cases hmethM.symm.trans hmethM'
  obtain ⟨c2, r2, m2, q1, q2, q3, q4, kP, hkP, hkPi⟩ := Cond.selects_spec hsel
  cases hcls.symm.trans q1
  cases (State.methodFound?_of_named hnamed hy).symm.trans q2
  cases hnamed.symm.trans q3
  have hselP : selectMethod e.platform s.vm cellB.cls mk = .method mk := by rw [Launch.admits_selectMethod X.admits]; exact q4
  obtain ⟨vm₁, X₁, hstep₁⟩ := X.invokevirtual hexec hown hlink hnamed hmethM hstM hkP hkPi hy (a := b) (cell := cellB) hcell
    (fun z h => by rw [h] at hobj; cases hobj) hselP hmethM habM hkP hkPi (g := g) hg (argsL := argsL) (rest := rest) (hlen _ hsigM) hstack hdg
  rcases hK m meth c ⟨T.setVm vm₁, locs, cells, slots⟩ { g with stack := rest } (.invokevirtual index) mk (Value.ref b :: argsL).toArray X₁ hg hsize hdg hW (X₁.named hnamed) (hpre vm₁ X₁.warmed) with ⟨v, B, X', hpost, hsteps⟩ | ⟨q, B, X', hpost, hsteps⟩
  · exact Or.inl ⟨v, vm₁, B, X₁.warmed, X', hpost, fun target h => hstep₁ _ fun acts => by rw [doInvoke_state]; exact hsteps.trans h⟩
  · exact Or.inr ⟨q, vm₁, B, X₁.warmed, X', hpost, hstep₁ _ fun acts => by rw [doInvoke_state]; exact hsteps⟩
theorem vx_callSX (X : Stand p l e R s m args below meth c T locs cells slots) (hexec : p.tables.exec = Jvm.exec) {own : String} {index : Nat} {y : MethodName} {bytes : ByteArray} {maxL : Nat} {ret : Option FieldType} {hh : List (Nat × Nat × Nat × Nat)}
    (hown : s.vm.findClass own = some m.cls) (hlink : (Cond.methodLink own index y).before args s = true) (hstat : (Cond.static y).before args s = true) (hinit : (Cond.initialized y.cls).before args s = true)
    (hcode : (Cond.codeWith y bytes maxL ret hh).before args s = true) (hy : y.cls ≠ "java/lang/invoke/MethodHandle" ∧ y.cls ≠ "java/lang/invoke/VarHandle")
    {W9 : Nat} {Pre : Pt → Array Value → Prop} {Post : Pt → Array Value → Option Value → Pt → Prop} {PostX : Pt → Array Value → Addr → Pt → Prop} (hK : vx_Back l R p e below s args y 3 W9 Pre Post PostX)
    {g : JFrame} (hg : g.method = m) (hsize : g.locals.size = c.maxLocals) {argsL rest : List Value} (hlen : ∀ sig, parseMethodDescriptor y.desc = some sig → argsL.length = sig.parameters.length)
    (hstack : g.stack = argsL.reverse ++ rest) (hW : 2 * g.monitorRoom + (rest.map fun v => v.category).sum ≤ W9) (hdg : decode c.code g.pc = .ok (.invokestatic index, 3))
    (hpre : ∀ vm₁, s.WarmedH vm₁ → Pre ⟨T.setVm vm₁, locs, cells, slots⟩ argsL.toArray) :
    (∃ (v : Option Value) (vm₁ : Vm) (B : Pt), s.WarmedH vm₁ ∧ Stand p l e R s m args below meth c B.U B.locs B.cells B.slots ∧ Post ⟨T.setVm vm₁, locs, cells, slots⟩ argsL.toArray v B ∧
      ∀ target, Steps p.tables e below (B.U.setTop { g with pc := g.pc + 3, stack := v.toList ++ rest }) target → Steps p.tables e below (T.setTop g) target) ∨
    (∃ (q : Addr) (vm₁ : Vm) (B : Pt), s.WarmedH vm₁ ∧ Stand p l e R s m args below meth c B.U B.locs B.cells B.slots ∧ PostX ⟨T.setVm vm₁, locs, cells, slots⟩ argsL.toArray q B ∧
      Steps p.tables e below (T.setTop g) ((B.U.setTop { g with stack := rest }).pushFrame (.throwing q))) := by
  obtain ⟨mk, methM, cM, hnamed, hmethM, -, -, -, -, -, -, hsigM⟩ := Cond.codeWith_spec hcode
  have hstatic : methM.isStatic = true := Cond.static_spec hnamed hmethM hstat
  obtain ⟨kP, hkP, -⟩ := className_of_methodNamed hnamed
  have hinitP : kP.init = .initialized := Cond.initialized_spec (findClass_of_methodNamed hnamed) hkP hinit
  obtain ⟨vm₁, X₁, hstep₁⟩ := X.invokestatic hexec hown hlink hnamed hmethM hstatic hkP hinitP hy (g := g) hg (argsL := argsL) (rest := rest) (hlen _ hsigM) hstack hdg
  rcases hK m meth c ⟨T.setVm vm₁, locs, cells, slots⟩ { g with stack := rest } (.invokestatic index) mk argsL.toArray X₁ hg hsize hdg hW (X₁.named hnamed) (hpre vm₁ X₁.warmed) with ⟨v, B, X', hpost, hsteps⟩ | ⟨q, B, X', hpost, hsteps⟩
  · exact Or.inl ⟨v, vm₁, B, X₁.warmed, X', hpost, fun target h => hstep₁ _ fun acts => by rw [doInvoke_state]; exact hsteps.trans h⟩
  · exact Or.inr ⟨q, vm₁, B, X₁.warmed, X', hpost, hstep₁ _ fun acts => by rw [doInvoke_state]; exact hsteps⟩
theorem vx_callVW (X : Stand p l e R s m args below meth c T locs cells slots) (hexec : p.tables.exec = Jvm.exec) {own C : String} {index : Nat} {y : MethodName} {bytes : ByteArray} {maxL : Nat} {ret : Option FieldType} {hh : List (Nat × Nat × Nat × Nat)}
    (hown : s.vm.findClass own = some m.cls) (hlink : (Cond.methodLink own index y).before args s = true) (hinst : (Cond.instanceMethod y).before args s = true) (hsel : (Cond.selects C y y).before args s = true)
    (hcode : (Cond.codeWith y bytes maxL ret hh).before args s = true) (hy : y.cls ≠ "java/lang/invoke/MethodHandle" ∧ y.cls ≠ "java/lang/invoke/VarHandle")
    {W9 : Nat} {Pre : Pt → Array Value → Prop} {Post : Pt → Array Value → Option Value → Pt → Prop} (hK : Back l R p e below s args y 3 W9 Pre Post)
    {b : Addr} {cellB : Cell} (hcell : T.heap[b]? = some cellB) (hobj : cellB.vm.isStatics = false) (hcls : s.vm.findClass C = some cellB.cls)
    {g : JFrame} (hg : g.method = m) (hsize : g.locals.size = c.maxLocals) {argsL rest : List Value} (hlen : ∀ sig, parseMethodDescriptor y.desc = some sig → argsL.length = sig.parameters.length)
    (hstack : g.stack = argsL.reverse ++ .ref b :: rest) (hW : 2 * g.monitorRoom + (rest.map fun v => v.category).sum ≤ W9) (hdg : decode c.code g.pc = .ok (.invokevirtual index, 3))
    (hpre : ∀ vm₁, s.WarmedH vm₁ → Pre ⟨T.setVm vm₁, locs, cells, slots⟩ (Value.ref b :: argsL).toArray) :
    ∃ (v : Option Value) (vm₁ : Vm) (B : Pt), s.WarmedH vm₁ ∧ Stand p l e R s m args below meth c B.U B.locs B.cells B.slots ∧ Post ⟨T.setVm vm₁, locs, cells, slots⟩ (Value.ref b :: argsL).toArray v B ∧
      ∀ target, Steps p.tables e below (B.U.setTop { g with pc := g.pc + 3, stack := v.toList ++ rest }) target → Steps p.tables e below (T.setTop g) target := by
  obtain ⟨mk, methM, hnamed, hmethM, hstM, habM⟩ := Cond.instanceMethod_spec hinst
  obtain ⟨m8, methM', cM, hn8, hmethM', -, -, -, -, -, -, hsigM⟩ := Cond.codeWith_spec hcode
  cases Option.some.inj (hn8.symm.trans hnamed)
  cases hmethM.symm.trans hmethM'
  obtain ⟨c2, r2, m2, q1, q2, q3, q4, kP, hkP, hkPi⟩ := Cond.selects_spec hsel
  cases hcls.symm.trans q1
  cases (State.methodFound?_of_named hnamed hy).symm.trans q2
  cases hnamed.symm.trans q3
  have hselP : selectMethod e.platform s.vm cellB.cls mk = .method mk := by rw [Launch.admits_selectMethod X.admits]; exact q4
  obtain ⟨vm₁, X₁, hstep₁⟩ := X.invokevirtual hexec hown hlink hnamed hmethM hstM hkP hkPi hy (a := b) (cell := cellB) hcell
    (fun z h => by rw [h] at hobj; cases hobj) hselP hmethM habM hkP hkPi (g := g) hg (argsL := argsL) (rest := rest) (hlen _ hsigM) hstack hdg
  obtain ⟨v, B, X', hpost, hsteps⟩ := hK m meth c ⟨T.setVm vm₁, locs, cells, slots⟩ { g with stack := rest } (.invokevirtual index) mk (Value.ref b :: argsL).toArray X₁ hg hsize hdg hW (X₁.named hnamed) (hpre vm₁ X₁.warmed)
  exact ⟨v, vm₁, B, X₁.warmed, X', hpost, fun target h => hstep₁ _ fun acts => by rw [doInvoke_state]; exact hsteps.trans h⟩
abbrev vx_CVW (R : Room) (s : State) (args : Array Value) (own C : String) (index : Nat) (y : MethodName) (bytes : ByteArray) (maxL : Nat) (ret : Option FieldType) (hh : List (Nat × Nat × Nat × Nat)) (ws : List Cond) (rm : Room) (mc ms n : Nat) : Prop :=
  (rm.cells = mc ∧ rm.slots = ms ∧ rm.frames + 1 ≤ R.frames ∧ 8 + (maxL + 11) + rm.locals ≤ R.locals ∧ (∀ w ∈ ws, ∀ (a' : Array Value) (U : State), s.WarmedH U.vm → w.before a' U = true) ∧ Cond.codeWith y bytes maxL ret hh ∈ ws) ∧
  (Cond.codeWith y bytes maxL ret hh).before args s = true ∧ (Cond.initialized y.cls).before args s = true ∧ (y.cls ≠ "java/lang/invoke/MethodHandle" ∧ y.cls ≠ "java/lang/invoke/VarHandle") ∧
  (∀ sig, parseMethodDescriptor y.desc = some sig → n = sig.parameters.length) ∧ (Cond.methodLink own index y).before args s = true ∧ (Cond.instanceMethod y).before args s = true ∧ (Cond.selects C y y).before args s = true
theorem vx_cwVW {own C : String} {index maxL mc ms : Nat} {y : MethodName} {bytes : ByteArray} {ret : Option FieldType} {hh : List (Nat × Nat × Nat × Nat)} {Ts ws ws' : List Cond} {rm : Room} (n : Nat) (ht : ∀ w ∈ Ts, w.before args s = true) (hT : GoodIn Ts (wsV own index C y ws)) (hw : ws = Cond.codeWith y bytes maxL ret hh :: ws') (hrc : rm.cells = mc) (hrs : rm.slots = ms)
    (hd : y.cls = C ∧ y.cls ≠ "java/lang/invoke/MethodHandle" ∧ y.cls ≠ "java/lang/invoke/VarHandle" ∧ (parseMethodDescriptor y.desc).map (fun d => d.parameters.length) = some n) (hR : rm.frames + 1 ≤ R.frames ∧ 8 + (maxL + 11) + rm.locals ≤ R.locals) :
    vx_CVW R s args own C index y bytes maxL ret hh ws rm mc ms n := by
  obtain ⟨hC, hd⟩ := hd
  subst hC
  have ok : ∀ w ∈ wsV own index y.cls y ws, w.before args s = true := fun w h => ht w (hT w h).1
  have hG : GoodIn Ts ws := fun w h => hT w (by unfold wsV; exact List.mem_append_right _ h)
  have hc : Cond.codeWith y bytes maxL ret hh ∈ ws := by rw [hw]; exact List.mem_cons_self
  refine ⟨⟨hrc, hrs, hR.1, hR.2, pay_in ht hG, hc⟩, ht _ (hG _ hc).1, ok _ (by simp [wsV]), ⟨hd.1, hd.2.1⟩, fun sig h => ?_, ok _ (by simp [wsV]), ok _ (by simp [wsV]), ok _ (by simp [wsV])⟩
  have h2 := hd.2.2
  rw [h] at h2
  exact (Option.some.inj h2).symm
theorem vx_runVW {y : MethodName} {bytes cc : ByteArray} {maxL nL mc ms n index : Nat} {ret : Option FieldType} {hh : List (Nat × Nat × Nat × Nat)} {ws : List Cond} {rm : Room} {Pc : Array Value → State → Prop} {Qc : Array Value → State → Outcome → State → Prop} {free : Addr → Prop} {Ts : List Cond} {own C : String} {b : Addr} {As rest : List Value} {g : JFrame}
    (S : CallFix p m c cc nL s args Ts own) (hM : Met l y ws rm Pc Qc mc ms free) (cw : vx_CVW R s args own C index y bytes maxL ret hh ws rm mc ms n) (hp : PreV s H C b Pc As)
    (hg : g.method = m) (hn : As.length = n) (hsize : g.locals.size = nL) (hstack : g.stack = As.reverse ++ .ref b :: rest) (hW : 2 * g.monitorRoom + (rest.map fun v => v.category).sum ≤ 8) (hdg : decode cc g.pc = .ok (.invokevirtual index, 3)) (hf : cells + mc ≤ R.cells ∧ slots + ms ≤ R.slots) :
    va_Run p l e R s m args below meth c H locs cells slots mc ms g rest (Qc (Value.ref b :: As).toArray) free := by
  obtain ⟨⟨hrc, hrs, hfr, hlo, hws, hcw⟩, hcode, hini, hy, hlen, hl, hin, hse⟩ := cw
  have hK : Back l R p e below s args y 3 8 (PreOf R mc ms Pc) (PostOf Qc mc ms free) := va_backW (hh := hh) (bytes := bytes) (maxL := maxL) (ret := ret) hM hp.1 hrc hrs hfr hlo hws hcw (fun a' U hW => word_at hW (Or.inl (by first | rfl | simp [Cond.onTables, Cond.keeps, Cond.steady])) hini)
  obtain ⟨hx, hb, hml, ho, -⟩ := S
  obtain ⟨-, ⟨cellB, hcB, hoB, hclB⟩, hPc⟩ := hp
  intro T hT X
  obtain ⟨v, vm₁, ⟨U', l2, c2, s2⟩, hW₁, X', ⟨g', mk, t, L, e1, e2, hq, h1, hL, h2, h3⟩, st⟩ := vx_callVW X hx (C := C) (hh := hh) (bytes := bytes) (maxL := maxL) (ret := ret) ho hl hin hse hcode hy hK (by rw [hT]; exact hcB) hoB hclB hg (hsize.trans hml.symm) (argsL := As) (rest := rest) (fun sig h => hn.trans (hlen sig h)) hstack hW (by rw [hb]; exact hdg)
    (fun vm₁ hW₁ => ⟨hf.1, hf.2, hPc (T.setVm vm₁) hT hW₁⟩)
  dsimp only [Pt.U, Pt.locs, Pt.cells, Pt.slots] at X' e1 e2 h1 h2 h3 st
  subst h1; subst h2; subst h3
  exact ⟨v, (T.setVm vm₁).calling g' mk (Value.ref b :: As).toArray, t, U', L, hT, X', hL, e1, e2, hq, st⟩
section
variable {y : MethodName} {bytes cc : ByteArray} {maxL nL mc ms n index : Nat} {ret : Option FieldType} {ws : List Cond} {rm : Room} {Pc : Array Value → State → Prop} {Qc : Array Value → State → Outcome → State → Prop} {XC : String → State → State → Prop} {free : Addr → Prop} {Ts : List Cond} {own C : String} {b : Addr} {As rest : List Value} {g : JFrame}
theorem vx_runVX {hh : List (Nat × Nat × Nat × Nat)} (S : CallFix p m c cc nL s args Ts own) (hM : vx_Met l y ws rm Pc Qc XC mc ms free) (cw : vx_CVW R s args own C index y bytes maxL ret hh ws rm mc ms n) (hp : PreV s H C b Pc As)
    (hg : g.method = m) (hn : As.length = n) (hsize : g.locals.size = nL) (hstack : g.stack = As.reverse ++ .ref b :: rest) (hW : 2 * g.monitorRoom + (rest.map fun v => v.category).sum ≤ 8) (hdg : decode cc g.pc = .ok (.invokevirtual index, 3)) (hf : cells + mc ≤ R.cells ∧ slots + ms ≤ R.slots) :
    vx_Run p l e R s m args below meth c H locs cells slots mc ms g rest (Qc (Value.ref b :: As).toArray) XC free := by
  obtain ⟨⟨hrc, hrs, hfr, hlo, hws, hcw⟩, hcode, hini, hy, hlen, hl, hin, hse⟩ := cw
  have hK : vx_Back l R p e below s args y 3 8 (PreOf R mc ms Pc) (PostOf Qc mc ms free) (vx_Post XC mc ms free) := vx_backW (hh := hh) (bytes := bytes) (maxL := maxL) (ret := ret) hM hp.1 hrc hrs hfr hlo hws hcw (fun a' U hW => word_at hW (Or.inl (by first | rfl | simp [Cond.onTables, Cond.keeps, Cond.steady])) hini)
  obtain ⟨hx, hb, hml, ho, -⟩ := S
  obtain ⟨-, ⟨cellB, hcB, hoB, hclB⟩, hPc⟩ := hp
  intro T hT X
  rcases vx_callVX X hx (C := C) (hh := hh) (bytes := bytes) (maxL := maxL) (ret := ret) ho hl hin hse hcode hy hK (by rw [hT]; exact hcB) hoB hclB hg (hsize.trans hml.symm) (argsL := As) (rest := rest) (fun sig h => hn.trans (hlen sig h)) hstack hW (by rw [hb]; exact hdg)
    (fun vm₁ hW₁ => ⟨hf.1, hf.2, hPc (T.setVm vm₁) hT hW₁⟩) with ⟨v, vm₁, ⟨U', l2, c2, s2⟩, hW₁, X', ⟨g', mk, t, L, e1, e2, hq, h1, hL, h2, h3⟩, st⟩ | ⟨q, vm₁, ⟨U', l2, c2, s2⟩, hW₁, X', ⟨g', mk, t, L, E, ce, e1, e2, hq, hce, hcv, hcl, h1, hL, h2, h3⟩, st⟩
  · dsimp only [Pt.U, Pt.locs, Pt.cells, Pt.slots] at X' e1 e2 h1 h2 h3 st
    subst h1; subst h2; subst h3
    exact Or.inl ⟨v, (T.setVm vm₁).calling g' mk (Value.ref b :: As).toArray, t, U', L, hT, X', hL, e1, e2, hq, st⟩
  · dsimp only [Pt.U, Pt.locs, Pt.cells, Pt.slots] at X' e1 e2 h1 h2 h3 st hcl
    subst h1; subst h2; subst h3
    exact Or.inr ⟨q, (T.setVm vm₁).calling g' mk (Value.ref b :: As).toArray, t, U', L, E, ce, hT, X', hL, e1, e2, hq, hce, hcv, vx_cls hW₁ hcl, st⟩
theorem vx_runSX {hh : List (Nat × Nat × Nat × Nat)} (S : CallFix p m c cc nL s args Ts own) (hM : vx_Met l y ws rm Pc Qc XC mc ms free) (cw : vx_CSW R s args own index y bytes maxL ret hh ws rm mc ms n) (hp : PreS s H Pc As)
    (hg : g.method = m) (hn : As.length = n) (hsize : g.locals.size = nL) (hstack : g.stack = As.reverse ++ rest) (hW : 2 * g.monitorRoom + (rest.map fun v => v.category).sum ≤ 8) (hdg : decode cc g.pc = .ok (.invokestatic index, 3)) (hf : cells + mc ≤ R.cells ∧ slots + ms ≤ R.slots) :
    vx_Run p l e R s m args below meth c H locs cells slots mc ms g rest (Qc As.toArray) XC free := by
  obtain ⟨⟨hrc, hrs, hfr, hlo, hws, hcw⟩, hcode, hini, hy, hlen, hl, hstt⟩ := cw
  have hK : vx_Back l R p e below s args y 3 8 (PreOf R mc ms Pc) (PostOf Qc mc ms free) (vx_Post XC mc ms free) := vx_backW (hh := hh) (bytes := bytes) (maxL := maxL) (ret := ret) hM hp.1 hrc hrs hfr hlo hws hcw (fun a' U hW => word_at hW (Or.inl (by first | rfl | simp [Cond.onTables, Cond.keeps, Cond.steady])) hini)
  obtain ⟨hx, hb, hml, ho, -⟩ := S
  intro T hT X
  rcases vx_callSX X hx (hh := hh) (bytes := bytes) (maxL := maxL) (ret := ret) ho hl hstt hini hcode hy hK hg (hsize.trans hml.symm) (argsL := As) (rest := rest) (fun sig h => hn.trans (hlen sig h)) hstack hW (by rw [hb]; exact hdg)
    (fun vm₁ hW₁ => ⟨hf.1, hf.2, hp.2 (T.setVm vm₁) hT hW₁⟩) with ⟨v, vm₁, ⟨U', l2, c2, s2⟩, hW₁, X', ⟨g', mk, t, L, e1, e2, hq, h1, hL, h2, h3⟩, st⟩ | ⟨q, vm₁, ⟨U', l2, c2, s2⟩, hW₁, X', ⟨g', mk, t, L, E, ce, e1, e2, hq, hce, hcv, hcl, h1, hL, h2, h3⟩, st⟩
  · dsimp only [Pt.U, Pt.locs, Pt.cells, Pt.slots] at X' e1 e2 h1 h2 h3 st
    subst h1; subst h2; subst h3
    exact Or.inl ⟨v, (T.setVm vm₁).calling g' mk As.toArray, t, U', L, hT, X', hL, e1, e2, hq, st⟩
  · dsimp only [Pt.U, Pt.locs, Pt.cells, Pt.slots] at X' e1 e2 h1 h2 h3 st hcl
    subst h1; subst h2; subst h3
    exact Or.inr ⟨q, (T.setVm vm₁).calling g' mk As.toArray, t, U', L, E, ce, hT, X', hL, e1, e2, hq, hce, hcv, vx_cls hW₁ hcl, st⟩
end
end VXH
theorem vx_ofWH {l : Launch} {y : MethodName} {ws ws' : List Cond} {rm : Room} {Pc : Array Value → State → Prop} {Qc : Array Value → State → Outcome → State → Prop} {XC : String → State → State → Prop} {mc ms : Nat} {free : Addr → Prop} {cc : ByteArray} {maxL : Nat} {ret : Option FieldType} {hh : List (Nat × Nat × Nat × Nat)}
    (hy : plainName y.cls = true) (hw : ws = Cond.codeWith y cc maxL ret hh :: ws')
    (body : ∀ p e s m args below meth c s₁, BodyLoose p l y (headSpec ws rm) cc maxL ret e s m args below meth c s₁ → c.maxLocals = maxL → Pc args s →
      W p l e (headSpec ws rm).room s m args below meth c s.heap [] 0 0 (vx_MQ below Qc XC args s mc ms free) (entryFrame m args maxL)) : vx_Met l y ws rm Pc Qc XC mc ms free := by
  refine MetFree.of_bodyS (code := cc) (maxLocals := maxL) (ret := ret) hy ?_ ?_
  · intro args s m h hn
    obtain ⟨m9, meth, c, hn9, h1, h2, h3, h4, -, h5, h6, -⟩ := Cond.codeWith_spec (atoms_spec (ws := ws) h _ (by rw [hw]; exact List.mem_cons_self))
    cases hn.symm.trans hn9
    exact ⟨meth, c, h1, h2, h3, h4, h5, h6⟩
  · intro p e s m args below meth c s₁ B hml hP _
    have hh0 : s₁.heap = s.heap := by rw [B.state]; rfl
    obtain ⟨t, a1, o, b1, b2, b3⟩ := body p e s m args below meth c s₁ B hml hP s₁ hh0 (Stand.of_body B)
    exact ⟨t, o, a1, b1, b2, b3⟩
/-! ===== END ===== -/
end
section
/-! ===== BEGIN printed: names, fields, word lists, decode rows ===== -/
def RX0 : String := "RopeTimes"
def TX0 : u_T := fun k => match k with
  | 0 => ("RopeTimes", "turnCount", "I", false)
  | 1 => ("RopeTimes", "ropeCount", "I", false)
  | 2 => ("RopeTimes", "from", "[I", true)
  | 3 => ("RopeTimes", "to", "[I", true)
  | 4 => ("RopeTimes", "length", "[I", true)
  | 5 => ("RopeTimes", "tied", "[Z", true)
  | 6 => ("RopeTimes", "rounds", "I", false)
  | 7 => ("RopeTimes", "earliest", "[I", true)
  | 8 => ("RopeTimes", "bound", "[I", true)
  | 9 => ("RopeTimes", "trial", "[I", true)
  | 10 => ("RopeTimes", "reach", "[I", true)
  | _ => ("RopeTimes", "nextReach", "[I", true)
def tyX0 : Nat → FieldType := fun k => match k with
  | 0 => .int
  | 1 => .int
  | 2 => .array .int
  | 3 => .array .int
  | 4 => .array .int
  | 5 => .array .boolean
  | 6 => .int
  | 7 => .array .int
  | 8 => .array .int
  | 9 => .array .int
  | 10 => .array .int
  | _ => .array .int
abbrev wsX00 : List Cond := u_ws RX0 TX0 12
theorem nmX0 : ∀ a, a < 12 → ∀ b, b < 12 → a ≠ b → (TX0 a).2.1 ≠ (TX0 b).2.1 := by decide +kernel
theorem tyX0_ok : ∀ k, k < 12 → parseFieldDescriptor (TX0 k).2.2.1 = some (tyX0 k) := by decide +kernel
abbrev cX0_init : ByteArray := prog_1_method_1_code
def yX0_init : MethodName := ⟨RX0, "<init>", "()V"⟩
abbrev cX0_turn : ByteArray := prog_1_method_2_code
def yX0_turn : MethodName := ⟨RX0, "turn", "()I"⟩
abbrev cX0_tie : ByteArray := prog_1_method_3_code
def yX0_tie : MethodName := ⟨RX0, "tie", "(III)I"⟩
abbrev cX0_cut : ByteArray := prog_1_method_4_code
def yX0_cut : MethodName := ⟨RX0, "cut", "(II)I"⟩
abbrev cX0_knot : ByteArray := prog_1_method_5_code
def yX0_knot : MethodName := ⟨RX0, "knot", "(I)Z"⟩
abbrev cX0_tighten : ByteArray := prog_1_method_6_code
def yX0_tighten : MethodName := ⟨RX0, "tighten", "()I"⟩
abbrev cX0_told : ByteArray := prog_1_method_7_code
def yX0_told : MethodName := ⟨RX0, "told", "(II)I"⟩
abbrev cX0_about : ByteArray := prog_1_method_8_code
def yX0_about : MethodName := ⟨RX0, "about", "(II)I"⟩
abbrev cX0_count : ByteArray := prog_1_method_9_code
def yX0_count : MethodName := ⟨RX0, "count", "(I)I"⟩
abbrev cX0_holds : ByteArray := prog_1_method_10_code
def yX0_holds : MethodName := ⟨RX0, "holds", "()Z"⟩
abbrev cX0_late : ByteArray := prog_1_method_11_code
def yX0_late : MethodName := ⟨RX0, "late", "(II)I"⟩
abbrev cX0_most : ByteArray := prog_1_method_12_code
def yX0_most : MethodName := ⟨RX0, "most", "(II)I"⟩
abbrev cX0_room : ByteArray := prog_1_method_13_code
def yX0_room : MethodName := ⟨RX0, "room", "(I)I"⟩
abbrev cX0_would : ByteArray := prog_1_method_14_code
def yX0_would : MethodName := ⟨RX0, "would", "(III)Z"⟩
abbrev cX0_at : ByteArray := prog_1_method_15_code
def yX0_at : MethodName := ⟨RX0, "at", "(I)I"⟩
abbrev cX0_advise : ByteArray := prog_1_method_16_code
def yX0_advise : MethodName := ⟨RX0, "advise", "()I"⟩
abbrev cX0_mean : ByteArray := prog_1_method_17_code
def yX0_mean : MethodName := ⟨RX0, "mean", "()D"⟩
abbrev cX0_digest : ByteArray := prog_1_method_18_code
def yX0_digest : MethodName := ⟨RX0, "digest", "()J"⟩
abbrev cX0_digestBounds : ByteArray := prog_1_method_19_code
def yX0_digestBounds : MethodName := ⟨RX0, "digestBounds", "(J)J"⟩
abbrev cX0_checkTurn : ByteArray := prog_1_method_20_code
def yX0_checkTurn : MethodName := ⟨RX0, "checkTurn", "(I)V"⟩
abbrev cX0_checkRope : ByteArray := prog_1_method_21_code
def yX0_checkRope : MethodName := ⟨RX0, "checkRope", "(I)V"⟩
abbrev cX0_checkKind : ByteArray := prog_1_method_22_code
def yX0_checkKind : MethodName := ⟨RX0, "checkKind", "(II)V"⟩
abbrev cX0_checkTwoTurns : ByteArray := prog_1_method_23_code
def yX0_checkTwoTurns : MethodName := ⟨RX0, "checkTwoTurns", "(II)V"⟩
abbrev cX0_checkLength : ByteArray := prog_1_method_24_code
def yX0_checkLength : MethodName := ⟨RX0, "checkLength", "(I)V"⟩
abbrev cX0_checkPossible : ByteArray := prog_1_method_25_code
def yX0_checkPossible : MethodName := ⟨RX0, "checkPossible", "()V"⟩
abbrev cX0_isPossible : ByteArray := prog_1_method_26_code
def yX0_isPossible : MethodName := ⟨RX0, "isPossible", "()Z"⟩
abbrev cX0_settle : ByteArray := prog_1_method_27_code
def yX0_settle : MethodName := ⟨RX0, "settle", "()V"⟩
abbrev cX0_findEarliest : ByteArray := prog_1_method_28_code
def yX0_findEarliest : MethodName := ⟨RX0, "findEarliest", "([II)I"⟩
abbrev cX0_pushOnce : ByteArray := prog_1_method_29_code
def yX0_pushOnce : MethodName := ⟨RX0, "pushOnce", "([II)Z"⟩
abbrev cX0_lastOf : ByteArray := prog_1_method_30_code
def yX0_lastOf : MethodName := ⟨RX0, "lastOf", "([I)I"⟩
abbrev cX0_turnsAheadOf : ByteArray := prog_1_method_31_code
def yX0_turnsAheadOf : MethodName := ⟨RX0, "turnsAheadOf", "(I)I"⟩
abbrev cX0_tiedRopes : ByteArray := prog_1_method_32_code
def yX0_tiedRopes : MethodName := ⟨RX0, "tiedRopes", "()I"⟩
abbrev cX0_tiedEndsAt : ByteArray := prog_1_method_33_code
def yX0_tiedEndsAt : MethodName := ⟨RX0, "tiedEndsAt", "(I[I)I"⟩
abbrev cX0_isTight : ByteArray := prog_1_method_34_code
def yX0_isTight : MethodName := ⟨RX0, "isTight", "(I)Z"⟩
abbrev cX0_tightRopes : ByteArray := prog_1_method_35_code
def yX0_tightRopes : MethodName := ⟨RX0, "tightRopes", "()I"⟩
abbrev cX0_tightenOne : ByteArray := prog_1_method_36_code
def yX0_tightenOne : MethodName := ⟨RX0, "tightenOne", "(I)I"⟩
abbrev cX0_boundFrom : ByteArray := prog_1_method_37_code
def yX0_boundFrom : MethodName := ⟨RX0, "boundFrom", "(II)I"⟩
abbrev cX0_shortenBound : ByteArray := prog_1_method_38_code
def yX0_shortenBound : MethodName := ⟨RX0, "shortenBound", "(III)V"⟩
abbrev cX0_findBounds : ByteArray := prog_1_method_39_code
def yX0_findBounds : MethodName := ⟨RX0, "findBounds", "()V"⟩
abbrev cX0_startBounds : ByteArray := prog_1_method_40_code
def yX0_startBounds : MethodName := ⟨RX0, "startBounds", "()V"⟩
abbrev cX0_goOnOver : ByteArray := prog_1_method_41_code
def yX0_goOnOver : MethodName := ⟨RX0, "goOnOver", "(II)V"⟩
abbrev cX0_leastLength : ByteArray := prog_1_method_42_code
def yX0_leastLength : MethodName := ⟨RX0, "leastLength", "(II)I"⟩
abbrev cX0_shortRingLength : ByteArray := prog_1_method_43_code
def yX0_shortRingLength : MethodName := ⟨RX0, "shortRingLength", "()I"⟩
abbrev cX0_shortRingFrom : ByteArray := prog_1_method_44_code
def yX0_shortRingFrom : MethodName := ⟨RX0, "shortRingFrom", "(I)I"⟩
abbrev cX0_goOneRope : ByteArray := prog_1_method_45_code
def yX0_goOneRope : MethodName := ⟨RX0, "goOneRope", "()V"⟩
def RX1 : String := "RopeTimesModel"
def TX1 : u_T := fun k => match k with
  | 0 => ("RopeTimesModel", "thrown", "I", false)
  | 1 => ("RopeTimesModel", "turns", "I", false)
  | 2 => ("RopeTimesModel", "ropes", "I", false)
  | _ => ("RopeTimesModel", "rows", "[I", true)
def tyX1 : Nat → FieldType := fun k => match k with
  | 0 => .int
  | 1 => .int
  | 2 => .int
  | _ => .array .int
abbrev wsX10 : List Cond := u_ws RX1 TX1 4
theorem nmX1 : ∀ a, a < 4 → ∀ b, b < 4 → a ≠ b → (TX1 a).2.1 ≠ (TX1 b).2.1 := by decide +kernel
theorem tyX1_ok : ∀ k, k < 4 → parseFieldDescriptor (TX1 k).2.2.1 = some (tyX1 k) := by decide +kernel
abbrev cX1_init : ByteArray := prog_3_method_1_code
def yX1_init : MethodName := ⟨RX1, "<init>", "()V"⟩
abbrev cX1_thrown : ByteArray := prog_3_method_2_code
def yX1_thrown : MethodName := ⟨RX1, "thrown", "()I"⟩
abbrev cX1_fail : ByteArray := prog_3_method_3_code
def yX1_fail : MethodName := ⟨RX1, "fail", "(I)I"⟩
abbrev cX1_isIn : ByteArray := prog_3_method_4_code
def yX1_isIn : MethodName := ⟨RX1, "isIn", "(III)Z"⟩
abbrev cX1_isTurn : ByteArray := prog_3_method_5_code
def yX1_isTurn : MethodName := ⟨RX1, "isTurn", "(I)Z"⟩
abbrev cX1_isRope : ByteArray := prog_3_method_6_code
def yX1_isRope : MethodName := ⟨RX1, "isRope", "(I)Z"⟩
abbrev cX1_isLong : ByteArray := prog_3_method_7_code
def yX1_isLong : MethodName := ⟨RX1, "isLong", "(I)Z"⟩
abbrev cX1_ro : ByteArray := prog_3_method_8_code
def yX1_ro : MethodName := ⟨RX1, "ro", "(II)I"⟩
abbrev cX1_isTied : ByteArray := prog_3_method_9_code
def yX1_isTied : MethodName := ⟨RX1, "isTied", "(I)Z"⟩
abbrev cX1_earliest : ByteArray := prog_3_method_10_code
def yX1_earliest : MethodName := ⟨RX1, "earliest", "()[I"⟩
abbrev cX1_isFound : ByteArray := prog_3_method_11_code
def yX1_isFound : MethodName := ⟨RX1, "isFound", "([I)Z"⟩
abbrev cX1_isHeld : ByteArray := prog_3_method_12_code
def yX1_isHeld : MethodName := ⟨RX1, "isHeld", "()Z"⟩
abbrev cX1_last : ByteArray := prog_3_method_13_code
def yX1_last : MethodName := ⟨RX1, "last", "([I)I"⟩
abbrev cX1_ways : ByteArray := prog_3_method_14_code
def yX1_ways : MethodName := ⟨RX1, "ways", "()[[I"⟩
abbrev cX1_ring : ByteArray := prog_3_method_15_code
def yX1_ring : MethodName := ⟨RX1, "ring", "()I"⟩
abbrev cX1_isTight : ByteArray := prog_3_method_16_code
def yX1_isTight : MethodName := ⟨RX1, "isTight", "(I[I)Z"⟩
abbrev cX1_shortest : ByteArray := prog_3_method_17_code
def yX1_shortest : MethodName := ⟨RX1, "shortest", "(I)I"⟩
abbrev cX1_turn : ByteArray := prog_3_method_18_code
def yX1_turn : MethodName := ⟨RX1, "turn", "()I"⟩
abbrev cX1_tie : ByteArray := prog_3_method_19_code
def yX1_tie : MethodName := ⟨RX1, "tie", "(III)I"⟩
abbrev cX1_cut : ByteArray := prog_3_method_20_code
def yX1_cut : MethodName := ⟨RX1, "cut", "(II)I"⟩
abbrev cX1_knot : ByteArray := prog_3_method_21_code
def yX1_knot : MethodName := ⟨RX1, "knot", "(I)Z"⟩
abbrev cX1_tighten : ByteArray := prog_3_method_22_code
def yX1_tighten : MethodName := ⟨RX1, "tighten", "()I"⟩
abbrev cX1_ropeTold : ByteArray := prog_3_method_23_code
def yX1_ropeTold : MethodName := ⟨RX1, "ropeTold", "(II[I)I"⟩
abbrev cX1_told : ByteArray := prog_3_method_24_code
def yX1_told : MethodName := ⟨RX1, "told", "(II)I"⟩
abbrev cX1_turnTold : ByteArray := prog_3_method_25_code
def yX1_turnTold : MethodName := ⟨RX1, "turnTold", "(II[I)I"⟩
abbrev cX1_about : ByteArray := prog_3_method_26_code
def yX1_about : MethodName := ⟨RX1, "about", "(II)I"⟩
abbrev cX1_counted : ByteArray := prog_3_method_27_code
def yX1_counted : MethodName := ⟨RX1, "counted", "(I[I)I"⟩
abbrev cX1_count : ByteArray := prog_3_method_28_code
def yX1_count : MethodName := ⟨RX1, "count", "(I)I"⟩
abbrev cX1_holds : ByteArray := prog_3_method_29_code
def yX1_holds : MethodName := ⟨RX1, "holds", "()Z"⟩
abbrev cX1_late : ByteArray := prog_3_method_30_code
def yX1_late : MethodName := ⟨RX1, "late", "(II)I"⟩
abbrev cX1_most : ByteArray := prog_3_method_31_code
def yX1_most : MethodName := ⟨RX1, "most", "(II)I"⟩
abbrev cX1_room : ByteArray := prog_3_method_32_code
def yX1_room : MethodName := ⟨RX1, "room", "(I)I"⟩
abbrev cX1_would : ByteArray := prog_3_method_33_code
def yX1_would : MethodName := ⟨RX1, "would", "(III)Z"⟩
abbrev cX1_at : ByteArray := prog_3_method_34_code
def yX1_at : MethodName := ⟨RX1, "at", "(I)I"⟩
abbrev cX1_advise : ByteArray := prog_3_method_35_code
def yX1_advise : MethodName := ⟨RX1, "advise", "()I"⟩
abbrev cX1_mean : ByteArray := prog_3_method_36_code
def yX1_mean : MethodName := ⟨RX1, "mean", "()D"⟩
abbrev cX1_digest : ByteArray := prog_3_method_37_code
def yX1_digest : MethodName := ⟨RX1, "digest", "()J"⟩
def RJ9 : String := "java/lang/Math"
def TJ9 : u_T := fun k => match k with
  | _ => ("", "", "", false)
def tyJ9 : Nat → FieldType := fun k => match k with
  | _ => .int
abbrev wsJ90 : List Cond := u_ws RJ9 TJ9 0
theorem nmJ9 : ∀ a, a < 0 → ∀ b, b < 0 → a ≠ b → (TJ9 a).2.1 ≠ (TJ9 b).2.1 := by decide +kernel
theorem tyJ9_ok : ∀ k, k < 0 → parseFieldDescriptor (TJ9 k).2.2.1 = some (tyJ9 k) := by decide +kernel
abbrev cJ9_max_7cf53 : ByteArray := prog_8_method_65_code
def yJ9_max_7cf53 : MethodName := ⟨RJ9, "max", "(II)I"⟩
abbrev cJ9_min_7cf53 : ByteArray := prog_8_method_69_code
def yJ9_min_7cf53 : MethodName := ⟨RJ9, "min", "(II)I"⟩
def RJ0 : String := "java/lang/String"
def TJ0 : u_T := fun k => match k with
  | _ => ("", "", "", false)
def tyJ0 : Nat → FieldType := fun k => match k with
  | _ => .int
abbrev wsJ00 : List Cond := u_ws RJ0 TJ0 0
theorem nmJ0 : ∀ a, a < 0 → ∀ b, b < 0 → a ≠ b → (TJ0 a).2.1 ≠ (TJ0 b).2.1 := by decide +kernel
theorem tyJ0_ok : ∀ k, k < 0 → parseFieldDescriptor (TJ0 k).2.2.1 = some (tyJ0 k) := by decide +kernel
def RJ10 : String := "java/lang/System"
def TJ10 : u_T := fun k => match k with
  | _ => ("", "", "", false)
def tyJ10 : Nat → FieldType := fun k => match k with
  | _ => .int
abbrev wsJ100 : List Cond := u_ws RJ10 TJ10 0
theorem nmJ10 : ∀ a, a < 0 → ∀ b, b < 0 → a ≠ b → (TJ10 a).2.1 ≠ (TJ10 b).2.1 := by decide +kernel
theorem tyJ10_ok : ∀ k, k < 0 → parseFieldDescriptor (TJ10 k).2.2.1 = some (tyJ10 k) := by decide +kernel
def RL : String := "RopeTimesLaw"
abbrev cL_turn : ByteArray := method_3_code
def yL_turn : MethodName := ⟨RL, "turn", "(LRopeTimes;[J)I"⟩
abbrev cL_tie : ByteArray := method_4_code
def yL_tie : MethodName := ⟨RL, "tie", "(LRopeTimes;III[J)I"⟩
abbrev cL_cut : ByteArray := method_5_code
def yL_cut : MethodName := ⟨RL, "cut", "(LRopeTimes;II[J)I"⟩
abbrev cL_knot : ByteArray := method_6_code
def yL_knot : MethodName := ⟨RL, "knot", "(LRopeTimes;I[J)I"⟩
abbrev cL_told : ByteArray := method_7_code
def yL_told : MethodName := ⟨RL, "told", "(LRopeTimes;II[J)I"⟩
abbrev cL_about : ByteArray := method_8_code
def yL_about : MethodName := ⟨RL, "about", "(LRopeTimes;II[J)I"⟩
abbrev cL_count : ByteArray := method_9_code
def yL_count : MethodName := ⟨RL, "count", "(LRopeTimes;I[J)I"⟩
abbrev cL_late : ByteArray := method_10_code
def yL_late : MethodName := ⟨RL, "late", "(LRopeTimes;II[J)I"⟩
abbrev cL_most : ByteArray := method_11_code
def yL_most : MethodName := ⟨RL, "most", "(LRopeTimes;II[J)I"⟩
abbrev cL_room : ByteArray := method_12_code
def yL_room : MethodName := ⟨RL, "room", "(LRopeTimes;I[J)I"⟩
abbrev cL_would : ByteArray := method_13_code
def yL_would : MethodName := ⟨RL, "would", "(LRopeTimes;III[J)I"⟩
abbrev cL_at : ByteArray := method_14_code
def yL_at : MethodName := ⟨RL, "at", "(LRopeTimes;I[J)I"⟩
abbrev cL_law : ByteArray := code
def yL_law : MethodName := ⟨RL, "law", "([I)Z"⟩
def wsX0_pushOnce : List Cond := .code yX0_pushOnce cX0_pushOnce 6 (some .boolean) :: ([.fieldLink RX0 63 "RopeTimes" "ropeCount" "I", .fieldLink RX0 19 "RopeTimes" "tied" "[Z", .fieldLink RX0 13 "RopeTimes" "to" "[I", .fieldLink RX0 16 "RopeTimes" "length" "[I", .fieldLink RX0 9 "RopeTimes" "from" "[I"] ++ wsX00)
def wsX0_findEarliest : List Cond := .code yX0_findEarliest cX0_findEarliest 4 (some .int) :: ([.fieldLink RX0 41 "RopeTimes" "turnCount" "I", .methodLink RX0 176 yX0_pushOnce, .instanceMethod yX0_pushOnce, .selects RX0 yX0_pushOnce yX0_pushOnce, .initialized RX0, .code yX0_pushOnce cX0_pushOnce 6 (some .boolean), .fieldLink RX0 63 "RopeTimes" "ropeCount" "I", .fieldLink RX0 19 "RopeTimes" "tied" "[Z", .fieldLink RX0 13 "RopeTimes" "to" "[I", .fieldLink RX0 16 "RopeTimes" "length" "[I", .fieldLink RX0 9 "RopeTimes" "from" "[I"] ++ wsX00)
def wsX0_isPossible : List Cond := .code yX0_isPossible cX0_isPossible 1 (some .boolean) :: ([.fieldLink RX0 94 "RopeTimes" "rounds" "I"] ++ wsX00)
def wsX0_shortenBound : List Cond := .code yX0_shortenBound cX0_shortenBound 5 none :: ([.fieldLink RX0 26 "RopeTimes" "bound" "[I", .methodLink RX0 122 Lib.Math.min.name, .static Lib.Math.min.name, .initialized "java/lang/Math", .code Lib.Math.min.name Lib.Math.min.code 2 (some .int)] ++ wsX00)
def wsX0_startBounds : List Cond := .code yX0_startBounds cX0_startBounds 3 none :: ([.fieldLink RX0 41 "RopeTimes" "turnCount" "I", .fieldLink RX0 26 "RopeTimes" "bound" "[I", .constant RX0 121 (99999), .fieldLink RX0 63 "RopeTimes" "ropeCount" "I", .fieldLink RX0 19 "RopeTimes" "tied" "[Z", .fieldLink RX0 9 "RopeTimes" "from" "[I", .fieldLink RX0 13 "RopeTimes" "to" "[I", .fieldLink RX0 16 "RopeTimes" "length" "[I", .methodLink RX0 189 yX0_shortenBound, .instanceMethod yX0_shortenBound, .selects RX0 yX0_shortenBound yX0_shortenBound, .initialized RX0, .code yX0_shortenBound cX0_shortenBound 5 none, .methodLink RX0 122 Lib.Math.min.name, .static Lib.Math.min.name, .initialized "java/lang/Math", .code Lib.Math.min.name Lib.Math.min.code 2 (some .int)] ++ wsX00)
def wsX0_boundFrom : List Cond := .code yX0_boundFrom cX0_boundFrom 3 (some .int) :: ([.fieldLink RX0 26 "RopeTimes" "bound" "[I"] ++ wsX00)
def wsX0_goOnOver : List Cond := .code yX0_goOnOver cX0_goOnOver 6 none :: ([.fieldLink RX0 41 "RopeTimes" "turnCount" "I", .constant RX0 121 (99999), .methodLink RX0 117 yX0_boundFrom, .instanceMethod yX0_boundFrom, .selects RX0 yX0_boundFrom yX0_boundFrom, .initialized RX0, .code yX0_boundFrom cX0_boundFrom 3 (some .int), .fieldLink RX0 26 "RopeTimes" "bound" "[I", .methodLink RX0 189 yX0_shortenBound, .instanceMethod yX0_shortenBound, .selects RX0 yX0_shortenBound yX0_shortenBound, .code yX0_shortenBound cX0_shortenBound 5 none, .methodLink RX0 122 Lib.Math.min.name, .static Lib.Math.min.name, .initialized "java/lang/Math", .code Lib.Math.min.name Lib.Math.min.code 2 (some .int)] ++ wsX00)
def wsX0_findBounds_r1 : List Cond := [Cond.fieldLink RX0 41 "RopeTimes" "turnCount" "I", Cond.constant RX0 121 (99999), Cond.methodLink RX0 183 yX0_startBounds, Cond.instanceMethod yX0_startBounds, Cond.selects RX0 yX0_startBounds yX0_startBounds, Cond.initialized RX0, Cond.code yX0_startBounds cX0_startBounds 3 none, Cond.fieldLink RX0 26 "RopeTimes" "bound" "[I", Cond.fieldLink RX0 63 "RopeTimes" "ropeCount" "I", Cond.fieldLink RX0 19 "RopeTimes" "tied" "[Z", Cond.fieldLink RX0 9 "RopeTimes" "from" "[I", Cond.fieldLink RX0 13 "RopeTimes" "to" "[I", Cond.fieldLink RX0 16 "RopeTimes" "length" "[I", Cond.methodLink RX0 189 yX0_shortenBound, Cond.instanceMethod yX0_shortenBound, Cond.selects RX0 yX0_shortenBound yX0_shortenBound, Cond.code yX0_shortenBound cX0_shortenBound 5 none, Cond.methodLink RX0 122 Lib.Math.min.name, Cond.static Lib.Math.min.name, Cond.initialized "java/lang/Math", Cond.code Lib.Math.min.name Lib.Math.min.code 2 (some .int), Cond.methodLink RX0 117 yX0_boundFrom, Cond.instanceMethod yX0_boundFrom, Cond.selects RX0 yX0_boundFrom yX0_boundFrom]
def wsX0_findBounds_r2 : List Cond := [Cond.code yX0_boundFrom cX0_boundFrom 3 (some .int), Cond.methodLink RX0 186 yX0_goOnOver, Cond.instanceMethod yX0_goOnOver, Cond.selects RX0 yX0_goOnOver yX0_goOnOver, Cond.code yX0_goOnOver cX0_goOnOver 6 none]
def wsX0_findBounds : List Cond := .code yX0_findBounds cX0_findBounds 3 none :: ((wsX0_findBounds_r1 ++ wsX0_findBounds_r2) ++ wsX00)
def wsX0_settle_r1 : List Cond := [Cond.fieldLink RX0 23 "RopeTimes" "earliest" "[I", Cond.fieldLink RX0 94 "RopeTimes" "rounds" "I", Cond.methodLink RX0 140 yX0_findEarliest, Cond.instanceMethod yX0_findEarliest, Cond.selects RX0 yX0_findEarliest yX0_findEarliest, Cond.initialized RX0, Cond.code yX0_findEarliest cX0_findEarliest 4 (some .int), Cond.fieldLink RX0 41 "RopeTimes" "turnCount" "I", Cond.methodLink RX0 176 yX0_pushOnce, Cond.instanceMethod yX0_pushOnce, Cond.selects RX0 yX0_pushOnce yX0_pushOnce, Cond.code yX0_pushOnce cX0_pushOnce 6 (some .boolean), Cond.fieldLink RX0 63 "RopeTimes" "ropeCount" "I", Cond.fieldLink RX0 19 "RopeTimes" "tied" "[Z", Cond.fieldLink RX0 13 "RopeTimes" "to" "[I", Cond.fieldLink RX0 16 "RopeTimes" "length" "[I", Cond.fieldLink RX0 9 "RopeTimes" "from" "[I", Cond.methodLink RX0 71 yX0_isPossible, Cond.instanceMethod yX0_isPossible, Cond.selects RX0 yX0_isPossible yX0_isPossible, Cond.code yX0_isPossible cX0_isPossible 1 (some .boolean), Cond.methodLink RX0 173 yX0_findBounds, Cond.instanceMethod yX0_findBounds, Cond.selects RX0 yX0_findBounds yX0_findBounds]
def wsX0_settle_r2 : List Cond := [Cond.code yX0_findBounds cX0_findBounds 3 none, Cond.constant RX0 121 (99999), Cond.methodLink RX0 183 yX0_startBounds, Cond.instanceMethod yX0_startBounds, Cond.selects RX0 yX0_startBounds yX0_startBounds, Cond.code yX0_startBounds cX0_startBounds 3 none, Cond.fieldLink RX0 26 "RopeTimes" "bound" "[I", Cond.methodLink RX0 189 yX0_shortenBound, Cond.instanceMethod yX0_shortenBound, Cond.selects RX0 yX0_shortenBound yX0_shortenBound, Cond.code yX0_shortenBound cX0_shortenBound 5 none, Cond.methodLink RX0 122 Lib.Math.min.name, Cond.static Lib.Math.min.name, Cond.initialized "java/lang/Math", Cond.code Lib.Math.min.name Lib.Math.min.code 2 (some .int), Cond.methodLink RX0 117 yX0_boundFrom, Cond.instanceMethod yX0_boundFrom, Cond.selects RX0 yX0_boundFrom yX0_boundFrom, Cond.code yX0_boundFrom cX0_boundFrom 3 (some .int), Cond.methodLink RX0 186 yX0_goOnOver, Cond.instanceMethod yX0_goOnOver, Cond.selects RX0 yX0_goOnOver yX0_goOnOver, Cond.code yX0_goOnOver cX0_goOnOver 6 none]
def wsX0_settle : List Cond := .code yX0_settle cX0_settle 1 none :: ((wsX0_settle_r1 ++ wsX0_settle_r2) ++ wsX00)
def wsX0_init_r1 : List Cond := [Cond.methodLink RX0 1 objectInit, Cond.instanceMethod objectInit, Cond.code objectInit ⟨#[0xb1]⟩ 1 none, Cond.arrayClass .int, Cond.fieldLink RX0 9 "RopeTimes" "from" "[I", Cond.fieldLink RX0 13 "RopeTimes" "to" "[I", Cond.fieldLink RX0 16 "RopeTimes" "length" "[I", Cond.arrayClass .boolean, Cond.fieldLink RX0 19 "RopeTimes" "tied" "[Z", Cond.fieldLink RX0 23 "RopeTimes" "earliest" "[I", Cond.fieldLink RX0 26 "RopeTimes" "bound" "[I", Cond.fieldLink RX0 29 "RopeTimes" "trial" "[I", Cond.fieldLink RX0 32 "RopeTimes" "reach" "[I", Cond.fieldLink RX0 35 "RopeTimes" "nextReach" "[I", Cond.methodLink RX0 38 yX0_settle, Cond.instanceMethod yX0_settle, Cond.selects RX0 yX0_settle yX0_settle, Cond.initialized RX0, Cond.code yX0_settle cX0_settle 1 none, Cond.fieldLink RX0 94 "RopeTimes" "rounds" "I", Cond.methodLink RX0 140 yX0_findEarliest, Cond.instanceMethod yX0_findEarliest, Cond.selects RX0 yX0_findEarliest yX0_findEarliest, Cond.code yX0_findEarliest cX0_findEarliest 4 (some .int)]
def wsX0_init_r2 : List Cond := [Cond.fieldLink RX0 41 "RopeTimes" "turnCount" "I", Cond.methodLink RX0 176 yX0_pushOnce, Cond.instanceMethod yX0_pushOnce, Cond.selects RX0 yX0_pushOnce yX0_pushOnce, Cond.code yX0_pushOnce cX0_pushOnce 6 (some .boolean), Cond.fieldLink RX0 63 "RopeTimes" "ropeCount" "I", Cond.methodLink RX0 71 yX0_isPossible, Cond.instanceMethod yX0_isPossible, Cond.selects RX0 yX0_isPossible yX0_isPossible, Cond.code yX0_isPossible cX0_isPossible 1 (some .boolean), Cond.methodLink RX0 173 yX0_findBounds, Cond.instanceMethod yX0_findBounds, Cond.selects RX0 yX0_findBounds yX0_findBounds, Cond.code yX0_findBounds cX0_findBounds 3 none, Cond.constant RX0 121 (99999), Cond.methodLink RX0 183 yX0_startBounds, Cond.instanceMethod yX0_startBounds, Cond.selects RX0 yX0_startBounds yX0_startBounds, Cond.code yX0_startBounds cX0_startBounds 3 none, Cond.methodLink RX0 189 yX0_shortenBound, Cond.instanceMethod yX0_shortenBound, Cond.selects RX0 yX0_shortenBound yX0_shortenBound, Cond.code yX0_shortenBound cX0_shortenBound 5 none, Cond.methodLink RX0 122 Lib.Math.min.name]
def wsX0_init_r3 : List Cond := [Cond.static Lib.Math.min.name, Cond.initialized "java/lang/Math", Cond.code Lib.Math.min.name Lib.Math.min.code 2 (some .int), Cond.methodLink RX0 117 yX0_boundFrom, Cond.instanceMethod yX0_boundFrom, Cond.selects RX0 yX0_boundFrom yX0_boundFrom, Cond.code yX0_boundFrom cX0_boundFrom 3 (some .int), Cond.methodLink RX0 186 yX0_goOnOver, Cond.instanceMethod yX0_goOnOver, Cond.selects RX0 yX0_goOnOver yX0_goOnOver, Cond.code yX0_goOnOver cX0_goOnOver 6 none]
def wsX0_init : List Cond := .code yX0_init cX0_init 1 none :: ((wsX0_init_r1 ++ (wsX0_init_r2 ++ wsX0_init_r3)) ++ wsX00)
def wsX0_turn_r1 : List Cond := [Cond.classLink RX0 45 "java/lang/IllegalStateException", Cond.initialized "java/lang/IllegalStateException", Cond.fieldLink RX0 41 "RopeTimes" "turnCount" "I", Cond.methodLink RX0 38 yX0_settle, Cond.instanceMethod yX0_settle, Cond.selects RX0 yX0_settle yX0_settle, Cond.initialized RX0, Cond.code yX0_settle cX0_settle 1 none, Cond.fieldLink RX0 23 "RopeTimes" "earliest" "[I", Cond.fieldLink RX0 94 "RopeTimes" "rounds" "I", Cond.methodLink RX0 140 yX0_findEarliest, Cond.instanceMethod yX0_findEarliest, Cond.selects RX0 yX0_findEarliest yX0_findEarliest, Cond.code yX0_findEarliest cX0_findEarliest 4 (some .int), Cond.methodLink RX0 176 yX0_pushOnce, Cond.instanceMethod yX0_pushOnce, Cond.selects RX0 yX0_pushOnce yX0_pushOnce, Cond.code yX0_pushOnce cX0_pushOnce 6 (some .boolean), Cond.fieldLink RX0 63 "RopeTimes" "ropeCount" "I", Cond.fieldLink RX0 19 "RopeTimes" "tied" "[Z", Cond.fieldLink RX0 13 "RopeTimes" "to" "[I", Cond.fieldLink RX0 16 "RopeTimes" "length" "[I", Cond.fieldLink RX0 9 "RopeTimes" "from" "[I", Cond.methodLink RX0 71 yX0_isPossible]
def wsX0_turn_r2 : List Cond := [Cond.instanceMethod yX0_isPossible, Cond.selects RX0 yX0_isPossible yX0_isPossible, Cond.code yX0_isPossible cX0_isPossible 1 (some .boolean), Cond.methodLink RX0 173 yX0_findBounds, Cond.instanceMethod yX0_findBounds, Cond.selects RX0 yX0_findBounds yX0_findBounds, Cond.code yX0_findBounds cX0_findBounds 3 none, Cond.constant RX0 121 (99999), Cond.methodLink RX0 183 yX0_startBounds, Cond.instanceMethod yX0_startBounds, Cond.selects RX0 yX0_startBounds yX0_startBounds, Cond.code yX0_startBounds cX0_startBounds 3 none, Cond.fieldLink RX0 26 "RopeTimes" "bound" "[I", Cond.methodLink RX0 189 yX0_shortenBound, Cond.instanceMethod yX0_shortenBound, Cond.selects RX0 yX0_shortenBound yX0_shortenBound, Cond.code yX0_shortenBound cX0_shortenBound 5 none, Cond.methodLink RX0 122 Lib.Math.min.name, Cond.static Lib.Math.min.name, Cond.initialized "java/lang/Math", Cond.code Lib.Math.min.name Lib.Math.min.code 2 (some .int), Cond.methodLink RX0 117 yX0_boundFrom, Cond.instanceMethod yX0_boundFrom, Cond.selects RX0 yX0_boundFrom yX0_boundFrom]
def wsX0_turn_r3 : List Cond := [Cond.code yX0_boundFrom cX0_boundFrom 3 (some .int), Cond.methodLink RX0 186 yX0_goOnOver, Cond.instanceMethod yX0_goOnOver, Cond.selects RX0 yX0_goOnOver yX0_goOnOver, Cond.code yX0_goOnOver cX0_goOnOver 6 none]
def wsX0_turn : List Cond := .code yX0_turn cX0_turn 2 (some .int) :: ((wsX0_turn_r1 ++ (wsX0_turn_r2 ++ wsX0_turn_r3)) ++ wsX00 ++ (vx_atS RX0 49 "java/lang/IllegalStateException" ["java/lang/RuntimeException", "java/lang/Exception"]).filter goodWord)
def wsX0_checkTurn : List Cond := .code yX0_checkTurn cX0_checkTurn 2 none :: ([.classLink RX0 132 "java/lang/IndexOutOfBoundsException", .initialized "java/lang/IndexOutOfBoundsException", .fieldLink RX0 41 "RopeTimes" "turnCount" "I"] ++ wsX00 ++ (vx_atS RX0 136 "java/lang/IndexOutOfBoundsException" ["java/lang/RuntimeException", "java/lang/Exception"]).filter goodWord)
def wsX0_checkTwoTurns : List Cond := .code yX0_checkTwoTurns cX0_checkTwoTurns 2 none :: ([.classLink RX0 107 "java/lang/IllegalArgumentException", .initialized "java/lang/IllegalArgumentException"] ++ (vx_atS RX0 111 "java/lang/IllegalArgumentException" ["java/lang/RuntimeException", "java/lang/Exception"]).filter goodWord)
def wsX0_checkLength : List Cond := .code yX0_checkLength cX0_checkLength 1 none :: ([.classLink RX0 107 "java/lang/IllegalArgumentException", .initialized "java/lang/IllegalArgumentException"] ++ (vx_atS RX0 111 "java/lang/IllegalArgumentException" ["java/lang/RuntimeException", "java/lang/Exception"]).filter goodWord)
def wsX0_tie_r1 : List Cond := [Cond.classLink RX0 45 "java/lang/IllegalStateException", Cond.initialized "java/lang/IllegalStateException", Cond.fieldLink RX0 63 "RopeTimes" "ropeCount" "I", Cond.fieldLink RX0 9 "RopeTimes" "from" "[I", Cond.fieldLink RX0 13 "RopeTimes" "to" "[I", Cond.fieldLink RX0 16 "RopeTimes" "length" "[I", Cond.fieldLink RX0 19 "RopeTimes" "tied" "[Z", Cond.methodLink RX0 52 yX0_checkTurn, Cond.instanceMethod yX0_checkTurn, Cond.selects RX0 yX0_checkTurn yX0_checkTurn, Cond.initialized RX0, Cond.code yX0_checkTurn cX0_checkTurn 2 none, Cond.classLink RX0 132 "java/lang/IndexOutOfBoundsException", Cond.initialized "java/lang/IndexOutOfBoundsException", Cond.fieldLink RX0 41 "RopeTimes" "turnCount" "I", Cond.methodLink RX0 56 yX0_checkTwoTurns, Cond.static yX0_checkTwoTurns, Cond.code yX0_checkTwoTurns cX0_checkTwoTurns 2 none, Cond.classLink RX0 107 "java/lang/IllegalArgumentException", Cond.initialized "java/lang/IllegalArgumentException", Cond.methodLink RX0 60 yX0_checkLength, Cond.static yX0_checkLength, Cond.code yX0_checkLength cX0_checkLength 1 none, Cond.methodLink RX0 38 yX0_settle]
def wsX0_tie_r2 : List Cond := [Cond.instanceMethod yX0_settle, Cond.selects RX0 yX0_settle yX0_settle, Cond.code yX0_settle cX0_settle 1 none, Cond.fieldLink RX0 23 "RopeTimes" "earliest" "[I", Cond.fieldLink RX0 94 "RopeTimes" "rounds" "I", Cond.methodLink RX0 140 yX0_findEarliest, Cond.instanceMethod yX0_findEarliest, Cond.selects RX0 yX0_findEarliest yX0_findEarliest, Cond.code yX0_findEarliest cX0_findEarliest 4 (some .int), Cond.methodLink RX0 176 yX0_pushOnce, Cond.instanceMethod yX0_pushOnce, Cond.selects RX0 yX0_pushOnce yX0_pushOnce, Cond.code yX0_pushOnce cX0_pushOnce 6 (some .boolean), Cond.methodLink RX0 71 yX0_isPossible, Cond.instanceMethod yX0_isPossible, Cond.selects RX0 yX0_isPossible yX0_isPossible, Cond.code yX0_isPossible cX0_isPossible 1 (some .boolean), Cond.methodLink RX0 173 yX0_findBounds, Cond.instanceMethod yX0_findBounds, Cond.selects RX0 yX0_findBounds yX0_findBounds, Cond.code yX0_findBounds cX0_findBounds 3 none, Cond.constant RX0 121 (99999), Cond.methodLink RX0 183 yX0_startBounds, Cond.instanceMethod yX0_startBounds]
def wsX0_tie_r3 : List Cond := [Cond.selects RX0 yX0_startBounds yX0_startBounds, Cond.code yX0_startBounds cX0_startBounds 3 none, Cond.fieldLink RX0 26 "RopeTimes" "bound" "[I", Cond.methodLink RX0 189 yX0_shortenBound, Cond.instanceMethod yX0_shortenBound, Cond.selects RX0 yX0_shortenBound yX0_shortenBound, Cond.code yX0_shortenBound cX0_shortenBound 5 none, Cond.methodLink RX0 122 Lib.Math.min.name, Cond.static Lib.Math.min.name, Cond.initialized "java/lang/Math", Cond.code Lib.Math.min.name Lib.Math.min.code 2 (some .int), Cond.methodLink RX0 117 yX0_boundFrom, Cond.instanceMethod yX0_boundFrom, Cond.selects RX0 yX0_boundFrom yX0_boundFrom, Cond.code yX0_boundFrom cX0_boundFrom 3 (some .int), Cond.methodLink RX0 186 yX0_goOnOver, Cond.instanceMethod yX0_goOnOver, Cond.selects RX0 yX0_goOnOver yX0_goOnOver, Cond.code yX0_goOnOver cX0_goOnOver 6 none]
def wsX0_tie : List Cond := .code yX0_tie cX0_tie 5 (some .int) :: ((wsX0_tie_r1 ++ (wsX0_tie_r2 ++ wsX0_tie_r3)) ++ wsX00 ++ (vx_atS RX0 49 "java/lang/IllegalStateException" ["java/lang/RuntimeException", "java/lang/Exception"]).filter goodWord ++ (vx_atS RX0 136 "java/lang/IndexOutOfBoundsException" ["java/lang/RuntimeException", "java/lang/Exception"]).filter goodWord ++ (vx_atS RX0 111 "java/lang/IllegalArgumentException" ["java/lang/RuntimeException", "java/lang/Exception"]).filter goodWord)
def wsX0_checkRope : List Cond := .code yX0_checkRope cX0_checkRope 2 none :: ([.classLink RX0 132 "java/lang/IndexOutOfBoundsException", .initialized "java/lang/IndexOutOfBoundsException", .fieldLink RX0 63 "RopeTimes" "ropeCount" "I"] ++ wsX00 ++ (vx_atS RX0 136 "java/lang/IndexOutOfBoundsException" ["java/lang/RuntimeException", "java/lang/Exception"]).filter goodWord)
def wsX0_cut_r1 : List Cond := [Cond.fieldLink RX0 16 "RopeTimes" "length" "[I", Cond.methodLink RX0 68 yX0_checkRope, Cond.instanceMethod yX0_checkRope, Cond.selects RX0 yX0_checkRope yX0_checkRope, Cond.initialized RX0, Cond.code yX0_checkRope cX0_checkRope 2 none, Cond.classLink RX0 132 "java/lang/IndexOutOfBoundsException", Cond.initialized "java/lang/IndexOutOfBoundsException", Cond.fieldLink RX0 63 "RopeTimes" "ropeCount" "I", Cond.methodLink RX0 60 yX0_checkLength, Cond.static yX0_checkLength, Cond.code yX0_checkLength cX0_checkLength 1 none, Cond.classLink RX0 107 "java/lang/IllegalArgumentException", Cond.initialized "java/lang/IllegalArgumentException", Cond.methodLink RX0 38 yX0_settle, Cond.instanceMethod yX0_settle, Cond.selects RX0 yX0_settle yX0_settle, Cond.code yX0_settle cX0_settle 1 none, Cond.fieldLink RX0 23 "RopeTimes" "earliest" "[I", Cond.fieldLink RX0 94 "RopeTimes" "rounds" "I", Cond.methodLink RX0 140 yX0_findEarliest, Cond.instanceMethod yX0_findEarliest, Cond.selects RX0 yX0_findEarliest yX0_findEarliest, Cond.code yX0_findEarliest cX0_findEarliest 4 (some .int)]
def wsX0_cut_r2 : List Cond := [Cond.fieldLink RX0 41 "RopeTimes" "turnCount" "I", Cond.methodLink RX0 176 yX0_pushOnce, Cond.instanceMethod yX0_pushOnce, Cond.selects RX0 yX0_pushOnce yX0_pushOnce, Cond.code yX0_pushOnce cX0_pushOnce 6 (some .boolean), Cond.fieldLink RX0 19 "RopeTimes" "tied" "[Z", Cond.fieldLink RX0 13 "RopeTimes" "to" "[I", Cond.fieldLink RX0 9 "RopeTimes" "from" "[I", Cond.methodLink RX0 71 yX0_isPossible, Cond.instanceMethod yX0_isPossible, Cond.selects RX0 yX0_isPossible yX0_isPossible, Cond.code yX0_isPossible cX0_isPossible 1 (some .boolean), Cond.methodLink RX0 173 yX0_findBounds, Cond.instanceMethod yX0_findBounds, Cond.selects RX0 yX0_findBounds yX0_findBounds, Cond.code yX0_findBounds cX0_findBounds 3 none, Cond.constant RX0 121 (99999), Cond.methodLink RX0 183 yX0_startBounds, Cond.instanceMethod yX0_startBounds, Cond.selects RX0 yX0_startBounds yX0_startBounds, Cond.code yX0_startBounds cX0_startBounds 3 none, Cond.fieldLink RX0 26 "RopeTimes" "bound" "[I", Cond.methodLink RX0 189 yX0_shortenBound, Cond.instanceMethod yX0_shortenBound]
def wsX0_cut_r3 : List Cond := [Cond.selects RX0 yX0_shortenBound yX0_shortenBound, Cond.code yX0_shortenBound cX0_shortenBound 5 none, Cond.methodLink RX0 122 Lib.Math.min.name, Cond.static Lib.Math.min.name, Cond.initialized "java/lang/Math", Cond.code Lib.Math.min.name Lib.Math.min.code 2 (some .int), Cond.methodLink RX0 117 yX0_boundFrom, Cond.instanceMethod yX0_boundFrom, Cond.selects RX0 yX0_boundFrom yX0_boundFrom, Cond.code yX0_boundFrom cX0_boundFrom 3 (some .int), Cond.methodLink RX0 186 yX0_goOnOver, Cond.instanceMethod yX0_goOnOver, Cond.selects RX0 yX0_goOnOver yX0_goOnOver, Cond.code yX0_goOnOver cX0_goOnOver 6 none]
def wsX0_cut : List Cond := .code yX0_cut cX0_cut 4 (some .int) :: ((wsX0_cut_r1 ++ (wsX0_cut_r2 ++ wsX0_cut_r3)) ++ wsX00 ++ (vx_atS RX0 136 "java/lang/IndexOutOfBoundsException" ["java/lang/RuntimeException", "java/lang/Exception"]).filter goodWord ++ (vx_atS RX0 111 "java/lang/IllegalArgumentException" ["java/lang/RuntimeException", "java/lang/Exception"]).filter goodWord)
def wsX0_knot_r1 : List Cond := [Cond.fieldLink RX0 19 "RopeTimes" "tied" "[Z", Cond.methodLink RX0 68 yX0_checkRope, Cond.instanceMethod yX0_checkRope, Cond.selects RX0 yX0_checkRope yX0_checkRope, Cond.initialized RX0, Cond.code yX0_checkRope cX0_checkRope 2 none, Cond.classLink RX0 132 "java/lang/IndexOutOfBoundsException", Cond.initialized "java/lang/IndexOutOfBoundsException", Cond.fieldLink RX0 63 "RopeTimes" "ropeCount" "I", Cond.methodLink RX0 38 yX0_settle, Cond.instanceMethod yX0_settle, Cond.selects RX0 yX0_settle yX0_settle, Cond.code yX0_settle cX0_settle 1 none, Cond.fieldLink RX0 23 "RopeTimes" "earliest" "[I", Cond.fieldLink RX0 94 "RopeTimes" "rounds" "I", Cond.methodLink RX0 140 yX0_findEarliest, Cond.instanceMethod yX0_findEarliest, Cond.selects RX0 yX0_findEarliest yX0_findEarliest, Cond.code yX0_findEarliest cX0_findEarliest 4 (some .int), Cond.fieldLink RX0 41 "RopeTimes" "turnCount" "I", Cond.methodLink RX0 176 yX0_pushOnce, Cond.instanceMethod yX0_pushOnce, Cond.selects RX0 yX0_pushOnce yX0_pushOnce, Cond.code yX0_pushOnce cX0_pushOnce 6 (some .boolean)]
def wsX0_knot_r2 : List Cond := [Cond.fieldLink RX0 13 "RopeTimes" "to" "[I", Cond.fieldLink RX0 16 "RopeTimes" "length" "[I", Cond.fieldLink RX0 9 "RopeTimes" "from" "[I", Cond.methodLink RX0 71 yX0_isPossible, Cond.instanceMethod yX0_isPossible, Cond.selects RX0 yX0_isPossible yX0_isPossible, Cond.code yX0_isPossible cX0_isPossible 1 (some .boolean), Cond.methodLink RX0 173 yX0_findBounds, Cond.instanceMethod yX0_findBounds, Cond.selects RX0 yX0_findBounds yX0_findBounds, Cond.code yX0_findBounds cX0_findBounds 3 none, Cond.constant RX0 121 (99999), Cond.methodLink RX0 183 yX0_startBounds, Cond.instanceMethod yX0_startBounds, Cond.selects RX0 yX0_startBounds yX0_startBounds, Cond.code yX0_startBounds cX0_startBounds 3 none, Cond.fieldLink RX0 26 "RopeTimes" "bound" "[I", Cond.methodLink RX0 189 yX0_shortenBound, Cond.instanceMethod yX0_shortenBound, Cond.selects RX0 yX0_shortenBound yX0_shortenBound, Cond.code yX0_shortenBound cX0_shortenBound 5 none, Cond.methodLink RX0 122 Lib.Math.min.name, Cond.static Lib.Math.min.name, Cond.initialized "java/lang/Math"]
def wsX0_knot_r3 : List Cond := [Cond.code Lib.Math.min.name Lib.Math.min.code 2 (some .int), Cond.methodLink RX0 117 yX0_boundFrom, Cond.instanceMethod yX0_boundFrom, Cond.selects RX0 yX0_boundFrom yX0_boundFrom, Cond.code yX0_boundFrom cX0_boundFrom 3 (some .int), Cond.methodLink RX0 186 yX0_goOnOver, Cond.instanceMethod yX0_goOnOver, Cond.selects RX0 yX0_goOnOver yX0_goOnOver, Cond.code yX0_goOnOver cX0_goOnOver 6 none]
def wsX0_knot : List Cond := .code yX0_knot cX0_knot 2 (some .boolean) :: ((wsX0_knot_r1 ++ (wsX0_knot_r2 ++ wsX0_knot_r3)) ++ wsX00 ++ (vx_atS RX0 136 "java/lang/IndexOutOfBoundsException" ["java/lang/RuntimeException", "java/lang/Exception"]).filter goodWord)
def wsX0_leastLength : List Cond := .code yX0_leastLength cX0_leastLength 4 (some .int) :: ([.constant RX0 121 (99999), .methodLink RX0 180 Lib.Math.max.name, .static Lib.Math.max.name, .initialized "java/lang/Math", .code Lib.Math.max.name Lib.Math.max.code 2 (some .int), .methodLink RX0 117 yX0_boundFrom, .instanceMethod yX0_boundFrom, .selects RX0 yX0_boundFrom yX0_boundFrom, .initialized RX0, .code yX0_boundFrom cX0_boundFrom 3 (some .int), .fieldLink RX0 26 "RopeTimes" "bound" "[I"] ++ wsX00)
def wsX0_tightenOne_r1 : List Cond := [Cond.fieldLink RX0 16 "RopeTimes" "length" "[I", Cond.fieldLink RX0 9 "RopeTimes" "from" "[I", Cond.fieldLink RX0 13 "RopeTimes" "to" "[I", Cond.methodLink RX0 129 yX0_leastLength, Cond.instanceMethod yX0_leastLength, Cond.selects RX0 yX0_leastLength yX0_leastLength, Cond.initialized RX0, Cond.code yX0_leastLength cX0_leastLength 4 (some .int), Cond.constant RX0 121 (99999), Cond.methodLink RX0 180 Lib.Math.max.name, Cond.static Lib.Math.max.name, Cond.initialized "java/lang/Math", Cond.code Lib.Math.max.name Lib.Math.max.code 2 (some .int), Cond.methodLink RX0 117 yX0_boundFrom, Cond.instanceMethod yX0_boundFrom, Cond.selects RX0 yX0_boundFrom yX0_boundFrom, Cond.code yX0_boundFrom cX0_boundFrom 3 (some .int), Cond.fieldLink RX0 26 "RopeTimes" "bound" "[I", Cond.methodLink RX0 38 yX0_settle, Cond.instanceMethod yX0_settle, Cond.selects RX0 yX0_settle yX0_settle, Cond.code yX0_settle cX0_settle 1 none, Cond.fieldLink RX0 23 "RopeTimes" "earliest" "[I", Cond.fieldLink RX0 94 "RopeTimes" "rounds" "I"]
def wsX0_tightenOne_r2 : List Cond := [Cond.methodLink RX0 140 yX0_findEarliest, Cond.instanceMethod yX0_findEarliest, Cond.selects RX0 yX0_findEarliest yX0_findEarliest, Cond.code yX0_findEarliest cX0_findEarliest 4 (some .int), Cond.fieldLink RX0 41 "RopeTimes" "turnCount" "I", Cond.methodLink RX0 176 yX0_pushOnce, Cond.instanceMethod yX0_pushOnce, Cond.selects RX0 yX0_pushOnce yX0_pushOnce, Cond.code yX0_pushOnce cX0_pushOnce 6 (some .boolean), Cond.fieldLink RX0 63 "RopeTimes" "ropeCount" "I", Cond.fieldLink RX0 19 "RopeTimes" "tied" "[Z", Cond.methodLink RX0 71 yX0_isPossible, Cond.instanceMethod yX0_isPossible, Cond.selects RX0 yX0_isPossible yX0_isPossible, Cond.code yX0_isPossible cX0_isPossible 1 (some .boolean), Cond.methodLink RX0 173 yX0_findBounds, Cond.instanceMethod yX0_findBounds, Cond.selects RX0 yX0_findBounds yX0_findBounds, Cond.code yX0_findBounds cX0_findBounds 3 none, Cond.methodLink RX0 183 yX0_startBounds, Cond.instanceMethod yX0_startBounds, Cond.selects RX0 yX0_startBounds yX0_startBounds, Cond.code yX0_startBounds cX0_startBounds 3 none, Cond.methodLink RX0 189 yX0_shortenBound]
def wsX0_tightenOne_r3 : List Cond := [Cond.instanceMethod yX0_shortenBound, Cond.selects RX0 yX0_shortenBound yX0_shortenBound, Cond.code yX0_shortenBound cX0_shortenBound 5 none, Cond.methodLink RX0 122 Lib.Math.min.name, Cond.static Lib.Math.min.name, Cond.code Lib.Math.min.name Lib.Math.min.code 2 (some .int), Cond.methodLink RX0 186 yX0_goOnOver, Cond.instanceMethod yX0_goOnOver, Cond.selects RX0 yX0_goOnOver yX0_goOnOver, Cond.code yX0_goOnOver cX0_goOnOver 6 none]
def wsX0_tightenOne : List Cond := .code yX0_tightenOne cX0_tightenOne 3 (some .int) :: ((wsX0_tightenOne_r1 ++ (wsX0_tightenOne_r2 ++ wsX0_tightenOne_r3)) ++ wsX00)
def wsX0_tighten_r1 : List Cond := [Cond.fieldLink RX0 63 "RopeTimes" "ropeCount" "I", Cond.fieldLink RX0 19 "RopeTimes" "tied" "[Z", Cond.methodLink RX0 71 yX0_isPossible, Cond.instanceMethod yX0_isPossible, Cond.selects RX0 yX0_isPossible yX0_isPossible, Cond.initialized RX0, Cond.code yX0_isPossible cX0_isPossible 1 (some .boolean), Cond.fieldLink RX0 94 "RopeTimes" "rounds" "I", Cond.methodLink RX0 75 yX0_tightenOne, Cond.instanceMethod yX0_tightenOne, Cond.selects RX0 yX0_tightenOne yX0_tightenOne, Cond.code yX0_tightenOne cX0_tightenOne 3 (some .int), Cond.fieldLink RX0 16 "RopeTimes" "length" "[I", Cond.fieldLink RX0 9 "RopeTimes" "from" "[I", Cond.fieldLink RX0 13 "RopeTimes" "to" "[I", Cond.methodLink RX0 129 yX0_leastLength, Cond.instanceMethod yX0_leastLength, Cond.selects RX0 yX0_leastLength yX0_leastLength, Cond.code yX0_leastLength cX0_leastLength 4 (some .int), Cond.constant RX0 121 (99999), Cond.methodLink RX0 180 Lib.Math.max.name, Cond.static Lib.Math.max.name, Cond.initialized "java/lang/Math", Cond.code Lib.Math.max.name Lib.Math.max.code 2 (some .int)]
def wsX0_tighten_r2 : List Cond := [Cond.methodLink RX0 117 yX0_boundFrom, Cond.instanceMethod yX0_boundFrom, Cond.selects RX0 yX0_boundFrom yX0_boundFrom, Cond.code yX0_boundFrom cX0_boundFrom 3 (some .int), Cond.fieldLink RX0 26 "RopeTimes" "bound" "[I", Cond.methodLink RX0 38 yX0_settle, Cond.instanceMethod yX0_settle, Cond.selects RX0 yX0_settle yX0_settle, Cond.code yX0_settle cX0_settle 1 none, Cond.fieldLink RX0 23 "RopeTimes" "earliest" "[I", Cond.methodLink RX0 140 yX0_findEarliest, Cond.instanceMethod yX0_findEarliest, Cond.selects RX0 yX0_findEarliest yX0_findEarliest, Cond.code yX0_findEarliest cX0_findEarliest 4 (some .int), Cond.fieldLink RX0 41 "RopeTimes" "turnCount" "I", Cond.methodLink RX0 176 yX0_pushOnce, Cond.instanceMethod yX0_pushOnce, Cond.selects RX0 yX0_pushOnce yX0_pushOnce, Cond.code yX0_pushOnce cX0_pushOnce 6 (some .boolean), Cond.methodLink RX0 173 yX0_findBounds, Cond.instanceMethod yX0_findBounds, Cond.selects RX0 yX0_findBounds yX0_findBounds, Cond.code yX0_findBounds cX0_findBounds 3 none, Cond.methodLink RX0 183 yX0_startBounds]
def wsX0_tighten_r3 : List Cond := [Cond.instanceMethod yX0_startBounds, Cond.selects RX0 yX0_startBounds yX0_startBounds, Cond.code yX0_startBounds cX0_startBounds 3 none, Cond.methodLink RX0 189 yX0_shortenBound, Cond.instanceMethod yX0_shortenBound, Cond.selects RX0 yX0_shortenBound yX0_shortenBound, Cond.code yX0_shortenBound cX0_shortenBound 5 none, Cond.methodLink RX0 122 Lib.Math.min.name, Cond.static Lib.Math.min.name, Cond.code Lib.Math.min.name Lib.Math.min.code 2 (some .int), Cond.methodLink RX0 186 yX0_goOnOver, Cond.instanceMethod yX0_goOnOver, Cond.selects RX0 yX0_goOnOver yX0_goOnOver, Cond.code yX0_goOnOver cX0_goOnOver 6 none]
def wsX0_tighten : List Cond := .code yX0_tighten cX0_tighten 3 (some .int) :: ((wsX0_tighten_r1 ++ (wsX0_tighten_r2 ++ wsX0_tighten_r3)) ++ wsX00)
def wsX0_checkKind : List Cond := .code yX0_checkKind cX0_checkKind 2 none :: ([.classLink RX0 132 "java/lang/IndexOutOfBoundsException", .initialized "java/lang/IndexOutOfBoundsException"] ++ (vx_atS RX0 136 "java/lang/IndexOutOfBoundsException" ["java/lang/RuntimeException", "java/lang/Exception"]).filter goodWord)
def wsX0_isTight : List Cond := .code yX0_isTight cX0_isTight 2 (some .boolean) :: ([.fieldLink RX0 19 "RopeTimes" "tied" "[Z", .fieldLink RX0 23 "RopeTimes" "earliest" "[I", .fieldLink RX0 13 "RopeTimes" "to" "[I", .fieldLink RX0 9 "RopeTimes" "from" "[I", .fieldLink RX0 16 "RopeTimes" "length" "[I", .methodLink RX0 71 yX0_isPossible, .instanceMethod yX0_isPossible, .selects RX0 yX0_isPossible yX0_isPossible, .initialized RX0, .code yX0_isPossible cX0_isPossible 1 (some .boolean), .fieldLink RX0 94 "RopeTimes" "rounds" "I"] ++ wsX00)
def wsX0_told_r1 : List Cond := [Cond.fieldLink RX0 9 "RopeTimes" "from" "[I", Cond.fieldLink RX0 13 "RopeTimes" "to" "[I", Cond.fieldLink RX0 16 "RopeTimes" "length" "[I", Cond.fieldLink RX0 19 "RopeTimes" "tied" "[Z", Cond.methodLink RX0 68 yX0_checkRope, Cond.instanceMethod yX0_checkRope, Cond.selects RX0 yX0_checkRope yX0_checkRope, Cond.initialized RX0, Cond.code yX0_checkRope cX0_checkRope 2 none, Cond.classLink RX0 132 "java/lang/IndexOutOfBoundsException", Cond.initialized "java/lang/IndexOutOfBoundsException", Cond.fieldLink RX0 63 "RopeTimes" "ropeCount" "I", Cond.methodLink RX0 79 yX0_checkKind, Cond.static yX0_checkKind, Cond.code yX0_checkKind cX0_checkKind 2 none, Cond.methodLink RX0 82 yX0_isTight, Cond.instanceMethod yX0_isTight, Cond.selects RX0 yX0_isTight yX0_isTight, Cond.code yX0_isTight cX0_isTight 2 (some .boolean), Cond.fieldLink RX0 23 "RopeTimes" "earliest" "[I", Cond.methodLink RX0 71 yX0_isPossible, Cond.instanceMethod yX0_isPossible, Cond.selects RX0 yX0_isPossible yX0_isPossible, Cond.code yX0_isPossible cX0_isPossible 1 (some .boolean)]
def wsX0_told_r2 : List Cond := [Cond.fieldLink RX0 94 "RopeTimes" "rounds" "I"]
def wsX0_told : List Cond := .code yX0_told cX0_told 3 (some .int) :: ((wsX0_told_r1 ++ wsX0_told_r2) ++ wsX00 ++ (vx_atS RX0 136 "java/lang/IndexOutOfBoundsException" ["java/lang/RuntimeException", "java/lang/Exception"]).filter goodWord)
def wsX0_tiedEndsAt : List Cond := .code yX0_tiedEndsAt cX0_tiedEndsAt 5 (some .int) :: ([.fieldLink RX0 63 "RopeTimes" "ropeCount" "I", .fieldLink RX0 19 "RopeTimes" "tied" "[Z"] ++ wsX00)
def wsX0_about_r1 : List Cond := [Cond.fieldLink RX0 9 "RopeTimes" "from" "[I", Cond.fieldLink RX0 13 "RopeTimes" "to" "[I", Cond.fieldLink RX0 23 "RopeTimes" "earliest" "[I", Cond.methodLink RX0 52 yX0_checkTurn, Cond.instanceMethod yX0_checkTurn, Cond.selects RX0 yX0_checkTurn yX0_checkTurn, Cond.initialized RX0, Cond.code yX0_checkTurn cX0_checkTurn 2 none, Cond.classLink RX0 132 "java/lang/IndexOutOfBoundsException", Cond.initialized "java/lang/IndexOutOfBoundsException", Cond.fieldLink RX0 41 "RopeTimes" "turnCount" "I", Cond.methodLink RX0 79 yX0_checkKind, Cond.static yX0_checkKind, Cond.code yX0_checkKind cX0_checkKind 2 none, Cond.methodLink RX0 86 yX0_tiedEndsAt, Cond.instanceMethod yX0_tiedEndsAt, Cond.selects RX0 yX0_tiedEndsAt yX0_tiedEndsAt, Cond.code yX0_tiedEndsAt cX0_tiedEndsAt 5 (some .int), Cond.fieldLink RX0 63 "RopeTimes" "ropeCount" "I", Cond.fieldLink RX0 19 "RopeTimes" "tied" "[Z", Cond.methodLink RX0 71 yX0_isPossible, Cond.instanceMethod yX0_isPossible, Cond.selects RX0 yX0_isPossible yX0_isPossible, Cond.code yX0_isPossible cX0_isPossible 1 (some .boolean)]
def wsX0_about_r2 : List Cond := [Cond.fieldLink RX0 94 "RopeTimes" "rounds" "I"]
def wsX0_about : List Cond := .code yX0_about cX0_about 3 (some .int) :: ((wsX0_about_r1 ++ wsX0_about_r2) ++ wsX00 ++ (vx_atS RX0 136 "java/lang/IndexOutOfBoundsException" ["java/lang/RuntimeException", "java/lang/Exception"]).filter goodWord)
def wsX0_tiedRopes : List Cond := .code yX0_tiedRopes cX0_tiedRopes 3 (some .int) :: ([.fieldLink RX0 63 "RopeTimes" "ropeCount" "I", .fieldLink RX0 19 "RopeTimes" "tied" "[Z"] ++ wsX00)
def wsX0_lastOf : List Cond := .code yX0_lastOf cX0_lastOf 4 (some .int) :: ([.fieldLink RX0 41 "RopeTimes" "turnCount" "I", .methodLink RX0 180 Lib.Math.max.name, .static Lib.Math.max.name, .initialized "java/lang/Math", .code Lib.Math.max.name Lib.Math.max.code 2 (some .int)] ++ wsX00)
def wsX0_tightRopes : List Cond := .code yX0_tightRopes cX0_tightRopes 3 (some .int) :: ([.fieldLink RX0 63 "RopeTimes" "ropeCount" "I", .methodLink RX0 82 yX0_isTight, .instanceMethod yX0_isTight, .selects RX0 yX0_isTight yX0_isTight, .initialized RX0, .code yX0_isTight cX0_isTight 2 (some .boolean), .fieldLink RX0 19 "RopeTimes" "tied" "[Z", .fieldLink RX0 23 "RopeTimes" "earliest" "[I", .fieldLink RX0 13 "RopeTimes" "to" "[I", .fieldLink RX0 9 "RopeTimes" "from" "[I", .fieldLink RX0 16 "RopeTimes" "length" "[I", .methodLink RX0 71 yX0_isPossible, .instanceMethod yX0_isPossible, .selects RX0 yX0_isPossible yX0_isPossible, .code yX0_isPossible cX0_isPossible 1 (some .boolean), .fieldLink RX0 94 "RopeTimes" "rounds" "I"] ++ wsX00)
def wsX0_goOneRope : List Cond := .code yX0_goOneRope cX0_goOneRope 3 none :: ([.fieldLink RX0 41 "RopeTimes" "turnCount" "I", .fieldLink RX0 35 "RopeTimes" "nextReach" "[I", .constant RX0 121 (99999), .fieldLink RX0 63 "RopeTimes" "ropeCount" "I", .fieldLink RX0 19 "RopeTimes" "tied" "[Z", .fieldLink RX0 32 "RopeTimes" "reach" "[I", .fieldLink RX0 9 "RopeTimes" "from" "[I", .fieldLink RX0 16 "RopeTimes" "length" "[I", .fieldLink RX0 13 "RopeTimes" "to" "[I", .methodLink RX0 122 Lib.Math.min.name, .static Lib.Math.min.name, .initialized "java/lang/Math", .code Lib.Math.min.name Lib.Math.min.code 2 (some .int)] ++ wsX00)
def wsX0_shortRingFrom : List Cond := .code yX0_shortRingFrom cX0_shortRingFrom 3 (some .int) :: ([.fieldLink RX0 41 "RopeTimes" "turnCount" "I", .fieldLink RX0 32 "RopeTimes" "reach" "[I", .constant RX0 121 (99999), .methodLink RX0 196 yX0_goOneRope, .instanceMethod yX0_goOneRope, .selects RX0 yX0_goOneRope yX0_goOneRope, .initialized RX0, .code yX0_goOneRope cX0_goOneRope 3 none, .fieldLink RX0 35 "RopeTimes" "nextReach" "[I", .fieldLink RX0 63 "RopeTimes" "ropeCount" "I", .fieldLink RX0 19 "RopeTimes" "tied" "[Z", .fieldLink RX0 9 "RopeTimes" "from" "[I", .fieldLink RX0 16 "RopeTimes" "length" "[I", .fieldLink RX0 13 "RopeTimes" "to" "[I", .methodLink RX0 122 Lib.Math.min.name, .static Lib.Math.min.name, .initialized "java/lang/Math", .code Lib.Math.min.name Lib.Math.min.code 2 (some .int)] ++ wsX00)
def wsX0_shortRingLength : List Cond := .code yX0_shortRingLength cX0_shortRingLength 4 (some .int) :: ([.fieldLink RX0 41 "RopeTimes" "turnCount" "I", .methodLink RX0 193 yX0_shortRingFrom, .instanceMethod yX0_shortRingFrom, .selects RX0 yX0_shortRingFrom yX0_shortRingFrom, .initialized RX0, .code yX0_shortRingFrom cX0_shortRingFrom 3 (some .int), .fieldLink RX0 32 "RopeTimes" "reach" "[I", .constant RX0 121 (99999), .methodLink RX0 196 yX0_goOneRope, .instanceMethod yX0_goOneRope, .selects RX0 yX0_goOneRope yX0_goOneRope, .code yX0_goOneRope cX0_goOneRope 3 none, .fieldLink RX0 35 "RopeTimes" "nextReach" "[I", .fieldLink RX0 63 "RopeTimes" "ropeCount" "I", .fieldLink RX0 19 "RopeTimes" "tied" "[Z", .fieldLink RX0 9 "RopeTimes" "from" "[I", .fieldLink RX0 16 "RopeTimes" "length" "[I", .fieldLink RX0 13 "RopeTimes" "to" "[I", .methodLink RX0 122 Lib.Math.min.name, .static Lib.Math.min.name, .initialized "java/lang/Math", .code Lib.Math.min.name Lib.Math.min.code 2 (some .int)] ++ wsX00)
def wsX0_count_r1 : List Cond := [Cond.fieldLink RX0 41 "RopeTimes" "turnCount" "I", Cond.fieldLink RX0 63 "RopeTimes" "ropeCount" "I", Cond.fieldLink RX0 94 "RopeTimes" "rounds" "I", Cond.fieldLink RX0 23 "RopeTimes" "earliest" "[I", Cond.methodLink RX0 79 yX0_checkKind, Cond.static yX0_checkKind, Cond.initialized RX0, Cond.code yX0_checkKind cX0_checkKind 2 none, Cond.classLink RX0 132 "java/lang/IndexOutOfBoundsException", Cond.initialized "java/lang/IndexOutOfBoundsException", Cond.methodLink RX0 90 yX0_tiedRopes, Cond.instanceMethod yX0_tiedRopes, Cond.selects RX0 yX0_tiedRopes yX0_tiedRopes, Cond.code yX0_tiedRopes cX0_tiedRopes 3 (some .int), Cond.fieldLink RX0 19 "RopeTimes" "tied" "[Z", Cond.methodLink RX0 71 yX0_isPossible, Cond.instanceMethod yX0_isPossible, Cond.selects RX0 yX0_isPossible yX0_isPossible, Cond.code yX0_isPossible cX0_isPossible 1 (some .boolean), Cond.methodLink RX0 97 yX0_lastOf, Cond.instanceMethod yX0_lastOf, Cond.selects RX0 yX0_lastOf yX0_lastOf, Cond.code yX0_lastOf cX0_lastOf 4 (some .int), Cond.methodLink RX0 180 Lib.Math.max.name]
def wsX0_count_r2 : List Cond := [Cond.static Lib.Math.max.name, Cond.initialized "java/lang/Math", Cond.code Lib.Math.max.name Lib.Math.max.code 2 (some .int), Cond.methodLink RX0 101 yX0_tightRopes, Cond.instanceMethod yX0_tightRopes, Cond.selects RX0 yX0_tightRopes yX0_tightRopes, Cond.code yX0_tightRopes cX0_tightRopes 3 (some .int), Cond.methodLink RX0 82 yX0_isTight, Cond.instanceMethod yX0_isTight, Cond.selects RX0 yX0_isTight yX0_isTight, Cond.code yX0_isTight cX0_isTight 2 (some .boolean), Cond.fieldLink RX0 13 "RopeTimes" "to" "[I", Cond.fieldLink RX0 9 "RopeTimes" "from" "[I", Cond.fieldLink RX0 16 "RopeTimes" "length" "[I", Cond.methodLink RX0 104 yX0_shortRingLength, Cond.instanceMethod yX0_shortRingLength, Cond.selects RX0 yX0_shortRingLength yX0_shortRingLength, Cond.code yX0_shortRingLength cX0_shortRingLength 4 (some .int), Cond.methodLink RX0 193 yX0_shortRingFrom, Cond.instanceMethod yX0_shortRingFrom, Cond.selects RX0 yX0_shortRingFrom yX0_shortRingFrom, Cond.code yX0_shortRingFrom cX0_shortRingFrom 3 (some .int), Cond.fieldLink RX0 32 "RopeTimes" "reach" "[I", Cond.constant RX0 121 (99999)]
def wsX0_count_r3 : List Cond := [Cond.methodLink RX0 196 yX0_goOneRope, Cond.instanceMethod yX0_goOneRope, Cond.selects RX0 yX0_goOneRope yX0_goOneRope, Cond.code yX0_goOneRope cX0_goOneRope 3 none, Cond.fieldLink RX0 35 "RopeTimes" "nextReach" "[I", Cond.methodLink RX0 122 Lib.Math.min.name, Cond.static Lib.Math.min.name, Cond.code Lib.Math.min.name Lib.Math.min.code 2 (some .int)]
def wsX0_count : List Cond := .code yX0_count cX0_count 2 (some .int) :: ((wsX0_count_r1 ++ (wsX0_count_r2 ++ wsX0_count_r3)) ++ wsX00 ++ (vx_atS RX0 136 "java/lang/IndexOutOfBoundsException" ["java/lang/RuntimeException", "java/lang/Exception"]).filter goodWord)
def wsX0_holds : List Cond := .code yX0_holds cX0_holds 1 (some .boolean) :: ([.methodLink RX0 71 yX0_isPossible, .instanceMethod yX0_isPossible, .selects RX0 yX0_isPossible yX0_isPossible, .initialized RX0, .code yX0_isPossible cX0_isPossible 1 (some .boolean), .fieldLink RX0 94 "RopeTimes" "rounds" "I"] ++ wsX00)
def wsX0_checkPossible : List Cond := .code yX0_checkPossible cX0_checkPossible 1 none :: ([.classLink RX0 45 "java/lang/IllegalStateException", .initialized "java/lang/IllegalStateException", .methodLink RX0 71 yX0_isPossible, .instanceMethod yX0_isPossible, .selects RX0 yX0_isPossible yX0_isPossible, .initialized RX0, .code yX0_isPossible cX0_isPossible 1 (some .boolean), .fieldLink RX0 94 "RopeTimes" "rounds" "I"] ++ wsX00 ++ (vx_atS RX0 49 "java/lang/IllegalStateException" ["java/lang/RuntimeException", "java/lang/Exception"]).filter goodWord)
def wsX0_late_r1 : List Cond := [Cond.classLink RX0 107 "java/lang/IllegalArgumentException", Cond.initialized "java/lang/IllegalArgumentException", Cond.classLink RX0 45 "java/lang/IllegalStateException", Cond.initialized "java/lang/IllegalStateException", Cond.fieldLink RX0 23 "RopeTimes" "earliest" "[I", Cond.fieldLink RX0 41 "RopeTimes" "turnCount" "I", Cond.constant RX0 121 (99999), Cond.methodLink RX0 122 Lib.Math.min.name, Cond.static Lib.Math.min.name, Cond.initialized "java/lang/Math", Cond.code Lib.Math.min.name Lib.Math.min.code 2 (some .int), Cond.methodLink RX0 52 yX0_checkTurn, Cond.instanceMethod yX0_checkTurn, Cond.selects RX0 yX0_checkTurn yX0_checkTurn, Cond.initialized RX0, Cond.code yX0_checkTurn cX0_checkTurn 2 none, Cond.classLink RX0 132 "java/lang/IndexOutOfBoundsException", Cond.initialized "java/lang/IndexOutOfBoundsException", Cond.methodLink RX0 112 yX0_checkPossible, Cond.instanceMethod yX0_checkPossible, Cond.selects RX0 yX0_checkPossible yX0_checkPossible, Cond.code yX0_checkPossible cX0_checkPossible 1 none, Cond.methodLink RX0 71 yX0_isPossible, Cond.instanceMethod yX0_isPossible]
def wsX0_late_r2 : List Cond := [Cond.selects RX0 yX0_isPossible yX0_isPossible, Cond.code yX0_isPossible cX0_isPossible 1 (some .boolean), Cond.fieldLink RX0 94 "RopeTimes" "rounds" "I", Cond.methodLink RX0 97 yX0_lastOf, Cond.instanceMethod yX0_lastOf, Cond.selects RX0 yX0_lastOf yX0_lastOf, Cond.code yX0_lastOf cX0_lastOf 4 (some .int), Cond.methodLink RX0 180 Lib.Math.max.name, Cond.static Lib.Math.max.name, Cond.code Lib.Math.max.name Lib.Math.max.code 2 (some .int), Cond.methodLink RX0 117 yX0_boundFrom, Cond.instanceMethod yX0_boundFrom, Cond.selects RX0 yX0_boundFrom yX0_boundFrom, Cond.code yX0_boundFrom cX0_boundFrom 3 (some .int), Cond.fieldLink RX0 26 "RopeTimes" "bound" "[I"]
def wsX0_late : List Cond := .code yX0_late cX0_late 6 (some .int) :: ((wsX0_late_r1 ++ wsX0_late_r2) ++ wsX00 ++ (vx_atS RX0 111 "java/lang/IllegalArgumentException" ["java/lang/RuntimeException", "java/lang/Exception"]).filter goodWord ++ (vx_atS RX0 49 "java/lang/IllegalStateException" ["java/lang/RuntimeException", "java/lang/Exception"]).filter goodWord ++ (vx_atS RX0 136 "java/lang/IndexOutOfBoundsException" ["java/lang/RuntimeException", "java/lang/Exception"]).filter goodWord)
def wsX0_most : List Cond := .code yX0_most cX0_most 3 (some .int) :: ([.methodLink RX0 52 yX0_checkTurn, .instanceMethod yX0_checkTurn, .selects RX0 yX0_checkTurn yX0_checkTurn, .initialized RX0, .code yX0_checkTurn cX0_checkTurn 2 none, .classLink RX0 132 "java/lang/IndexOutOfBoundsException", .initialized "java/lang/IndexOutOfBoundsException", .fieldLink RX0 41 "RopeTimes" "turnCount" "I", .methodLink RX0 112 yX0_checkPossible, .instanceMethod yX0_checkPossible, .selects RX0 yX0_checkPossible yX0_checkPossible, .code yX0_checkPossible cX0_checkPossible 1 none, .classLink RX0 45 "java/lang/IllegalStateException", .initialized "java/lang/IllegalStateException", .methodLink RX0 71 yX0_isPossible, .instanceMethod yX0_isPossible, .selects RX0 yX0_isPossible yX0_isPossible, .code yX0_isPossible cX0_isPossible 1 (some .boolean), .fieldLink RX0 94 "RopeTimes" "rounds" "I", .methodLink RX0 117 yX0_boundFrom, .instanceMethod yX0_boundFrom, .selects RX0 yX0_boundFrom yX0_boundFrom, .code yX0_boundFrom cX0_boundFrom 3 (some .int), .fieldLink RX0 26 "RopeTimes" "bound" "[I"] ++ wsX00 ++ (vx_atS RX0 136 "java/lang/IndexOutOfBoundsException" ["java/lang/RuntimeException", "java/lang/Exception"]).filter goodWord ++ (vx_atS RX0 49 "java/lang/IllegalStateException" ["java/lang/RuntimeException", "java/lang/Exception"]).filter goodWord)
def wsX0_room_r1 : List Cond := [Cond.classLink RX0 45 "java/lang/IllegalStateException", Cond.initialized "java/lang/IllegalStateException", Cond.fieldLink RX0 19 "RopeTimes" "tied" "[Z", Cond.fieldLink RX0 9 "RopeTimes" "from" "[I", Cond.fieldLink RX0 13 "RopeTimes" "to" "[I", Cond.methodLink RX0 68 yX0_checkRope, Cond.instanceMethod yX0_checkRope, Cond.selects RX0 yX0_checkRope yX0_checkRope, Cond.initialized RX0, Cond.code yX0_checkRope cX0_checkRope 2 none, Cond.classLink RX0 132 "java/lang/IndexOutOfBoundsException", Cond.initialized "java/lang/IndexOutOfBoundsException", Cond.fieldLink RX0 63 "RopeTimes" "ropeCount" "I", Cond.methodLink RX0 112 yX0_checkPossible, Cond.instanceMethod yX0_checkPossible, Cond.selects RX0 yX0_checkPossible yX0_checkPossible, Cond.code yX0_checkPossible cX0_checkPossible 1 none, Cond.methodLink RX0 71 yX0_isPossible, Cond.instanceMethod yX0_isPossible, Cond.selects RX0 yX0_isPossible yX0_isPossible, Cond.code yX0_isPossible cX0_isPossible 1 (some .boolean), Cond.fieldLink RX0 94 "RopeTimes" "rounds" "I", Cond.methodLink RX0 129 yX0_leastLength, Cond.instanceMethod yX0_leastLength]
def wsX0_room_r2 : List Cond := [Cond.selects RX0 yX0_leastLength yX0_leastLength, Cond.code yX0_leastLength cX0_leastLength 4 (some .int), Cond.constant RX0 121 (99999), Cond.methodLink RX0 180 Lib.Math.max.name, Cond.static Lib.Math.max.name, Cond.initialized "java/lang/Math", Cond.code Lib.Math.max.name Lib.Math.max.code 2 (some .int), Cond.methodLink RX0 117 yX0_boundFrom, Cond.instanceMethod yX0_boundFrom, Cond.selects RX0 yX0_boundFrom yX0_boundFrom, Cond.code yX0_boundFrom cX0_boundFrom 3 (some .int), Cond.fieldLink RX0 26 "RopeTimes" "bound" "[I"]
def wsX0_room : List Cond := .code yX0_room cX0_room 2 (some .int) :: ((wsX0_room_r1 ++ wsX0_room_r2) ++ wsX00 ++ (vx_atS RX0 49 "java/lang/IllegalStateException" ["java/lang/RuntimeException", "java/lang/Exception"]).filter goodWord ++ (vx_atS RX0 136 "java/lang/IndexOutOfBoundsException" ["java/lang/RuntimeException", "java/lang/Exception"]).filter goodWord)
def wsX0_would_r1 : List Cond := [Cond.methodLink RX0 52 yX0_checkTurn, Cond.instanceMethod yX0_checkTurn, Cond.selects RX0 yX0_checkTurn yX0_checkTurn, Cond.initialized RX0, Cond.code yX0_checkTurn cX0_checkTurn 2 none, Cond.classLink RX0 132 "java/lang/IndexOutOfBoundsException", Cond.initialized "java/lang/IndexOutOfBoundsException", Cond.fieldLink RX0 41 "RopeTimes" "turnCount" "I", Cond.methodLink RX0 56 yX0_checkTwoTurns, Cond.static yX0_checkTwoTurns, Cond.code yX0_checkTwoTurns cX0_checkTwoTurns 2 none, Cond.classLink RX0 107 "java/lang/IllegalArgumentException", Cond.initialized "java/lang/IllegalArgumentException", Cond.methodLink RX0 60 yX0_checkLength, Cond.static yX0_checkLength, Cond.code yX0_checkLength cX0_checkLength 1 none, Cond.methodLink RX0 71 yX0_isPossible, Cond.instanceMethod yX0_isPossible, Cond.selects RX0 yX0_isPossible yX0_isPossible, Cond.code yX0_isPossible cX0_isPossible 1 (some .boolean), Cond.fieldLink RX0 94 "RopeTimes" "rounds" "I", Cond.methodLink RX0 129 yX0_leastLength, Cond.instanceMethod yX0_leastLength, Cond.selects RX0 yX0_leastLength yX0_leastLength]
def wsX0_would_r2 : List Cond := [Cond.code yX0_leastLength cX0_leastLength 4 (some .int), Cond.constant RX0 121 (99999), Cond.methodLink RX0 180 Lib.Math.max.name, Cond.static Lib.Math.max.name, Cond.initialized "java/lang/Math", Cond.code Lib.Math.max.name Lib.Math.max.code 2 (some .int), Cond.methodLink RX0 117 yX0_boundFrom, Cond.instanceMethod yX0_boundFrom, Cond.selects RX0 yX0_boundFrom yX0_boundFrom, Cond.code yX0_boundFrom cX0_boundFrom 3 (some .int), Cond.fieldLink RX0 26 "RopeTimes" "bound" "[I"]
def wsX0_would : List Cond := .code yX0_would cX0_would 4 (some .boolean) :: ((wsX0_would_r1 ++ wsX0_would_r2) ++ wsX00 ++ (vx_atS RX0 136 "java/lang/IndexOutOfBoundsException" ["java/lang/RuntimeException", "java/lang/Exception"]).filter goodWord ++ (vx_atS RX0 111 "java/lang/IllegalArgumentException" ["java/lang/RuntimeException", "java/lang/Exception"]).filter goodWord)
def wsX0_turnsAheadOf : List Cond := .code yX0_turnsAheadOf cX0_turnsAheadOf 5 (some .int) :: ([.fieldLink RX0 41 "RopeTimes" "turnCount" "I", .fieldLink RX0 23 "RopeTimes" "earliest" "[I"] ++ wsX00)
def wsX0_at : List Cond := .code yX0_at cX0_at 3 (some .int) :: ([.classLink RX0 132 "java/lang/IndexOutOfBoundsException", .initialized "java/lang/IndexOutOfBoundsException", .fieldLink RX0 41 "RopeTimes" "turnCount" "I", .methodLink RX0 112 yX0_checkPossible, .instanceMethod yX0_checkPossible, .selects RX0 yX0_checkPossible yX0_checkPossible, .initialized RX0, .code yX0_checkPossible cX0_checkPossible 1 none, .classLink RX0 45 "java/lang/IllegalStateException", .initialized "java/lang/IllegalStateException", .methodLink RX0 71 yX0_isPossible, .instanceMethod yX0_isPossible, .selects RX0 yX0_isPossible yX0_isPossible, .code yX0_isPossible cX0_isPossible 1 (some .boolean), .fieldLink RX0 94 "RopeTimes" "rounds" "I", .methodLink RX0 137 yX0_turnsAheadOf, .instanceMethod yX0_turnsAheadOf, .selects RX0 yX0_turnsAheadOf yX0_turnsAheadOf, .code yX0_turnsAheadOf cX0_turnsAheadOf 5 (some .int), .fieldLink RX0 23 "RopeTimes" "earliest" "[I"] ++ wsX00 ++ (vx_atS RX0 136 "java/lang/IndexOutOfBoundsException" ["java/lang/RuntimeException", "java/lang/Exception"]).filter goodWord ++ (vx_atS RX0 49 "java/lang/IllegalStateException" ["java/lang/RuntimeException", "java/lang/Exception"]).filter goodWord)
def wsX0_advise_r1 : List Cond := [Cond.fieldLink RX0 23 "RopeTimes" "earliest" "[I", Cond.constant RX0 121 (99999), Cond.fieldLink RX0 63 "RopeTimes" "ropeCount" "I", Cond.fieldLink RX0 19 "RopeTimes" "tied" "[Z", Cond.fieldLink RX0 29 "RopeTimes" "trial" "[I", Cond.methodLink RX0 71 yX0_isPossible, Cond.instanceMethod yX0_isPossible, Cond.selects RX0 yX0_isPossible yX0_isPossible, Cond.initialized RX0, Cond.code yX0_isPossible cX0_isPossible 1 (some .boolean), Cond.fieldLink RX0 94 "RopeTimes" "rounds" "I", Cond.methodLink RX0 97 yX0_lastOf, Cond.instanceMethod yX0_lastOf, Cond.selects RX0 yX0_lastOf yX0_lastOf, Cond.code yX0_lastOf cX0_lastOf 4 (some .int), Cond.fieldLink RX0 41 "RopeTimes" "turnCount" "I", Cond.methodLink RX0 180 Lib.Math.max.name, Cond.static Lib.Math.max.name, Cond.initialized "java/lang/Math", Cond.code Lib.Math.max.name Lib.Math.max.code 2 (some .int), Cond.methodLink RX0 140 yX0_findEarliest, Cond.instanceMethod yX0_findEarliest, Cond.selects RX0 yX0_findEarliest yX0_findEarliest, Cond.code yX0_findEarliest cX0_findEarliest 4 (some .int)]
def wsX0_advise_r2 : List Cond := [Cond.methodLink RX0 176 yX0_pushOnce, Cond.instanceMethod yX0_pushOnce, Cond.selects RX0 yX0_pushOnce yX0_pushOnce, Cond.code yX0_pushOnce cX0_pushOnce 6 (some .boolean), Cond.fieldLink RX0 13 "RopeTimes" "to" "[I", Cond.fieldLink RX0 16 "RopeTimes" "length" "[I", Cond.fieldLink RX0 9 "RopeTimes" "from" "[I"]
def wsX0_advise : List Cond := .code yX0_advise cX0_advise 5 (some .int) :: ((wsX0_advise_r1 ++ wsX0_advise_r2) ++ wsX00)
def wsX0_mean : List Cond := .code yX0_mean cX0_mean 3 (some .double) :: ([.fieldLink RX0 41 "RopeTimes" "turnCount" "I", .fieldLink RX0 23 "RopeTimes" "earliest" "[I", .methodLink RX0 71 yX0_isPossible, .instanceMethod yX0_isPossible, .selects RX0 yX0_isPossible yX0_isPossible, .initialized RX0, .code yX0_isPossible cX0_isPossible 1 (some .boolean), .fieldLink RX0 94 "RopeTimes" "rounds" "I"] ++ wsX00)
def wsX0_digestBounds : List Cond := .code yX0_digestBounds cX0_digestBounds 7 (some .long) :: ([.fieldLink RX0 41 "RopeTimes" "turnCount" "I", .constantLong RX0 146 (31), .methodLink RX0 117 yX0_boundFrom, .instanceMethod yX0_boundFrom, .selects RX0 yX0_boundFrom yX0_boundFrom, .initialized RX0, .code yX0_boundFrom cX0_boundFrom 3 (some .int), .fieldLink RX0 26 "RopeTimes" "bound" "[I"] ++ wsX00)
def wsX0_digest_r1 : List Cond := [Cond.constantLong RX0 144 (1553), Cond.constantLong RX0 146 (31), Cond.fieldLink RX0 41 "RopeTimes" "turnCount" "I", Cond.fieldLink RX0 63 "RopeTimes" "ropeCount" "I", Cond.methodLink RX0 148 yX0_count, Cond.instanceMethod yX0_count, Cond.selects RX0 yX0_count yX0_count, Cond.initialized RX0, Cond.code yX0_count cX0_count 2 (some .int), Cond.fieldLink RX0 94 "RopeTimes" "rounds" "I", Cond.fieldLink RX0 23 "RopeTimes" "earliest" "[I", Cond.methodLink RX0 79 yX0_checkKind, Cond.static yX0_checkKind, Cond.code yX0_checkKind cX0_checkKind 2 none, Cond.classLink RX0 132 "java/lang/IndexOutOfBoundsException", Cond.initialized "java/lang/IndexOutOfBoundsException", Cond.methodLink RX0 90 yX0_tiedRopes, Cond.instanceMethod yX0_tiedRopes, Cond.selects RX0 yX0_tiedRopes yX0_tiedRopes, Cond.code yX0_tiedRopes cX0_tiedRopes 3 (some .int), Cond.fieldLink RX0 19 "RopeTimes" "tied" "[Z", Cond.methodLink RX0 71 yX0_isPossible, Cond.instanceMethod yX0_isPossible, Cond.selects RX0 yX0_isPossible yX0_isPossible]
def wsX0_digest_r2 : List Cond := [Cond.code yX0_isPossible cX0_isPossible 1 (some .boolean), Cond.methodLink RX0 97 yX0_lastOf, Cond.instanceMethod yX0_lastOf, Cond.selects RX0 yX0_lastOf yX0_lastOf, Cond.code yX0_lastOf cX0_lastOf 4 (some .int), Cond.methodLink RX0 180 Lib.Math.max.name, Cond.static Lib.Math.max.name, Cond.initialized "java/lang/Math", Cond.code Lib.Math.max.name Lib.Math.max.code 2 (some .int), Cond.methodLink RX0 101 yX0_tightRopes, Cond.instanceMethod yX0_tightRopes, Cond.selects RX0 yX0_tightRopes yX0_tightRopes, Cond.code yX0_tightRopes cX0_tightRopes 3 (some .int), Cond.methodLink RX0 82 yX0_isTight, Cond.instanceMethod yX0_isTight, Cond.selects RX0 yX0_isTight yX0_isTight, Cond.code yX0_isTight cX0_isTight 2 (some .boolean), Cond.fieldLink RX0 13 "RopeTimes" "to" "[I", Cond.fieldLink RX0 9 "RopeTimes" "from" "[I", Cond.fieldLink RX0 16 "RopeTimes" "length" "[I", Cond.methodLink RX0 104 yX0_shortRingLength, Cond.instanceMethod yX0_shortRingLength, Cond.selects RX0 yX0_shortRingLength yX0_shortRingLength, Cond.code yX0_shortRingLength cX0_shortRingLength 4 (some .int)]
def wsX0_digest_r3 : List Cond := [Cond.methodLink RX0 193 yX0_shortRingFrom, Cond.instanceMethod yX0_shortRingFrom, Cond.selects RX0 yX0_shortRingFrom yX0_shortRingFrom, Cond.code yX0_shortRingFrom cX0_shortRingFrom 3 (some .int), Cond.fieldLink RX0 32 "RopeTimes" "reach" "[I", Cond.constant RX0 121 (99999), Cond.methodLink RX0 196 yX0_goOneRope, Cond.instanceMethod yX0_goOneRope, Cond.selects RX0 yX0_goOneRope yX0_goOneRope, Cond.code yX0_goOneRope cX0_goOneRope 3 none, Cond.fieldLink RX0 35 "RopeTimes" "nextReach" "[I", Cond.methodLink RX0 122 Lib.Math.min.name, Cond.static Lib.Math.min.name, Cond.code Lib.Math.min.name Lib.Math.min.code 2 (some .int), Cond.methodLink RX0 151 yX0_about, Cond.instanceMethod yX0_about, Cond.selects RX0 yX0_about yX0_about, Cond.code yX0_about cX0_about 3 (some .int), Cond.methodLink RX0 52 yX0_checkTurn, Cond.instanceMethod yX0_checkTurn, Cond.selects RX0 yX0_checkTurn yX0_checkTurn, Cond.code yX0_checkTurn cX0_checkTurn 2 none, Cond.methodLink RX0 86 yX0_tiedEndsAt, Cond.instanceMethod yX0_tiedEndsAt]
def wsX0_digest_r4 : List Cond := [Cond.selects RX0 yX0_tiedEndsAt yX0_tiedEndsAt, Cond.code yX0_tiedEndsAt cX0_tiedEndsAt 5 (some .int), Cond.methodLink RX0 154 yX0_told, Cond.instanceMethod yX0_told, Cond.selects RX0 yX0_told yX0_told, Cond.code yX0_told cX0_told 3 (some .int), Cond.methodLink RX0 68 yX0_checkRope, Cond.instanceMethod yX0_checkRope, Cond.selects RX0 yX0_checkRope yX0_checkRope, Cond.code yX0_checkRope cX0_checkRope 2 none, Cond.methodLink RX0 157 yX0_digestBounds, Cond.instanceMethod yX0_digestBounds, Cond.selects RX0 yX0_digestBounds yX0_digestBounds, Cond.code yX0_digestBounds cX0_digestBounds 7 (some .long), Cond.methodLink RX0 117 yX0_boundFrom, Cond.instanceMethod yX0_boundFrom, Cond.selects RX0 yX0_boundFrom yX0_boundFrom, Cond.code yX0_boundFrom cX0_boundFrom 3 (some .int), Cond.fieldLink RX0 26 "RopeTimes" "bound" "[I"]
def wsX0_digest : List Cond := .code yX0_digest cX0_digest 5 (some .long) :: ((wsX0_digest_r1 ++ (wsX0_digest_r2 ++ (wsX0_digest_r3 ++ wsX0_digest_r4))) ++ wsX00 ++ (vx_atS RX0 136 "java/lang/IndexOutOfBoundsException" ["java/lang/RuntimeException", "java/lang/Exception"]).filter goodWord)
def wsX1_init : List Cond := .code yX1_init cX1_init 1 none :: ([.methodLink RX1 1 objectInit, .instanceMethod objectInit, .code objectInit ⟨#[0xb1]⟩ 1 none, .arrayClass .int, .fieldLink RX1 9 "RopeTimesModel" "rows" "[I"] ++ wsX10)
def wsX1_thrown : List Cond := .code yX1_thrown cX1_thrown 1 (some .int) :: ([.fieldLink RX1 13 "RopeTimesModel" "thrown" "I"] ++ wsX10)
def wsX1_fail : List Cond := .code yX1_fail cX1_fail 2 (some .int) :: ([.fieldLink RX1 13 "RopeTimesModel" "thrown" "I"] ++ wsX10)
def wsX1_isIn : List Cond := .code yX1_isIn cX1_isIn 3 (some .boolean) :: ([])
def wsX1_isTurn : List Cond := .code yX1_isTurn cX1_isTurn 2 (some .boolean) :: ([.fieldLink RX1 17 "RopeTimesModel" "turns" "I", .methodLink RX1 20 yX1_isIn, .static yX1_isIn, .initialized RX1, .code yX1_isIn cX1_isIn 3 (some .boolean)] ++ wsX10)
def wsX1_isRope : List Cond := .code yX1_isRope cX1_isRope 2 (some .boolean) :: ([.fieldLink RX1 24 "RopeTimesModel" "ropes" "I", .methodLink RX1 20 yX1_isIn, .static yX1_isIn, .initialized RX1, .code yX1_isIn cX1_isIn 3 (some .boolean)] ++ wsX10)
def wsX1_isLong : List Cond := .code yX1_isLong cX1_isLong 1 (some .boolean) :: ([.methodLink RX1 20 yX1_isIn, .static yX1_isIn, .initialized RX1, .code yX1_isIn cX1_isIn 3 (some .boolean)])
def wsX1_ro : List Cond := .code yX1_ro cX1_ro 3 (some .int) :: ([.fieldLink RX1 9 "RopeTimesModel" "rows" "[I"] ++ wsX10)
def wsX1_isTied : List Cond := .code yX1_isTied cX1_isTied 2 (some .boolean) :: ([.methodLink RX1 27 yX1_ro, .instanceMethod yX1_ro, .selects RX1 yX1_ro yX1_ro, .initialized RX1, .code yX1_ro cX1_ro 3 (some .int), .fieldLink RX1 9 "RopeTimesModel" "rows" "[I"] ++ wsX10)
def wsX1_earliest : List Cond := .code yX1_earliest cX1_earliest 6 (some (.array .int)) :: ([.arrayClass .int, .fieldLink RX1 17 "RopeTimesModel" "turns" "I", .fieldLink RX1 24 "RopeTimesModel" "ropes" "I", .methodLink RX1 27 yX1_ro, .instanceMethod yX1_ro, .selects RX1 yX1_ro yX1_ro, .initialized RX1, .code yX1_ro cX1_ro 3 (some .int), .fieldLink RX1 9 "RopeTimesModel" "rows" "[I", .methodLink RX1 31 yX1_isTied, .instanceMethod yX1_isTied, .selects RX1 yX1_isTied yX1_isTied, .code yX1_isTied cX1_isTied 2 (some .boolean)] ++ wsX10)
def wsX1_isFound : List Cond := .code yX1_isFound cX1_isFound 2 (some .boolean) :: ([])
def wsX1_isHeld : List Cond := .code yX1_isHeld cX1_isHeld 1 (some .boolean) :: ([.methodLink RX1 35 yX1_earliest, .instanceMethod yX1_earliest, .selects RX1 yX1_earliest yX1_earliest, .initialized RX1, .code yX1_earliest cX1_earliest 6 (some (.array .int)), .arrayClass .int, .fieldLink RX1 17 "RopeTimesModel" "turns" "I", .fieldLink RX1 24 "RopeTimesModel" "ropes" "I", .methodLink RX1 27 yX1_ro, .instanceMethod yX1_ro, .selects RX1 yX1_ro yX1_ro, .code yX1_ro cX1_ro 3 (some .int), .fieldLink RX1 9 "RopeTimesModel" "rows" "[I", .methodLink RX1 31 yX1_isTied, .instanceMethod yX1_isTied, .selects RX1 yX1_isTied yX1_isTied, .code yX1_isTied cX1_isTied 2 (some .boolean), .methodLink RX1 39 yX1_isFound, .instanceMethod yX1_isFound, .selects RX1 yX1_isFound yX1_isFound, .code yX1_isFound cX1_isFound 2 (some .boolean)] ++ wsX10)
def wsX1_last : List Cond := .code yX1_last cX1_last 4 (some .int) :: ([.fieldLink RX1 17 "RopeTimesModel" "turns" "I", .methodLink RX1 43 Lib.Math.max.name, .static Lib.Math.max.name, .initialized "java/lang/Math", .code Lib.Math.max.name Lib.Math.max.code 2 (some .int)] ++ wsX10)
def wsX1_ways : List Cond := .code yX1_ways cX1_ways 5 (some (.array (.array .int))) :: ([.classLink RX1 48 "[[I", .arrayClass .int, .constant RX1 50 (99999), .fieldLink RX1 24 "RopeTimesModel" "ropes" "I", .methodLink RX1 51 Lib.Math.min.name, .static Lib.Math.min.name, .initialized "java/lang/Math", .code Lib.Math.min.name Lib.Math.min.code 2 (some .int), .fieldLink RX1 17 "RopeTimesModel" "turns" "I", .methodLink RX1 31 yX1_isTied, .instanceMethod yX1_isTied, .selects RX1 yX1_isTied yX1_isTied, .initialized RX1, .code yX1_isTied cX1_isTied 2 (some .boolean), .methodLink RX1 27 yX1_ro, .instanceMethod yX1_ro, .selects RX1 yX1_ro yX1_ro, .code yX1_ro cX1_ro 3 (some .int), .fieldLink RX1 9 "RopeTimesModel" "rows" "[I"] ++ wsX10)
def wsX1_ring : List Cond := .code yX1_ring cX1_ring 7 (some .int) :: ([.fieldLink RX1 17 "RopeTimesModel" "turns" "I", .arrayClass .int, .constant RX1 50 (99999), .fieldLink RX1 24 "RopeTimesModel" "ropes" "I", .methodLink RX1 51 Lib.Math.min.name, .static Lib.Math.min.name, .initialized "java/lang/Math", .code Lib.Math.min.name Lib.Math.min.code 2 (some .int), .methodLink RX1 31 yX1_isTied, .instanceMethod yX1_isTied, .selects RX1 yX1_isTied yX1_isTied, .initialized RX1, .code yX1_isTied cX1_isTied 2 (some .boolean), .methodLink RX1 27 yX1_ro, .instanceMethod yX1_ro, .selects RX1 yX1_ro yX1_ro, .code yX1_ro cX1_ro 3 (some .int), .fieldLink RX1 9 "RopeTimesModel" "rows" "[I"] ++ wsX10)
def wsX1_isTight : List Cond := .code yX1_isTight cX1_isTight 3 (some .boolean) :: ([.methodLink RX1 31 yX1_isTied, .instanceMethod yX1_isTied, .selects RX1 yX1_isTied yX1_isTied, .initialized RX1, .code yX1_isTied cX1_isTied 2 (some .boolean), .methodLink RX1 27 yX1_ro, .instanceMethod yX1_ro, .selects RX1 yX1_ro yX1_ro, .code yX1_ro cX1_ro 3 (some .int), .fieldLink RX1 9 "RopeTimesModel" "rows" "[I", .methodLink RX1 39 yX1_isFound, .instanceMethod yX1_isFound, .selects RX1 yX1_isFound yX1_isFound, .code yX1_isFound cX1_isFound 2 (some .boolean)] ++ wsX10)
def wsX1_shortest_r1 : List Cond := [Cond.constant RX1 50 (99999), Cond.methodLink RX1 43 Lib.Math.max.name, Cond.static Lib.Math.max.name, Cond.initialized "java/lang/Math", Cond.code Lib.Math.max.name Lib.Math.max.code 2 (some .int), Cond.methodLink RX1 54 yX1_ways, Cond.instanceMethod yX1_ways, Cond.selects RX1 yX1_ways yX1_ways, Cond.initialized RX1, Cond.code yX1_ways cX1_ways 5 (some (.array (.array .int))), Cond.classLink RX1 48 "[[I", Cond.arrayClass .int, Cond.fieldLink RX1 24 "RopeTimesModel" "ropes" "I", Cond.methodLink RX1 51 Lib.Math.min.name, Cond.static Lib.Math.min.name, Cond.code Lib.Math.min.name Lib.Math.min.code 2 (some .int), Cond.fieldLink RX1 17 "RopeTimesModel" "turns" "I", Cond.methodLink RX1 31 yX1_isTied, Cond.instanceMethod yX1_isTied, Cond.selects RX1 yX1_isTied yX1_isTied, Cond.code yX1_isTied cX1_isTied 2 (some .boolean), Cond.methodLink RX1 27 yX1_ro, Cond.instanceMethod yX1_ro, Cond.selects RX1 yX1_ro yX1_ro]
def wsX1_shortest_r2 : List Cond := [Cond.code yX1_ro cX1_ro 3 (some .int), Cond.fieldLink RX1 9 "RopeTimesModel" "rows" "[I"]
def wsX1_shortest : List Cond := .code yX1_shortest cX1_shortest 3 (some .int) :: ((wsX1_shortest_r1 ++ wsX1_shortest_r2) ++ wsX10)
def wsX1_turn : List Cond := .code yX1_turn cX1_turn 1 (some .int) :: ([.fieldLink RX1 13 "RopeTimesModel" "thrown" "I", .fieldLink RX1 17 "RopeTimesModel" "turns" "I", .methodLink RX1 58 yX1_fail, .instanceMethod yX1_fail, .selects RX1 yX1_fail yX1_fail, .initialized RX1, .code yX1_fail cX1_fail 2 (some .int)] ++ wsX10)
def wsX1_tie : List Cond := .code yX1_tie cX1_tie 5 (some .int) :: ([.fieldLink RX1 13 "RopeTimesModel" "thrown" "I", .fieldLink RX1 24 "RopeTimesModel" "ropes" "I", .arrayClass .int, .fieldLink RX1 9 "RopeTimesModel" "rows" "[I", .methodLink RX1 68 arraycopyName, .native arraycopyName, .static arraycopyName, .initialized "java/lang/System", .methodLink RX1 62 yX1_isTurn, .instanceMethod yX1_isTurn, .selects RX1 yX1_isTurn yX1_isTurn, .initialized RX1, .code yX1_isTurn cX1_isTurn 2 (some .boolean), .fieldLink RX1 17 "RopeTimesModel" "turns" "I", .methodLink RX1 20 yX1_isIn, .static yX1_isIn, .code yX1_isIn cX1_isIn 3 (some .boolean), .methodLink RX1 58 yX1_fail, .instanceMethod yX1_fail, .selects RX1 yX1_fail yX1_fail, .code yX1_fail cX1_fail 2 (some .int), .methodLink RX1 65 yX1_isLong, .static yX1_isLong, .code yX1_isLong cX1_isLong 1 (some .boolean)] ++ wsX10)
def wsX1_cut : List Cond := .code yX1_cut cX1_cut 4 (some .int) :: ([.fieldLink RX1 13 "RopeTimesModel" "thrown" "I", .fieldLink RX1 9 "RopeTimesModel" "rows" "[I", .methodLink RX1 74 yX1_isRope, .instanceMethod yX1_isRope, .selects RX1 yX1_isRope yX1_isRope, .initialized RX1, .code yX1_isRope cX1_isRope 2 (some .boolean), .fieldLink RX1 24 "RopeTimesModel" "ropes" "I", .methodLink RX1 20 yX1_isIn, .static yX1_isIn, .code yX1_isIn cX1_isIn 3 (some .boolean), .methodLink RX1 58 yX1_fail, .instanceMethod yX1_fail, .selects RX1 yX1_fail yX1_fail, .code yX1_fail cX1_fail 2 (some .int), .methodLink RX1 65 yX1_isLong, .static yX1_isLong, .code yX1_isLong cX1_isLong 1 (some .boolean), .methodLink RX1 27 yX1_ro, .instanceMethod yX1_ro, .selects RX1 yX1_ro yX1_ro, .code yX1_ro cX1_ro 3 (some .int)] ++ wsX10)
def wsX1_knot : List Cond := .code yX1_knot cX1_knot 2 (some .boolean) :: ([.fieldLink RX1 13 "RopeTimesModel" "thrown" "I", .fieldLink RX1 9 "RopeTimesModel" "rows" "[I", .methodLink RX1 74 yX1_isRope, .instanceMethod yX1_isRope, .selects RX1 yX1_isRope yX1_isRope, .initialized RX1, .code yX1_isRope cX1_isRope 2 (some .boolean), .fieldLink RX1 24 "RopeTimesModel" "ropes" "I", .methodLink RX1 20 yX1_isIn, .static yX1_isIn, .code yX1_isIn cX1_isIn 3 (some .boolean), .methodLink RX1 27 yX1_ro, .instanceMethod yX1_ro, .selects RX1 yX1_ro yX1_ro, .code yX1_ro cX1_ro 3 (some .int), .methodLink RX1 31 yX1_isTied, .instanceMethod yX1_isTied, .selects RX1 yX1_isTied yX1_isTied, .code yX1_isTied cX1_isTied 2 (some .boolean)] ++ wsX10)
def wsX1_tighten_r1 : List Cond := [Cond.fieldLink RX1 13 "RopeTimesModel" "thrown" "I", Cond.fieldLink RX1 24 "RopeTimesModel" "ropes" "I", Cond.fieldLink RX1 9 "RopeTimesModel" "rows" "[I", Cond.methodLink RX1 77 yX1_isHeld, Cond.instanceMethod yX1_isHeld, Cond.selects RX1 yX1_isHeld yX1_isHeld, Cond.initialized RX1, Cond.code yX1_isHeld cX1_isHeld 1 (some .boolean), Cond.methodLink RX1 35 yX1_earliest, Cond.instanceMethod yX1_earliest, Cond.selects RX1 yX1_earliest yX1_earliest, Cond.code yX1_earliest cX1_earliest 6 (some (.array .int)), Cond.arrayClass .int, Cond.fieldLink RX1 17 "RopeTimesModel" "turns" "I", Cond.methodLink RX1 27 yX1_ro, Cond.instanceMethod yX1_ro, Cond.selects RX1 yX1_ro yX1_ro, Cond.code yX1_ro cX1_ro 3 (some .int), Cond.methodLink RX1 31 yX1_isTied, Cond.instanceMethod yX1_isTied, Cond.selects RX1 yX1_isTied yX1_isTied, Cond.code yX1_isTied cX1_isTied 2 (some .boolean), Cond.methodLink RX1 39 yX1_isFound, Cond.instanceMethod yX1_isFound]
def wsX1_tighten_r2 : List Cond := [Cond.selects RX1 yX1_isFound yX1_isFound, Cond.code yX1_isFound cX1_isFound 2 (some .boolean), Cond.methodLink RX1 81 yX1_shortest, Cond.instanceMethod yX1_shortest, Cond.selects RX1 yX1_shortest yX1_shortest, Cond.code yX1_shortest cX1_shortest 3 (some .int), Cond.constant RX1 50 (99999), Cond.methodLink RX1 43 Lib.Math.max.name, Cond.static Lib.Math.max.name, Cond.initialized "java/lang/Math", Cond.code Lib.Math.max.name Lib.Math.max.code 2 (some .int), Cond.methodLink RX1 54 yX1_ways, Cond.instanceMethod yX1_ways, Cond.selects RX1 yX1_ways yX1_ways, Cond.code yX1_ways cX1_ways 5 (some (.array (.array .int))), Cond.classLink RX1 48 "[[I", Cond.methodLink RX1 51 Lib.Math.min.name, Cond.static Lib.Math.min.name, Cond.code Lib.Math.min.name Lib.Math.min.code 2 (some .int)]
def wsX1_tighten : List Cond := .code yX1_tighten cX1_tighten 4 (some .int) :: ((wsX1_tighten_r1 ++ wsX1_tighten_r2) ++ wsX10)
def wsX1_ropeTold : List Cond := .code yX1_ropeTold cX1_ropeTold 4 (some .int) :: ([.methodLink RX1 27 yX1_ro, .instanceMethod yX1_ro, .selects RX1 yX1_ro yX1_ro, .initialized RX1, .code yX1_ro cX1_ro 3 (some .int), .fieldLink RX1 9 "RopeTimesModel" "rows" "[I", .methodLink RX1 84 yX1_isTight, .instanceMethod yX1_isTight, .selects RX1 yX1_isTight yX1_isTight, .code yX1_isTight cX1_isTight 3 (some .boolean), .methodLink RX1 31 yX1_isTied, .instanceMethod yX1_isTied, .selects RX1 yX1_isTied yX1_isTied, .code yX1_isTied cX1_isTied 2 (some .boolean), .methodLink RX1 39 yX1_isFound, .instanceMethod yX1_isFound, .selects RX1 yX1_isFound yX1_isFound, .code yX1_isFound cX1_isFound 2 (some .boolean)] ++ wsX10)
def wsX1_told_r1 : List Cond := [Cond.fieldLink RX1 13 "RopeTimesModel" "thrown" "I", Cond.methodLink RX1 74 yX1_isRope, Cond.instanceMethod yX1_isRope, Cond.selects RX1 yX1_isRope yX1_isRope, Cond.initialized RX1, Cond.code yX1_isRope cX1_isRope 2 (some .boolean), Cond.fieldLink RX1 24 "RopeTimesModel" "ropes" "I", Cond.methodLink RX1 20 yX1_isIn, Cond.static yX1_isIn, Cond.code yX1_isIn cX1_isIn 3 (some .boolean), Cond.methodLink RX1 35 yX1_earliest, Cond.instanceMethod yX1_earliest, Cond.selects RX1 yX1_earliest yX1_earliest, Cond.code yX1_earliest cX1_earliest 6 (some (.array .int)), Cond.arrayClass .int, Cond.fieldLink RX1 17 "RopeTimesModel" "turns" "I", Cond.methodLink RX1 27 yX1_ro, Cond.instanceMethod yX1_ro, Cond.selects RX1 yX1_ro yX1_ro, Cond.code yX1_ro cX1_ro 3 (some .int), Cond.fieldLink RX1 9 "RopeTimesModel" "rows" "[I", Cond.methodLink RX1 31 yX1_isTied, Cond.instanceMethod yX1_isTied, Cond.selects RX1 yX1_isTied yX1_isTied]
def wsX1_told_r2 : List Cond := [Cond.code yX1_isTied cX1_isTied 2 (some .boolean), Cond.methodLink RX1 88 yX1_ropeTold, Cond.instanceMethod yX1_ropeTold, Cond.selects RX1 yX1_ropeTold yX1_ropeTold, Cond.code yX1_ropeTold cX1_ropeTold 4 (some .int), Cond.methodLink RX1 84 yX1_isTight, Cond.instanceMethod yX1_isTight, Cond.selects RX1 yX1_isTight yX1_isTight, Cond.code yX1_isTight cX1_isTight 3 (some .boolean), Cond.methodLink RX1 39 yX1_isFound, Cond.instanceMethod yX1_isFound, Cond.selects RX1 yX1_isFound yX1_isFound, Cond.code yX1_isFound cX1_isFound 2 (some .boolean), Cond.methodLink RX1 58 yX1_fail, Cond.instanceMethod yX1_fail, Cond.selects RX1 yX1_fail yX1_fail, Cond.code yX1_fail cX1_fail 2 (some .int)]
def wsX1_told : List Cond := .code yX1_told cX1_told 3 (some .int) :: ((wsX1_told_r1 ++ wsX1_told_r2) ++ wsX10)
def wsX1_turnTold : List Cond := .code yX1_turnTold cX1_turnTold 6 (some .int) :: ([.fieldLink RX1 24 "RopeTimesModel" "ropes" "I", .methodLink RX1 39 yX1_isFound, .instanceMethod yX1_isFound, .selects RX1 yX1_isFound yX1_isFound, .initialized RX1, .code yX1_isFound cX1_isFound 2 (some .boolean), .methodLink RX1 31 yX1_isTied, .instanceMethod yX1_isTied, .selects RX1 yX1_isTied yX1_isTied, .code yX1_isTied cX1_isTied 2 (some .boolean), .methodLink RX1 27 yX1_ro, .instanceMethod yX1_ro, .selects RX1 yX1_ro yX1_ro, .code yX1_ro cX1_ro 3 (some .int), .fieldLink RX1 9 "RopeTimesModel" "rows" "[I"] ++ wsX10)
def wsX1_about_r1 : List Cond := [Cond.fieldLink RX1 13 "RopeTimesModel" "thrown" "I", Cond.methodLink RX1 62 yX1_isTurn, Cond.instanceMethod yX1_isTurn, Cond.selects RX1 yX1_isTurn yX1_isTurn, Cond.initialized RX1, Cond.code yX1_isTurn cX1_isTurn 2 (some .boolean), Cond.fieldLink RX1 17 "RopeTimesModel" "turns" "I", Cond.methodLink RX1 20 yX1_isIn, Cond.static yX1_isIn, Cond.code yX1_isIn cX1_isIn 3 (some .boolean), Cond.methodLink RX1 35 yX1_earliest, Cond.instanceMethod yX1_earliest, Cond.selects RX1 yX1_earliest yX1_earliest, Cond.code yX1_earliest cX1_earliest 6 (some (.array .int)), Cond.arrayClass .int, Cond.fieldLink RX1 24 "RopeTimesModel" "ropes" "I", Cond.methodLink RX1 27 yX1_ro, Cond.instanceMethod yX1_ro, Cond.selects RX1 yX1_ro yX1_ro, Cond.code yX1_ro cX1_ro 3 (some .int), Cond.fieldLink RX1 9 "RopeTimesModel" "rows" "[I", Cond.methodLink RX1 31 yX1_isTied, Cond.instanceMethod yX1_isTied, Cond.selects RX1 yX1_isTied yX1_isTied]
def wsX1_about_r2 : List Cond := [Cond.code yX1_isTied cX1_isTied 2 (some .boolean), Cond.methodLink RX1 92 yX1_turnTold, Cond.instanceMethod yX1_turnTold, Cond.selects RX1 yX1_turnTold yX1_turnTold, Cond.code yX1_turnTold cX1_turnTold 6 (some .int), Cond.methodLink RX1 39 yX1_isFound, Cond.instanceMethod yX1_isFound, Cond.selects RX1 yX1_isFound yX1_isFound, Cond.code yX1_isFound cX1_isFound 2 (some .boolean), Cond.methodLink RX1 58 yX1_fail, Cond.instanceMethod yX1_fail, Cond.selects RX1 yX1_fail yX1_fail, Cond.code yX1_fail cX1_fail 2 (some .int)]
def wsX1_about : List Cond := .code yX1_about cX1_about 3 (some .int) :: ((wsX1_about_r1 ++ wsX1_about_r2) ++ wsX10)
def wsX1_counted_r1 : List Cond := [Cond.fieldLink RX1 17 "RopeTimesModel" "turns" "I", Cond.fieldLink RX1 24 "RopeTimesModel" "ropes" "I", Cond.methodLink RX1 27 yX1_ro, Cond.instanceMethod yX1_ro, Cond.selects RX1 yX1_ro yX1_ro, Cond.initialized RX1, Cond.code yX1_ro cX1_ro 3 (some .int), Cond.fieldLink RX1 9 "RopeTimesModel" "rows" "[I", Cond.methodLink RX1 39 yX1_isFound, Cond.instanceMethod yX1_isFound, Cond.selects RX1 yX1_isFound yX1_isFound, Cond.code yX1_isFound cX1_isFound 2 (some .boolean), Cond.methodLink RX1 95 yX1_last, Cond.instanceMethod yX1_last, Cond.selects RX1 yX1_last yX1_last, Cond.code yX1_last cX1_last 4 (some .int), Cond.methodLink RX1 43 Lib.Math.max.name, Cond.static Lib.Math.max.name, Cond.initialized "java/lang/Math", Cond.code Lib.Math.max.name Lib.Math.max.code 2 (some .int), Cond.methodLink RX1 84 yX1_isTight, Cond.instanceMethod yX1_isTight, Cond.selects RX1 yX1_isTight yX1_isTight, Cond.code yX1_isTight cX1_isTight 3 (some .boolean)]
def wsX1_counted_r2 : List Cond := [Cond.methodLink RX1 31 yX1_isTied, Cond.instanceMethod yX1_isTied, Cond.selects RX1 yX1_isTied yX1_isTied, Cond.code yX1_isTied cX1_isTied 2 (some .boolean), Cond.methodLink RX1 99 yX1_ring, Cond.instanceMethod yX1_ring, Cond.selects RX1 yX1_ring yX1_ring, Cond.code yX1_ring cX1_ring 7 (some .int), Cond.arrayClass .int, Cond.constant RX1 50 (99999), Cond.methodLink RX1 51 Lib.Math.min.name, Cond.static Lib.Math.min.name, Cond.code Lib.Math.min.name Lib.Math.min.code 2 (some .int)]
def wsX1_counted : List Cond := .code yX1_counted cX1_counted 5 (some .int) :: ((wsX1_counted_r1 ++ wsX1_counted_r2) ++ wsX10)
def wsX1_count_r1 : List Cond := [Cond.fieldLink RX1 13 "RopeTimesModel" "thrown" "I", Cond.methodLink RX1 20 yX1_isIn, Cond.static yX1_isIn, Cond.initialized RX1, Cond.code yX1_isIn cX1_isIn 3 (some .boolean), Cond.methodLink RX1 35 yX1_earliest, Cond.instanceMethod yX1_earliest, Cond.selects RX1 yX1_earliest yX1_earliest, Cond.code yX1_earliest cX1_earliest 6 (some (.array .int)), Cond.arrayClass .int, Cond.fieldLink RX1 17 "RopeTimesModel" "turns" "I", Cond.fieldLink RX1 24 "RopeTimesModel" "ropes" "I", Cond.methodLink RX1 27 yX1_ro, Cond.instanceMethod yX1_ro, Cond.selects RX1 yX1_ro yX1_ro, Cond.code yX1_ro cX1_ro 3 (some .int), Cond.fieldLink RX1 9 "RopeTimesModel" "rows" "[I", Cond.methodLink RX1 31 yX1_isTied, Cond.instanceMethod yX1_isTied, Cond.selects RX1 yX1_isTied yX1_isTied, Cond.code yX1_isTied cX1_isTied 2 (some .boolean), Cond.methodLink RX1 103 yX1_counted, Cond.instanceMethod yX1_counted, Cond.selects RX1 yX1_counted yX1_counted]
def wsX1_count_r2 : List Cond := [Cond.code yX1_counted cX1_counted 5 (some .int), Cond.methodLink RX1 39 yX1_isFound, Cond.instanceMethod yX1_isFound, Cond.selects RX1 yX1_isFound yX1_isFound, Cond.code yX1_isFound cX1_isFound 2 (some .boolean), Cond.methodLink RX1 95 yX1_last, Cond.instanceMethod yX1_last, Cond.selects RX1 yX1_last yX1_last, Cond.code yX1_last cX1_last 4 (some .int), Cond.methodLink RX1 43 Lib.Math.max.name, Cond.static Lib.Math.max.name, Cond.initialized "java/lang/Math", Cond.code Lib.Math.max.name Lib.Math.max.code 2 (some .int), Cond.methodLink RX1 84 yX1_isTight, Cond.instanceMethod yX1_isTight, Cond.selects RX1 yX1_isTight yX1_isTight, Cond.code yX1_isTight cX1_isTight 3 (some .boolean), Cond.methodLink RX1 99 yX1_ring, Cond.instanceMethod yX1_ring, Cond.selects RX1 yX1_ring yX1_ring, Cond.code yX1_ring cX1_ring 7 (some .int), Cond.constant RX1 50 (99999), Cond.methodLink RX1 51 Lib.Math.min.name, Cond.static Lib.Math.min.name]
def wsX1_count_r3 : List Cond := [Cond.code Lib.Math.min.name Lib.Math.min.code 2 (some .int), Cond.methodLink RX1 58 yX1_fail, Cond.instanceMethod yX1_fail, Cond.selects RX1 yX1_fail yX1_fail, Cond.code yX1_fail cX1_fail 2 (some .int)]
def wsX1_count : List Cond := .code yX1_count cX1_count 2 (some .int) :: ((wsX1_count_r1 ++ (wsX1_count_r2 ++ wsX1_count_r3)) ++ wsX10)
def wsX1_holds_r1 : List Cond := [Cond.fieldLink RX1 13 "RopeTimesModel" "thrown" "I", Cond.methodLink RX1 77 yX1_isHeld, Cond.instanceMethod yX1_isHeld, Cond.selects RX1 yX1_isHeld yX1_isHeld, Cond.initialized RX1, Cond.code yX1_isHeld cX1_isHeld 1 (some .boolean), Cond.methodLink RX1 35 yX1_earliest, Cond.instanceMethod yX1_earliest, Cond.selects RX1 yX1_earliest yX1_earliest, Cond.code yX1_earliest cX1_earliest 6 (some (.array .int)), Cond.arrayClass .int, Cond.fieldLink RX1 17 "RopeTimesModel" "turns" "I", Cond.fieldLink RX1 24 "RopeTimesModel" "ropes" "I", Cond.methodLink RX1 27 yX1_ro, Cond.instanceMethod yX1_ro, Cond.selects RX1 yX1_ro yX1_ro, Cond.code yX1_ro cX1_ro 3 (some .int), Cond.fieldLink RX1 9 "RopeTimesModel" "rows" "[I", Cond.methodLink RX1 31 yX1_isTied, Cond.instanceMethod yX1_isTied, Cond.selects RX1 yX1_isTied yX1_isTied, Cond.code yX1_isTied cX1_isTied 2 (some .boolean), Cond.methodLink RX1 39 yX1_isFound, Cond.instanceMethod yX1_isFound]
def wsX1_holds_r2 : List Cond := [Cond.selects RX1 yX1_isFound yX1_isFound, Cond.code yX1_isFound cX1_isFound 2 (some .boolean)]
def wsX1_holds : List Cond := .code yX1_holds cX1_holds 1 (some .boolean) :: ((wsX1_holds_r1 ++ wsX1_holds_r2) ++ wsX10)
def wsX1_late_r1 : List Cond := [Cond.fieldLink RX1 13 "RopeTimesModel" "thrown" "I", Cond.fieldLink RX1 17 "RopeTimesModel" "turns" "I", Cond.methodLink RX1 51 Lib.Math.min.name, Cond.static Lib.Math.min.name, Cond.initialized "java/lang/Math", Cond.code Lib.Math.min.name Lib.Math.min.code 2 (some .int), Cond.methodLink RX1 62 yX1_isTurn, Cond.instanceMethod yX1_isTurn, Cond.selects RX1 yX1_isTurn yX1_isTurn, Cond.initialized RX1, Cond.code yX1_isTurn cX1_isTurn 2 (some .boolean), Cond.methodLink RX1 20 yX1_isIn, Cond.static yX1_isIn, Cond.code yX1_isIn cX1_isIn 3 (some .boolean), Cond.methodLink RX1 58 yX1_fail, Cond.instanceMethod yX1_fail, Cond.selects RX1 yX1_fail yX1_fail, Cond.code yX1_fail cX1_fail 2 (some .int), Cond.methodLink RX1 35 yX1_earliest, Cond.instanceMethod yX1_earliest, Cond.selects RX1 yX1_earliest yX1_earliest, Cond.code yX1_earliest cX1_earliest 6 (some (.array .int)), Cond.arrayClass .int, Cond.fieldLink RX1 24 "RopeTimesModel" "ropes" "I"]
def wsX1_late_r2 : List Cond := [Cond.methodLink RX1 27 yX1_ro, Cond.instanceMethod yX1_ro, Cond.selects RX1 yX1_ro yX1_ro, Cond.code yX1_ro cX1_ro 3 (some .int), Cond.fieldLink RX1 9 "RopeTimesModel" "rows" "[I", Cond.methodLink RX1 31 yX1_isTied, Cond.instanceMethod yX1_isTied, Cond.selects RX1 yX1_isTied yX1_isTied, Cond.code yX1_isTied cX1_isTied 2 (some .boolean), Cond.methodLink RX1 39 yX1_isFound, Cond.instanceMethod yX1_isFound, Cond.selects RX1 yX1_isFound yX1_isFound, Cond.code yX1_isFound cX1_isFound 2 (some .boolean), Cond.methodLink RX1 95 yX1_last, Cond.instanceMethod yX1_last, Cond.selects RX1 yX1_last yX1_last, Cond.code yX1_last cX1_last 4 (some .int), Cond.methodLink RX1 43 Lib.Math.max.name, Cond.static Lib.Math.max.name, Cond.code Lib.Math.max.name Lib.Math.max.code 2 (some .int), Cond.methodLink RX1 54 yX1_ways, Cond.instanceMethod yX1_ways, Cond.selects RX1 yX1_ways yX1_ways, Cond.code yX1_ways cX1_ways 5 (some (.array (.array .int)))]
def wsX1_late_r3 : List Cond := [Cond.classLink RX1 48 "[[I", Cond.constant RX1 50 (99999)]
def wsX1_late : List Cond := .code yX1_late cX1_late 7 (some .int) :: ((wsX1_late_r1 ++ (wsX1_late_r2 ++ wsX1_late_r3)) ++ wsX10)
def wsX1_most_r1 : List Cond := [Cond.fieldLink RX1 13 "RopeTimesModel" "thrown" "I", Cond.methodLink RX1 62 yX1_isTurn, Cond.instanceMethod yX1_isTurn, Cond.selects RX1 yX1_isTurn yX1_isTurn, Cond.initialized RX1, Cond.code yX1_isTurn cX1_isTurn 2 (some .boolean), Cond.fieldLink RX1 17 "RopeTimesModel" "turns" "I", Cond.methodLink RX1 20 yX1_isIn, Cond.static yX1_isIn, Cond.code yX1_isIn cX1_isIn 3 (some .boolean), Cond.methodLink RX1 58 yX1_fail, Cond.instanceMethod yX1_fail, Cond.selects RX1 yX1_fail yX1_fail, Cond.code yX1_fail cX1_fail 2 (some .int), Cond.methodLink RX1 77 yX1_isHeld, Cond.instanceMethod yX1_isHeld, Cond.selects RX1 yX1_isHeld yX1_isHeld, Cond.code yX1_isHeld cX1_isHeld 1 (some .boolean), Cond.methodLink RX1 35 yX1_earliest, Cond.instanceMethod yX1_earliest, Cond.selects RX1 yX1_earliest yX1_earliest, Cond.code yX1_earliest cX1_earliest 6 (some (.array .int)), Cond.arrayClass .int, Cond.fieldLink RX1 24 "RopeTimesModel" "ropes" "I"]
def wsX1_most_r2 : List Cond := [Cond.methodLink RX1 27 yX1_ro, Cond.instanceMethod yX1_ro, Cond.selects RX1 yX1_ro yX1_ro, Cond.code yX1_ro cX1_ro 3 (some .int), Cond.fieldLink RX1 9 "RopeTimesModel" "rows" "[I", Cond.methodLink RX1 31 yX1_isTied, Cond.instanceMethod yX1_isTied, Cond.selects RX1 yX1_isTied yX1_isTied, Cond.code yX1_isTied cX1_isTied 2 (some .boolean), Cond.methodLink RX1 39 yX1_isFound, Cond.instanceMethod yX1_isFound, Cond.selects RX1 yX1_isFound yX1_isFound, Cond.code yX1_isFound cX1_isFound 2 (some .boolean), Cond.methodLink RX1 54 yX1_ways, Cond.instanceMethod yX1_ways, Cond.selects RX1 yX1_ways yX1_ways, Cond.code yX1_ways cX1_ways 5 (some (.array (.array .int))), Cond.classLink RX1 48 "[[I", Cond.constant RX1 50 (99999), Cond.methodLink RX1 51 Lib.Math.min.name, Cond.static Lib.Math.min.name, Cond.initialized "java/lang/Math", Cond.code Lib.Math.min.name Lib.Math.min.code 2 (some .int)]
def wsX1_most : List Cond := .code yX1_most cX1_most 3 (some .int) :: ((wsX1_most_r1 ++ wsX1_most_r2) ++ wsX10)
def wsX1_room_r1 : List Cond := [Cond.fieldLink RX1 13 "RopeTimesModel" "thrown" "I", Cond.methodLink RX1 74 yX1_isRope, Cond.instanceMethod yX1_isRope, Cond.selects RX1 yX1_isRope yX1_isRope, Cond.initialized RX1, Cond.code yX1_isRope cX1_isRope 2 (some .boolean), Cond.fieldLink RX1 24 "RopeTimesModel" "ropes" "I", Cond.methodLink RX1 20 yX1_isIn, Cond.static yX1_isIn, Cond.code yX1_isIn cX1_isIn 3 (some .boolean), Cond.methodLink RX1 58 yX1_fail, Cond.instanceMethod yX1_fail, Cond.selects RX1 yX1_fail yX1_fail, Cond.code yX1_fail cX1_fail 2 (some .int), Cond.methodLink RX1 31 yX1_isTied, Cond.instanceMethod yX1_isTied, Cond.selects RX1 yX1_isTied yX1_isTied, Cond.code yX1_isTied cX1_isTied 2 (some .boolean), Cond.methodLink RX1 27 yX1_ro, Cond.instanceMethod yX1_ro, Cond.selects RX1 yX1_ro yX1_ro, Cond.code yX1_ro cX1_ro 3 (some .int), Cond.fieldLink RX1 9 "RopeTimesModel" "rows" "[I", Cond.methodLink RX1 77 yX1_isHeld]
def wsX1_room_r2 : List Cond := [Cond.instanceMethod yX1_isHeld, Cond.selects RX1 yX1_isHeld yX1_isHeld, Cond.code yX1_isHeld cX1_isHeld 1 (some .boolean), Cond.methodLink RX1 35 yX1_earliest, Cond.instanceMethod yX1_earliest, Cond.selects RX1 yX1_earliest yX1_earliest, Cond.code yX1_earliest cX1_earliest 6 (some (.array .int)), Cond.arrayClass .int, Cond.fieldLink RX1 17 "RopeTimesModel" "turns" "I", Cond.methodLink RX1 39 yX1_isFound, Cond.instanceMethod yX1_isFound, Cond.selects RX1 yX1_isFound yX1_isFound, Cond.code yX1_isFound cX1_isFound 2 (some .boolean), Cond.methodLink RX1 81 yX1_shortest, Cond.instanceMethod yX1_shortest, Cond.selects RX1 yX1_shortest yX1_shortest, Cond.code yX1_shortest cX1_shortest 3 (some .int), Cond.constant RX1 50 (99999), Cond.methodLink RX1 43 Lib.Math.max.name, Cond.static Lib.Math.max.name, Cond.initialized "java/lang/Math", Cond.code Lib.Math.max.name Lib.Math.max.code 2 (some .int), Cond.methodLink RX1 54 yX1_ways, Cond.instanceMethod yX1_ways]
def wsX1_room_r3 : List Cond := [Cond.selects RX1 yX1_ways yX1_ways, Cond.code yX1_ways cX1_ways 5 (some (.array (.array .int))), Cond.classLink RX1 48 "[[I", Cond.methodLink RX1 51 Lib.Math.min.name, Cond.static Lib.Math.min.name, Cond.code Lib.Math.min.name Lib.Math.min.code 2 (some .int)]
def wsX1_room : List Cond := .code yX1_room cX1_room 2 (some .int) :: ((wsX1_room_r1 ++ (wsX1_room_r2 ++ wsX1_room_r3)) ++ wsX10)
def wsX1_would_r1 : List Cond := [Cond.fieldLink RX1 13 "RopeTimesModel" "thrown" "I", Cond.constant RX1 50 (99999), Cond.methodLink RX1 62 yX1_isTurn, Cond.instanceMethod yX1_isTurn, Cond.selects RX1 yX1_isTurn yX1_isTurn, Cond.initialized RX1, Cond.code yX1_isTurn cX1_isTurn 2 (some .boolean), Cond.fieldLink RX1 17 "RopeTimesModel" "turns" "I", Cond.methodLink RX1 20 yX1_isIn, Cond.static yX1_isIn, Cond.code yX1_isIn cX1_isIn 3 (some .boolean), Cond.methodLink RX1 65 yX1_isLong, Cond.static yX1_isLong, Cond.code yX1_isLong cX1_isLong 1 (some .boolean), Cond.methodLink RX1 77 yX1_isHeld, Cond.instanceMethod yX1_isHeld, Cond.selects RX1 yX1_isHeld yX1_isHeld, Cond.code yX1_isHeld cX1_isHeld 1 (some .boolean), Cond.methodLink RX1 35 yX1_earliest, Cond.instanceMethod yX1_earliest, Cond.selects RX1 yX1_earliest yX1_earliest, Cond.code yX1_earliest cX1_earliest 6 (some (.array .int)), Cond.arrayClass .int, Cond.fieldLink RX1 24 "RopeTimesModel" "ropes" "I"]
def wsX1_would_r2 : List Cond := [Cond.methodLink RX1 27 yX1_ro, Cond.instanceMethod yX1_ro, Cond.selects RX1 yX1_ro yX1_ro, Cond.code yX1_ro cX1_ro 3 (some .int), Cond.fieldLink RX1 9 "RopeTimesModel" "rows" "[I", Cond.methodLink RX1 31 yX1_isTied, Cond.instanceMethod yX1_isTied, Cond.selects RX1 yX1_isTied yX1_isTied, Cond.code yX1_isTied cX1_isTied 2 (some .boolean), Cond.methodLink RX1 39 yX1_isFound, Cond.instanceMethod yX1_isFound, Cond.selects RX1 yX1_isFound yX1_isFound, Cond.code yX1_isFound cX1_isFound 2 (some .boolean), Cond.methodLink RX1 54 yX1_ways, Cond.instanceMethod yX1_ways, Cond.selects RX1 yX1_ways yX1_ways, Cond.code yX1_ways cX1_ways 5 (some (.array (.array .int))), Cond.classLink RX1 48 "[[I", Cond.methodLink RX1 51 Lib.Math.min.name, Cond.static Lib.Math.min.name, Cond.initialized "java/lang/Math", Cond.code Lib.Math.min.name Lib.Math.min.code 2 (some .int)]
def wsX1_would : List Cond := .code yX1_would cX1_would 5 (some .boolean) :: ((wsX1_would_r1 ++ wsX1_would_r2) ++ wsX10)
def wsX1_at_r1 : List Cond := [Cond.fieldLink RX1 13 "RopeTimesModel" "thrown" "I", Cond.fieldLink RX1 17 "RopeTimesModel" "turns" "I", Cond.methodLink RX1 62 yX1_isTurn, Cond.instanceMethod yX1_isTurn, Cond.selects RX1 yX1_isTurn yX1_isTurn, Cond.initialized RX1, Cond.code yX1_isTurn cX1_isTurn 2 (some .boolean), Cond.methodLink RX1 20 yX1_isIn, Cond.static yX1_isIn, Cond.code yX1_isIn cX1_isIn 3 (some .boolean), Cond.methodLink RX1 58 yX1_fail, Cond.instanceMethod yX1_fail, Cond.selects RX1 yX1_fail yX1_fail, Cond.code yX1_fail cX1_fail 2 (some .int), Cond.methodLink RX1 35 yX1_earliest, Cond.instanceMethod yX1_earliest, Cond.selects RX1 yX1_earliest yX1_earliest, Cond.code yX1_earliest cX1_earliest 6 (some (.array .int)), Cond.arrayClass .int, Cond.fieldLink RX1 24 "RopeTimesModel" "ropes" "I", Cond.methodLink RX1 27 yX1_ro, Cond.instanceMethod yX1_ro, Cond.selects RX1 yX1_ro yX1_ro, Cond.code yX1_ro cX1_ro 3 (some .int)]
def wsX1_at_r2 : List Cond := [Cond.fieldLink RX1 9 "RopeTimesModel" "rows" "[I", Cond.methodLink RX1 31 yX1_isTied, Cond.instanceMethod yX1_isTied, Cond.selects RX1 yX1_isTied yX1_isTied, Cond.code yX1_isTied cX1_isTied 2 (some .boolean), Cond.methodLink RX1 39 yX1_isFound, Cond.instanceMethod yX1_isFound, Cond.selects RX1 yX1_isFound yX1_isFound, Cond.code yX1_isFound cX1_isFound 2 (some .boolean)]
def wsX1_at : List Cond := .code yX1_at cX1_at 6 (some .int) :: ((wsX1_at_r1 ++ wsX1_at_r2) ++ wsX10)
def wsX1_advise_r1 : List Cond := [Cond.fieldLink RX1 13 "RopeTimesModel" "thrown" "I", Cond.constant RX1 109 (2147483647), Cond.fieldLink RX1 24 "RopeTimesModel" "ropes" "I", Cond.fieldLink RX1 9 "RopeTimesModel" "rows" "[I", Cond.methodLink RX1 35 yX1_earliest, Cond.instanceMethod yX1_earliest, Cond.selects RX1 yX1_earliest yX1_earliest, Cond.initialized RX1, Cond.code yX1_earliest cX1_earliest 6 (some (.array .int)), Cond.arrayClass .int, Cond.fieldLink RX1 17 "RopeTimesModel" "turns" "I", Cond.methodLink RX1 27 yX1_ro, Cond.instanceMethod yX1_ro, Cond.selects RX1 yX1_ro yX1_ro, Cond.code yX1_ro cX1_ro 3 (some .int), Cond.methodLink RX1 31 yX1_isTied, Cond.instanceMethod yX1_isTied, Cond.selects RX1 yX1_isTied yX1_isTied, Cond.code yX1_isTied cX1_isTied 2 (some .boolean), Cond.methodLink RX1 39 yX1_isFound, Cond.instanceMethod yX1_isFound, Cond.selects RX1 yX1_isFound yX1_isFound, Cond.code yX1_isFound cX1_isFound 2 (some .boolean), Cond.methodLink RX1 95 yX1_last]
def wsX1_advise_r2 : List Cond := [Cond.instanceMethod yX1_last, Cond.selects RX1 yX1_last yX1_last, Cond.code yX1_last cX1_last 4 (some .int), Cond.methodLink RX1 43 Lib.Math.max.name, Cond.static Lib.Math.max.name, Cond.initialized "java/lang/Math", Cond.code Lib.Math.max.name Lib.Math.max.code 2 (some .int)]
def wsX1_advise : List Cond := .code yX1_advise cX1_advise 6 (some .int) :: ((wsX1_advise_r1 ++ wsX1_advise_r2) ++ wsX10)
def wsX1_mean : List Cond := .code yX1_mean cX1_mean 4 (some .double) :: ([.fieldLink RX1 13 "RopeTimesModel" "thrown" "I", .fieldLink RX1 17 "RopeTimesModel" "turns" "I", .methodLink RX1 35 yX1_earliest, .instanceMethod yX1_earliest, .selects RX1 yX1_earliest yX1_earliest, .initialized RX1, .code yX1_earliest cX1_earliest 6 (some (.array .int)), .arrayClass .int, .fieldLink RX1 24 "RopeTimesModel" "ropes" "I", .methodLink RX1 27 yX1_ro, .instanceMethod yX1_ro, .selects RX1 yX1_ro yX1_ro, .code yX1_ro cX1_ro 3 (some .int), .fieldLink RX1 9 "RopeTimesModel" "rows" "[I", .methodLink RX1 31 yX1_isTied, .instanceMethod yX1_isTied, .selects RX1 yX1_isTied yX1_isTied, .code yX1_isTied cX1_isTied 2 (some .boolean), .methodLink RX1 39 yX1_isFound, .instanceMethod yX1_isFound, .selects RX1 yX1_isFound yX1_isFound, .code yX1_isFound cX1_isFound 2 (some .boolean)] ++ wsX10)
def wsX1_digest_r1 : List Cond := [Cond.fieldLink RX1 13 "RopeTimesModel" "thrown" "I", Cond.constantLong RX1 110 (1553), Cond.constantLong RX1 112 (31), Cond.fieldLink RX1 17 "RopeTimesModel" "turns" "I", Cond.fieldLink RX1 24 "RopeTimesModel" "ropes" "I", Cond.methodLink RX1 35 yX1_earliest, Cond.instanceMethod yX1_earliest, Cond.selects RX1 yX1_earliest yX1_earliest, Cond.initialized RX1, Cond.code yX1_earliest cX1_earliest 6 (some (.array .int)), Cond.arrayClass .int, Cond.methodLink RX1 27 yX1_ro, Cond.instanceMethod yX1_ro, Cond.selects RX1 yX1_ro yX1_ro, Cond.code yX1_ro cX1_ro 3 (some .int), Cond.fieldLink RX1 9 "RopeTimesModel" "rows" "[I", Cond.methodLink RX1 31 yX1_isTied, Cond.instanceMethod yX1_isTied, Cond.selects RX1 yX1_isTied yX1_isTied, Cond.code yX1_isTied cX1_isTied 2 (some .boolean), Cond.methodLink RX1 103 yX1_counted, Cond.instanceMethod yX1_counted, Cond.selects RX1 yX1_counted yX1_counted, Cond.code yX1_counted cX1_counted 5 (some .int)]
def wsX1_digest_r2 : List Cond := [Cond.methodLink RX1 39 yX1_isFound, Cond.instanceMethod yX1_isFound, Cond.selects RX1 yX1_isFound yX1_isFound, Cond.code yX1_isFound cX1_isFound 2 (some .boolean), Cond.methodLink RX1 95 yX1_last, Cond.instanceMethod yX1_last, Cond.selects RX1 yX1_last yX1_last, Cond.code yX1_last cX1_last 4 (some .int), Cond.methodLink RX1 43 Lib.Math.max.name, Cond.static Lib.Math.max.name, Cond.initialized "java/lang/Math", Cond.code Lib.Math.max.name Lib.Math.max.code 2 (some .int), Cond.methodLink RX1 84 yX1_isTight, Cond.instanceMethod yX1_isTight, Cond.selects RX1 yX1_isTight yX1_isTight, Cond.code yX1_isTight cX1_isTight 3 (some .boolean), Cond.methodLink RX1 99 yX1_ring, Cond.instanceMethod yX1_ring, Cond.selects RX1 yX1_ring yX1_ring, Cond.code yX1_ring cX1_ring 7 (some .int), Cond.constant RX1 50 (99999), Cond.methodLink RX1 51 Lib.Math.min.name, Cond.static Lib.Math.min.name, Cond.code Lib.Math.min.name Lib.Math.min.code 2 (some .int)]
def wsX1_digest_r3 : List Cond := [Cond.methodLink RX1 92 yX1_turnTold, Cond.instanceMethod yX1_turnTold, Cond.selects RX1 yX1_turnTold yX1_turnTold, Cond.code yX1_turnTold cX1_turnTold 6 (some .int), Cond.methodLink RX1 88 yX1_ropeTold, Cond.instanceMethod yX1_ropeTold, Cond.selects RX1 yX1_ropeTold yX1_ropeTold, Cond.code yX1_ropeTold cX1_ropeTold 4 (some .int), Cond.methodLink RX1 54 yX1_ways, Cond.instanceMethod yX1_ways, Cond.selects RX1 yX1_ways yX1_ways, Cond.code yX1_ways cX1_ways 5 (some (.array (.array .int))), Cond.classLink RX1 48 "[[I"]
def wsX1_digest : List Cond := .code yX1_digest cX1_digest 7 (some .long) :: ((wsX1_digest_r1 ++ (wsX1_digest_r2 ++ wsX1_digest_r3)) ++ wsX10)
def wsJ9_max_7cf53 : List Cond := .code yJ9_max_7cf53 cJ9_max_7cf53 2 (some .int) :: ([])
def wsJ9_min_7cf53 : List Cond := .code yJ9_min_7cf53 cJ9_min_7cf53 2 (some .int) :: ([])
def wsL_turn_r1 : List Cond := [Cond.classLink RL 13 "java/lang/IllegalStateException", Cond.methodLink RL 7 yX0_turn, Cond.instanceMethod yX0_turn, Cond.selects RX0 yX0_turn yX0_turn, Cond.initialized RX0, Cond.code yX0_turn cX0_turn 2 (some .int), Cond.classLink RX0 45 "java/lang/IllegalStateException", Cond.initialized "java/lang/IllegalStateException", Cond.fieldLink RX0 41 "RopeTimes" "turnCount" "I", Cond.methodLink RX0 38 yX0_settle, Cond.instanceMethod yX0_settle, Cond.selects RX0 yX0_settle yX0_settle, Cond.code yX0_settle cX0_settle 1 none, Cond.fieldLink RX0 23 "RopeTimes" "earliest" "[I", Cond.fieldLink RX0 94 "RopeTimes" "rounds" "I", Cond.methodLink RX0 140 yX0_findEarliest, Cond.instanceMethod yX0_findEarliest, Cond.selects RX0 yX0_findEarliest yX0_findEarliest, Cond.code yX0_findEarliest cX0_findEarliest 4 (some .int), Cond.methodLink RX0 176 yX0_pushOnce, Cond.instanceMethod yX0_pushOnce, Cond.selects RX0 yX0_pushOnce yX0_pushOnce, Cond.code yX0_pushOnce cX0_pushOnce 6 (some .boolean), Cond.fieldLink RX0 63 "RopeTimes" "ropeCount" "I"]
def wsL_turn_r2 : List Cond := [Cond.fieldLink RX0 19 "RopeTimes" "tied" "[Z", Cond.fieldLink RX0 13 "RopeTimes" "to" "[I", Cond.fieldLink RX0 16 "RopeTimes" "length" "[I", Cond.fieldLink RX0 9 "RopeTimes" "from" "[I", Cond.methodLink RX0 71 yX0_isPossible, Cond.instanceMethod yX0_isPossible, Cond.selects RX0 yX0_isPossible yX0_isPossible, Cond.code yX0_isPossible cX0_isPossible 1 (some .boolean), Cond.methodLink RX0 173 yX0_findBounds, Cond.instanceMethod yX0_findBounds, Cond.selects RX0 yX0_findBounds yX0_findBounds, Cond.code yX0_findBounds cX0_findBounds 3 none, Cond.constant RX0 121 (99999), Cond.methodLink RX0 183 yX0_startBounds, Cond.instanceMethod yX0_startBounds, Cond.selects RX0 yX0_startBounds yX0_startBounds, Cond.code yX0_startBounds cX0_startBounds 3 none, Cond.fieldLink RX0 26 "RopeTimes" "bound" "[I", Cond.methodLink RX0 189 yX0_shortenBound, Cond.instanceMethod yX0_shortenBound, Cond.selects RX0 yX0_shortenBound yX0_shortenBound, Cond.code yX0_shortenBound cX0_shortenBound 5 none, Cond.methodLink RX0 122 Lib.Math.min.name, Cond.static Lib.Math.min.name]
def wsL_turn_r3 : List Cond := [Cond.initialized "java/lang/Math", Cond.code Lib.Math.min.name Lib.Math.min.code 2 (some .int), Cond.methodLink RX0 117 yX0_boundFrom, Cond.instanceMethod yX0_boundFrom, Cond.selects RX0 yX0_boundFrom yX0_boundFrom, Cond.code yX0_boundFrom cX0_boundFrom 3 (some .int), Cond.methodLink RX0 186 yX0_goOnOver, Cond.instanceMethod yX0_goOnOver, Cond.selects RX0 yX0_goOnOver yX0_goOnOver, Cond.code yX0_goOnOver cX0_goOnOver 6 none]
def wsL_turn : List Cond := .codeWith yL_turn cL_turn 3 (some .int) [(0, 8, 11, 13)] :: ((wsL_turn_r1 ++ (wsL_turn_r2 ++ wsL_turn_r3)) ++ wsX00 ++ (vx_atS RX0 49 "java/lang/IllegalStateException" ["java/lang/RuntimeException", "java/lang/Exception"]).filter goodWord)
def wsL_tie_r1 : List Cond := [Cond.classLink RL 19 "java/lang/IndexOutOfBoundsException", Cond.classLink RL 21 "java/lang/IllegalArgumentException", Cond.classLink RL 13 "java/lang/IllegalStateException", Cond.methodLink RL 15 yX0_tie, Cond.instanceMethod yX0_tie, Cond.selects RX0 yX0_tie yX0_tie, Cond.initialized RX0, Cond.code yX0_tie cX0_tie 5 (some .int), Cond.classLink RX0 45 "java/lang/IllegalStateException", Cond.initialized "java/lang/IllegalStateException", Cond.fieldLink RX0 63 "RopeTimes" "ropeCount" "I", Cond.fieldLink RX0 9 "RopeTimes" "from" "[I", Cond.fieldLink RX0 13 "RopeTimes" "to" "[I", Cond.fieldLink RX0 16 "RopeTimes" "length" "[I", Cond.fieldLink RX0 19 "RopeTimes" "tied" "[Z", Cond.methodLink RX0 52 yX0_checkTurn, Cond.instanceMethod yX0_checkTurn, Cond.selects RX0 yX0_checkTurn yX0_checkTurn, Cond.code yX0_checkTurn cX0_checkTurn 2 none, Cond.classLink RX0 132 "java/lang/IndexOutOfBoundsException", Cond.initialized "java/lang/IndexOutOfBoundsException", Cond.fieldLink RX0 41 "RopeTimes" "turnCount" "I", Cond.methodLink RX0 56 yX0_checkTwoTurns, Cond.static yX0_checkTwoTurns]
def wsL_tie_r2 : List Cond := [Cond.code yX0_checkTwoTurns cX0_checkTwoTurns 2 none, Cond.classLink RX0 107 "java/lang/IllegalArgumentException", Cond.initialized "java/lang/IllegalArgumentException", Cond.methodLink RX0 60 yX0_checkLength, Cond.static yX0_checkLength, Cond.code yX0_checkLength cX0_checkLength 1 none, Cond.methodLink RX0 38 yX0_settle, Cond.instanceMethod yX0_settle, Cond.selects RX0 yX0_settle yX0_settle, Cond.code yX0_settle cX0_settle 1 none, Cond.fieldLink RX0 23 "RopeTimes" "earliest" "[I", Cond.fieldLink RX0 94 "RopeTimes" "rounds" "I", Cond.methodLink RX0 140 yX0_findEarliest, Cond.instanceMethod yX0_findEarliest, Cond.selects RX0 yX0_findEarliest yX0_findEarliest, Cond.code yX0_findEarliest cX0_findEarliest 4 (some .int), Cond.methodLink RX0 176 yX0_pushOnce, Cond.instanceMethod yX0_pushOnce, Cond.selects RX0 yX0_pushOnce yX0_pushOnce, Cond.code yX0_pushOnce cX0_pushOnce 6 (some .boolean), Cond.methodLink RX0 71 yX0_isPossible, Cond.instanceMethod yX0_isPossible, Cond.selects RX0 yX0_isPossible yX0_isPossible, Cond.code yX0_isPossible cX0_isPossible 1 (some .boolean)]
def wsL_tie_r3 : List Cond := [Cond.methodLink RX0 173 yX0_findBounds, Cond.instanceMethod yX0_findBounds, Cond.selects RX0 yX0_findBounds yX0_findBounds, Cond.code yX0_findBounds cX0_findBounds 3 none, Cond.constant RX0 121 (99999), Cond.methodLink RX0 183 yX0_startBounds, Cond.instanceMethod yX0_startBounds, Cond.selects RX0 yX0_startBounds yX0_startBounds, Cond.code yX0_startBounds cX0_startBounds 3 none, Cond.fieldLink RX0 26 "RopeTimes" "bound" "[I", Cond.methodLink RX0 189 yX0_shortenBound, Cond.instanceMethod yX0_shortenBound, Cond.selects RX0 yX0_shortenBound yX0_shortenBound, Cond.code yX0_shortenBound cX0_shortenBound 5 none, Cond.methodLink RX0 122 Lib.Math.min.name, Cond.static Lib.Math.min.name, Cond.initialized "java/lang/Math", Cond.code Lib.Math.min.name Lib.Math.min.code 2 (some .int), Cond.methodLink RX0 117 yX0_boundFrom, Cond.instanceMethod yX0_boundFrom, Cond.selects RX0 yX0_boundFrom yX0_boundFrom, Cond.code yX0_boundFrom cX0_boundFrom 3 (some .int), Cond.methodLink RX0 186 yX0_goOnOver, Cond.instanceMethod yX0_goOnOver]
def wsL_tie_r4 : List Cond := [Cond.selects RX0 yX0_goOnOver yX0_goOnOver, Cond.code yX0_goOnOver cX0_goOnOver 6 none]
def wsL_tie : List Cond := .codeWith yL_tie cL_tie 6 (some .int) [(0, 12, 15, 19), (0, 12, 19, 21), (0, 12, 23, 13)] :: ((wsL_tie_r1 ++ (wsL_tie_r2 ++ (wsL_tie_r3 ++ wsL_tie_r4))) ++ wsX00 ++ (vx_atS RX0 49 "java/lang/IllegalStateException" ["java/lang/RuntimeException", "java/lang/Exception"]).filter goodWord ++ (vx_atS RX0 136 "java/lang/IndexOutOfBoundsException" ["java/lang/RuntimeException", "java/lang/Exception"]).filter goodWord ++ (vx_atS RX0 111 "java/lang/IllegalArgumentException" ["java/lang/RuntimeException", "java/lang/Exception"]).filter goodWord)
def wsL_cut_r1 : List Cond := [Cond.classLink RL 19 "java/lang/IndexOutOfBoundsException", Cond.classLink RL 21 "java/lang/IllegalArgumentException", Cond.methodLink RL 23 yX0_cut, Cond.instanceMethod yX0_cut, Cond.selects RX0 yX0_cut yX0_cut, Cond.initialized RX0, Cond.code yX0_cut cX0_cut 4 (some .int), Cond.fieldLink RX0 16 "RopeTimes" "length" "[I", Cond.methodLink RX0 68 yX0_checkRope, Cond.instanceMethod yX0_checkRope, Cond.selects RX0 yX0_checkRope yX0_checkRope, Cond.code yX0_checkRope cX0_checkRope 2 none, Cond.classLink RX0 132 "java/lang/IndexOutOfBoundsException", Cond.initialized "java/lang/IndexOutOfBoundsException", Cond.fieldLink RX0 63 "RopeTimes" "ropeCount" "I", Cond.methodLink RX0 60 yX0_checkLength, Cond.static yX0_checkLength, Cond.code yX0_checkLength cX0_checkLength 1 none, Cond.classLink RX0 107 "java/lang/IllegalArgumentException", Cond.initialized "java/lang/IllegalArgumentException", Cond.methodLink RX0 38 yX0_settle, Cond.instanceMethod yX0_settle, Cond.selects RX0 yX0_settle yX0_settle, Cond.code yX0_settle cX0_settle 1 none]
def wsL_cut_r2 : List Cond := [Cond.fieldLink RX0 23 "RopeTimes" "earliest" "[I", Cond.fieldLink RX0 94 "RopeTimes" "rounds" "I", Cond.methodLink RX0 140 yX0_findEarliest, Cond.instanceMethod yX0_findEarliest, Cond.selects RX0 yX0_findEarliest yX0_findEarliest, Cond.code yX0_findEarliest cX0_findEarliest 4 (some .int), Cond.fieldLink RX0 41 "RopeTimes" "turnCount" "I", Cond.methodLink RX0 176 yX0_pushOnce, Cond.instanceMethod yX0_pushOnce, Cond.selects RX0 yX0_pushOnce yX0_pushOnce, Cond.code yX0_pushOnce cX0_pushOnce 6 (some .boolean), Cond.fieldLink RX0 19 "RopeTimes" "tied" "[Z", Cond.fieldLink RX0 13 "RopeTimes" "to" "[I", Cond.fieldLink RX0 9 "RopeTimes" "from" "[I", Cond.methodLink RX0 71 yX0_isPossible, Cond.instanceMethod yX0_isPossible, Cond.selects RX0 yX0_isPossible yX0_isPossible, Cond.code yX0_isPossible cX0_isPossible 1 (some .boolean), Cond.methodLink RX0 173 yX0_findBounds, Cond.instanceMethod yX0_findBounds, Cond.selects RX0 yX0_findBounds yX0_findBounds, Cond.code yX0_findBounds cX0_findBounds 3 none, Cond.constant RX0 121 (99999), Cond.methodLink RX0 183 yX0_startBounds]
def wsL_cut_r3 : List Cond := [Cond.instanceMethod yX0_startBounds, Cond.selects RX0 yX0_startBounds yX0_startBounds, Cond.code yX0_startBounds cX0_startBounds 3 none, Cond.fieldLink RX0 26 "RopeTimes" "bound" "[I", Cond.methodLink RX0 189 yX0_shortenBound, Cond.instanceMethod yX0_shortenBound, Cond.selects RX0 yX0_shortenBound yX0_shortenBound, Cond.code yX0_shortenBound cX0_shortenBound 5 none, Cond.methodLink RX0 122 Lib.Math.min.name, Cond.static Lib.Math.min.name, Cond.initialized "java/lang/Math", Cond.code Lib.Math.min.name Lib.Math.min.code 2 (some .int), Cond.methodLink RX0 117 yX0_boundFrom, Cond.instanceMethod yX0_boundFrom, Cond.selects RX0 yX0_boundFrom yX0_boundFrom, Cond.code yX0_boundFrom cX0_boundFrom 3 (some .int), Cond.methodLink RX0 186 yX0_goOnOver, Cond.instanceMethod yX0_goOnOver, Cond.selects RX0 yX0_goOnOver yX0_goOnOver, Cond.code yX0_goOnOver cX0_goOnOver 6 none]
def wsL_cut : List Cond := .codeWith yL_cut cL_cut 5 (some .int) [(0, 10, 13, 19), (0, 10, 17, 21)] :: ((wsL_cut_r1 ++ (wsL_cut_r2 ++ wsL_cut_r3)) ++ wsX00 ++ (vx_atS RX0 136 "java/lang/IndexOutOfBoundsException" ["java/lang/RuntimeException", "java/lang/Exception"]).filter goodWord ++ (vx_atS RX0 111 "java/lang/IllegalArgumentException" ["java/lang/RuntimeException", "java/lang/Exception"]).filter goodWord)
def wsL_knot_r1 : List Cond := [Cond.classLink RL 19 "java/lang/IndexOutOfBoundsException", Cond.methodLink RL 27 yX0_knot, Cond.instanceMethod yX0_knot, Cond.selects RX0 yX0_knot yX0_knot, Cond.initialized RX0, Cond.code yX0_knot cX0_knot 2 (some .boolean), Cond.fieldLink RX0 19 "RopeTimes" "tied" "[Z", Cond.methodLink RX0 68 yX0_checkRope, Cond.instanceMethod yX0_checkRope, Cond.selects RX0 yX0_checkRope yX0_checkRope, Cond.code yX0_checkRope cX0_checkRope 2 none, Cond.classLink RX0 132 "java/lang/IndexOutOfBoundsException", Cond.initialized "java/lang/IndexOutOfBoundsException", Cond.fieldLink RX0 63 "RopeTimes" "ropeCount" "I", Cond.methodLink RX0 38 yX0_settle, Cond.instanceMethod yX0_settle, Cond.selects RX0 yX0_settle yX0_settle, Cond.code yX0_settle cX0_settle 1 none, Cond.fieldLink RX0 23 "RopeTimes" "earliest" "[I", Cond.fieldLink RX0 94 "RopeTimes" "rounds" "I", Cond.methodLink RX0 140 yX0_findEarliest, Cond.instanceMethod yX0_findEarliest, Cond.selects RX0 yX0_findEarliest yX0_findEarliest, Cond.code yX0_findEarliest cX0_findEarliest 4 (some .int)]
def wsL_knot_r2 : List Cond := [Cond.fieldLink RX0 41 "RopeTimes" "turnCount" "I", Cond.methodLink RX0 176 yX0_pushOnce, Cond.instanceMethod yX0_pushOnce, Cond.selects RX0 yX0_pushOnce yX0_pushOnce, Cond.code yX0_pushOnce cX0_pushOnce 6 (some .boolean), Cond.fieldLink RX0 13 "RopeTimes" "to" "[I", Cond.fieldLink RX0 16 "RopeTimes" "length" "[I", Cond.fieldLink RX0 9 "RopeTimes" "from" "[I", Cond.methodLink RX0 71 yX0_isPossible, Cond.instanceMethod yX0_isPossible, Cond.selects RX0 yX0_isPossible yX0_isPossible, Cond.code yX0_isPossible cX0_isPossible 1 (some .boolean), Cond.methodLink RX0 173 yX0_findBounds, Cond.instanceMethod yX0_findBounds, Cond.selects RX0 yX0_findBounds yX0_findBounds, Cond.code yX0_findBounds cX0_findBounds 3 none, Cond.constant RX0 121 (99999), Cond.methodLink RX0 183 yX0_startBounds, Cond.instanceMethod yX0_startBounds, Cond.selects RX0 yX0_startBounds yX0_startBounds, Cond.code yX0_startBounds cX0_startBounds 3 none, Cond.fieldLink RX0 26 "RopeTimes" "bound" "[I", Cond.methodLink RX0 189 yX0_shortenBound, Cond.instanceMethod yX0_shortenBound]
def wsL_knot_r3 : List Cond := [Cond.selects RX0 yX0_shortenBound yX0_shortenBound, Cond.code yX0_shortenBound cX0_shortenBound 5 none, Cond.methodLink RX0 122 Lib.Math.min.name, Cond.static Lib.Math.min.name, Cond.initialized "java/lang/Math", Cond.code Lib.Math.min.name Lib.Math.min.code 2 (some .int), Cond.methodLink RX0 117 yX0_boundFrom, Cond.instanceMethod yX0_boundFrom, Cond.selects RX0 yX0_boundFrom yX0_boundFrom, Cond.code yX0_boundFrom cX0_boundFrom 3 (some .int), Cond.methodLink RX0 186 yX0_goOnOver, Cond.instanceMethod yX0_goOnOver, Cond.selects RX0 yX0_goOnOver yX0_goOnOver, Cond.code yX0_goOnOver cX0_goOnOver 6 none]
def wsL_knot : List Cond := .codeWith yL_knot cL_knot 4 (some .int) [(0, 16, 19, 19)] :: ((wsL_knot_r1 ++ (wsL_knot_r2 ++ wsL_knot_r3)) ++ wsX00 ++ (vx_atS RX0 136 "java/lang/IndexOutOfBoundsException" ["java/lang/RuntimeException", "java/lang/Exception"]).filter goodWord)
def wsL_told_r1 : List Cond := [Cond.classLink RL 19 "java/lang/IndexOutOfBoundsException", Cond.methodLink RL 31 yX0_told, Cond.instanceMethod yX0_told, Cond.selects RX0 yX0_told yX0_told, Cond.initialized RX0, Cond.code yX0_told cX0_told 3 (some .int), Cond.fieldLink RX0 9 "RopeTimes" "from" "[I", Cond.fieldLink RX0 13 "RopeTimes" "to" "[I", Cond.fieldLink RX0 16 "RopeTimes" "length" "[I", Cond.fieldLink RX0 19 "RopeTimes" "tied" "[Z", Cond.methodLink RX0 68 yX0_checkRope, Cond.instanceMethod yX0_checkRope, Cond.selects RX0 yX0_checkRope yX0_checkRope, Cond.code yX0_checkRope cX0_checkRope 2 none, Cond.classLink RX0 132 "java/lang/IndexOutOfBoundsException", Cond.initialized "java/lang/IndexOutOfBoundsException", Cond.fieldLink RX0 63 "RopeTimes" "ropeCount" "I", Cond.methodLink RX0 79 yX0_checkKind, Cond.static yX0_checkKind, Cond.code yX0_checkKind cX0_checkKind 2 none, Cond.methodLink RX0 82 yX0_isTight, Cond.instanceMethod yX0_isTight, Cond.selects RX0 yX0_isTight yX0_isTight, Cond.code yX0_isTight cX0_isTight 2 (some .boolean)]
def wsL_told_r2 : List Cond := [Cond.fieldLink RX0 23 "RopeTimes" "earliest" "[I", Cond.methodLink RX0 71 yX0_isPossible, Cond.instanceMethod yX0_isPossible, Cond.selects RX0 yX0_isPossible yX0_isPossible, Cond.code yX0_isPossible cX0_isPossible 1 (some .boolean), Cond.fieldLink RX0 94 "RopeTimes" "rounds" "I"]
def wsL_told : List Cond := .codeWith yL_told cL_told 5 (some .int) [(0, 10, 13, 19)] :: ((wsL_told_r1 ++ wsL_told_r2) ++ wsX00 ++ (vx_atS RX0 136 "java/lang/IndexOutOfBoundsException" ["java/lang/RuntimeException", "java/lang/Exception"]).filter goodWord)
def wsL_about_r1 : List Cond := [Cond.classLink RL 19 "java/lang/IndexOutOfBoundsException", Cond.methodLink RL 34 yX0_about, Cond.instanceMethod yX0_about, Cond.selects RX0 yX0_about yX0_about, Cond.initialized RX0, Cond.code yX0_about cX0_about 3 (some .int), Cond.fieldLink RX0 9 "RopeTimes" "from" "[I", Cond.fieldLink RX0 13 "RopeTimes" "to" "[I", Cond.fieldLink RX0 23 "RopeTimes" "earliest" "[I", Cond.methodLink RX0 52 yX0_checkTurn, Cond.instanceMethod yX0_checkTurn, Cond.selects RX0 yX0_checkTurn yX0_checkTurn, Cond.code yX0_checkTurn cX0_checkTurn 2 none, Cond.classLink RX0 132 "java/lang/IndexOutOfBoundsException", Cond.initialized "java/lang/IndexOutOfBoundsException", Cond.fieldLink RX0 41 "RopeTimes" "turnCount" "I", Cond.methodLink RX0 79 yX0_checkKind, Cond.static yX0_checkKind, Cond.code yX0_checkKind cX0_checkKind 2 none, Cond.methodLink RX0 86 yX0_tiedEndsAt, Cond.instanceMethod yX0_tiedEndsAt, Cond.selects RX0 yX0_tiedEndsAt yX0_tiedEndsAt, Cond.code yX0_tiedEndsAt cX0_tiedEndsAt 5 (some .int), Cond.fieldLink RX0 63 "RopeTimes" "ropeCount" "I"]
def wsL_about_r2 : List Cond := [Cond.fieldLink RX0 19 "RopeTimes" "tied" "[Z", Cond.methodLink RX0 71 yX0_isPossible, Cond.instanceMethod yX0_isPossible, Cond.selects RX0 yX0_isPossible yX0_isPossible, Cond.code yX0_isPossible cX0_isPossible 1 (some .boolean), Cond.fieldLink RX0 94 "RopeTimes" "rounds" "I"]
def wsL_about : List Cond := .codeWith yL_about cL_about 5 (some .int) [(0, 10, 13, 19)] :: ((wsL_about_r1 ++ wsL_about_r2) ++ wsX00 ++ (vx_atS RX0 136 "java/lang/IndexOutOfBoundsException" ["java/lang/RuntimeException", "java/lang/Exception"]).filter goodWord)
def wsL_count_r1 : List Cond := [Cond.classLink RL 19 "java/lang/IndexOutOfBoundsException", Cond.methodLink RL 37 yX0_count, Cond.instanceMethod yX0_count, Cond.selects RX0 yX0_count yX0_count, Cond.initialized RX0, Cond.code yX0_count cX0_count 2 (some .int), Cond.fieldLink RX0 41 "RopeTimes" "turnCount" "I", Cond.fieldLink RX0 63 "RopeTimes" "ropeCount" "I", Cond.fieldLink RX0 94 "RopeTimes" "rounds" "I", Cond.fieldLink RX0 23 "RopeTimes" "earliest" "[I", Cond.methodLink RX0 79 yX0_checkKind, Cond.static yX0_checkKind, Cond.code yX0_checkKind cX0_checkKind 2 none, Cond.classLink RX0 132 "java/lang/IndexOutOfBoundsException", Cond.initialized "java/lang/IndexOutOfBoundsException", Cond.methodLink RX0 90 yX0_tiedRopes, Cond.instanceMethod yX0_tiedRopes, Cond.selects RX0 yX0_tiedRopes yX0_tiedRopes, Cond.code yX0_tiedRopes cX0_tiedRopes 3 (some .int), Cond.fieldLink RX0 19 "RopeTimes" "tied" "[Z", Cond.methodLink RX0 71 yX0_isPossible, Cond.instanceMethod yX0_isPossible, Cond.selects RX0 yX0_isPossible yX0_isPossible, Cond.code yX0_isPossible cX0_isPossible 1 (some .boolean)]
def wsL_count_r2 : List Cond := [Cond.methodLink RX0 97 yX0_lastOf, Cond.instanceMethod yX0_lastOf, Cond.selects RX0 yX0_lastOf yX0_lastOf, Cond.code yX0_lastOf cX0_lastOf 4 (some .int), Cond.methodLink RX0 180 Lib.Math.max.name, Cond.static Lib.Math.max.name, Cond.initialized "java/lang/Math", Cond.code Lib.Math.max.name Lib.Math.max.code 2 (some .int), Cond.methodLink RX0 101 yX0_tightRopes, Cond.instanceMethod yX0_tightRopes, Cond.selects RX0 yX0_tightRopes yX0_tightRopes, Cond.code yX0_tightRopes cX0_tightRopes 3 (some .int), Cond.methodLink RX0 82 yX0_isTight, Cond.instanceMethod yX0_isTight, Cond.selects RX0 yX0_isTight yX0_isTight, Cond.code yX0_isTight cX0_isTight 2 (some .boolean), Cond.fieldLink RX0 13 "RopeTimes" "to" "[I", Cond.fieldLink RX0 9 "RopeTimes" "from" "[I", Cond.fieldLink RX0 16 "RopeTimes" "length" "[I", Cond.methodLink RX0 104 yX0_shortRingLength, Cond.instanceMethod yX0_shortRingLength, Cond.selects RX0 yX0_shortRingLength yX0_shortRingLength, Cond.code yX0_shortRingLength cX0_shortRingLength 4 (some .int), Cond.methodLink RX0 193 yX0_shortRingFrom]
def wsL_count_r3 : List Cond := [Cond.instanceMethod yX0_shortRingFrom, Cond.selects RX0 yX0_shortRingFrom yX0_shortRingFrom, Cond.code yX0_shortRingFrom cX0_shortRingFrom 3 (some .int), Cond.fieldLink RX0 32 "RopeTimes" "reach" "[I", Cond.constant RX0 121 (99999), Cond.methodLink RX0 196 yX0_goOneRope, Cond.instanceMethod yX0_goOneRope, Cond.selects RX0 yX0_goOneRope yX0_goOneRope, Cond.code yX0_goOneRope cX0_goOneRope 3 none, Cond.fieldLink RX0 35 "RopeTimes" "nextReach" "[I", Cond.methodLink RX0 122 Lib.Math.min.name, Cond.static Lib.Math.min.name, Cond.code Lib.Math.min.name Lib.Math.min.code 2 (some .int)]
def wsL_count : List Cond := .codeWith yL_count cL_count 4 (some .int) [(0, 9, 12, 19)] :: ((wsL_count_r1 ++ (wsL_count_r2 ++ wsL_count_r3)) ++ wsX00 ++ (vx_atS RX0 136 "java/lang/IndexOutOfBoundsException" ["java/lang/RuntimeException", "java/lang/Exception"]).filter goodWord)
def wsL_late_r1 : List Cond := [Cond.classLink RL 19 "java/lang/IndexOutOfBoundsException", Cond.classLink RL 21 "java/lang/IllegalArgumentException", Cond.classLink RL 13 "java/lang/IllegalStateException", Cond.methodLink RL 41 yX0_late, Cond.instanceMethod yX0_late, Cond.selects RX0 yX0_late yX0_late, Cond.initialized RX0, Cond.code yX0_late cX0_late 6 (some .int), Cond.classLink RX0 107 "java/lang/IllegalArgumentException", Cond.initialized "java/lang/IllegalArgumentException", Cond.classLink RX0 45 "java/lang/IllegalStateException", Cond.initialized "java/lang/IllegalStateException", Cond.fieldLink RX0 23 "RopeTimes" "earliest" "[I", Cond.fieldLink RX0 41 "RopeTimes" "turnCount" "I", Cond.constant RX0 121 (99999), Cond.methodLink RX0 122 Lib.Math.min.name, Cond.static Lib.Math.min.name, Cond.initialized "java/lang/Math", Cond.code Lib.Math.min.name Lib.Math.min.code 2 (some .int), Cond.methodLink RX0 52 yX0_checkTurn, Cond.instanceMethod yX0_checkTurn, Cond.selects RX0 yX0_checkTurn yX0_checkTurn, Cond.code yX0_checkTurn cX0_checkTurn 2 none, Cond.classLink RX0 132 "java/lang/IndexOutOfBoundsException"]
def wsL_late_r2 : List Cond := [Cond.initialized "java/lang/IndexOutOfBoundsException", Cond.methodLink RX0 112 yX0_checkPossible, Cond.instanceMethod yX0_checkPossible, Cond.selects RX0 yX0_checkPossible yX0_checkPossible, Cond.code yX0_checkPossible cX0_checkPossible 1 none, Cond.methodLink RX0 71 yX0_isPossible, Cond.instanceMethod yX0_isPossible, Cond.selects RX0 yX0_isPossible yX0_isPossible, Cond.code yX0_isPossible cX0_isPossible 1 (some .boolean), Cond.fieldLink RX0 94 "RopeTimes" "rounds" "I", Cond.methodLink RX0 97 yX0_lastOf, Cond.instanceMethod yX0_lastOf, Cond.selects RX0 yX0_lastOf yX0_lastOf, Cond.code yX0_lastOf cX0_lastOf 4 (some .int), Cond.methodLink RX0 180 Lib.Math.max.name, Cond.static Lib.Math.max.name, Cond.code Lib.Math.max.name Lib.Math.max.code 2 (some .int), Cond.methodLink RX0 117 yX0_boundFrom, Cond.instanceMethod yX0_boundFrom, Cond.selects RX0 yX0_boundFrom yX0_boundFrom, Cond.code yX0_boundFrom cX0_boundFrom 3 (some .int), Cond.fieldLink RX0 26 "RopeTimes" "bound" "[I"]
def wsL_late : List Cond := .codeWith yL_late cL_late 5 (some .int) [(0, 10, 13, 19), (0, 10, 17, 21), (0, 10, 21, 13)] :: ((wsL_late_r1 ++ wsL_late_r2) ++ wsX00 ++ (vx_atS RX0 111 "java/lang/IllegalArgumentException" ["java/lang/RuntimeException", "java/lang/Exception"]).filter goodWord ++ (vx_atS RX0 49 "java/lang/IllegalStateException" ["java/lang/RuntimeException", "java/lang/Exception"]).filter goodWord ++ (vx_atS RX0 136 "java/lang/IndexOutOfBoundsException" ["java/lang/RuntimeException", "java/lang/Exception"]).filter goodWord)
def wsL_most_r1 : List Cond := [Cond.classLink RL 19 "java/lang/IndexOutOfBoundsException", Cond.classLink RL 13 "java/lang/IllegalStateException", Cond.methodLink RL 44 yX0_most, Cond.instanceMethod yX0_most, Cond.selects RX0 yX0_most yX0_most, Cond.initialized RX0, Cond.code yX0_most cX0_most 3 (some .int), Cond.methodLink RX0 52 yX0_checkTurn, Cond.instanceMethod yX0_checkTurn, Cond.selects RX0 yX0_checkTurn yX0_checkTurn, Cond.code yX0_checkTurn cX0_checkTurn 2 none, Cond.classLink RX0 132 "java/lang/IndexOutOfBoundsException", Cond.initialized "java/lang/IndexOutOfBoundsException", Cond.fieldLink RX0 41 "RopeTimes" "turnCount" "I", Cond.methodLink RX0 112 yX0_checkPossible, Cond.instanceMethod yX0_checkPossible, Cond.selects RX0 yX0_checkPossible yX0_checkPossible, Cond.code yX0_checkPossible cX0_checkPossible 1 none, Cond.classLink RX0 45 "java/lang/IllegalStateException", Cond.initialized "java/lang/IllegalStateException", Cond.methodLink RX0 71 yX0_isPossible, Cond.instanceMethod yX0_isPossible, Cond.selects RX0 yX0_isPossible yX0_isPossible, Cond.code yX0_isPossible cX0_isPossible 1 (some .boolean)]
def wsL_most_r2 : List Cond := [Cond.fieldLink RX0 94 "RopeTimes" "rounds" "I", Cond.methodLink RX0 117 yX0_boundFrom, Cond.instanceMethod yX0_boundFrom, Cond.selects RX0 yX0_boundFrom yX0_boundFrom, Cond.code yX0_boundFrom cX0_boundFrom 3 (some .int), Cond.fieldLink RX0 26 "RopeTimes" "bound" "[I"]
def wsL_most : List Cond := .codeWith yL_most cL_most 5 (some .int) [(0, 10, 13, 19), (0, 10, 17, 13)] :: ((wsL_most_r1 ++ wsL_most_r2) ++ wsX00 ++ (vx_atS RX0 136 "java/lang/IndexOutOfBoundsException" ["java/lang/RuntimeException", "java/lang/Exception"]).filter goodWord ++ (vx_atS RX0 49 "java/lang/IllegalStateException" ["java/lang/RuntimeException", "java/lang/Exception"]).filter goodWord)
def wsL_room_r1 : List Cond := [Cond.classLink RL 19 "java/lang/IndexOutOfBoundsException", Cond.classLink RL 13 "java/lang/IllegalStateException", Cond.methodLink RL 47 yX0_room, Cond.instanceMethod yX0_room, Cond.selects RX0 yX0_room yX0_room, Cond.initialized RX0, Cond.code yX0_room cX0_room 2 (some .int), Cond.classLink RX0 45 "java/lang/IllegalStateException", Cond.initialized "java/lang/IllegalStateException", Cond.fieldLink RX0 19 "RopeTimes" "tied" "[Z", Cond.fieldLink RX0 9 "RopeTimes" "from" "[I", Cond.fieldLink RX0 13 "RopeTimes" "to" "[I", Cond.methodLink RX0 68 yX0_checkRope, Cond.instanceMethod yX0_checkRope, Cond.selects RX0 yX0_checkRope yX0_checkRope, Cond.code yX0_checkRope cX0_checkRope 2 none, Cond.classLink RX0 132 "java/lang/IndexOutOfBoundsException", Cond.initialized "java/lang/IndexOutOfBoundsException", Cond.fieldLink RX0 63 "RopeTimes" "ropeCount" "I", Cond.methodLink RX0 112 yX0_checkPossible, Cond.instanceMethod yX0_checkPossible, Cond.selects RX0 yX0_checkPossible yX0_checkPossible, Cond.code yX0_checkPossible cX0_checkPossible 1 none, Cond.methodLink RX0 71 yX0_isPossible]
def wsL_room_r2 : List Cond := [Cond.instanceMethod yX0_isPossible, Cond.selects RX0 yX0_isPossible yX0_isPossible, Cond.code yX0_isPossible cX0_isPossible 1 (some .boolean), Cond.fieldLink RX0 94 "RopeTimes" "rounds" "I", Cond.methodLink RX0 129 yX0_leastLength, Cond.instanceMethod yX0_leastLength, Cond.selects RX0 yX0_leastLength yX0_leastLength, Cond.code yX0_leastLength cX0_leastLength 4 (some .int), Cond.constant RX0 121 (99999), Cond.methodLink RX0 180 Lib.Math.max.name, Cond.static Lib.Math.max.name, Cond.initialized "java/lang/Math", Cond.code Lib.Math.max.name Lib.Math.max.code 2 (some .int), Cond.methodLink RX0 117 yX0_boundFrom, Cond.instanceMethod yX0_boundFrom, Cond.selects RX0 yX0_boundFrom yX0_boundFrom, Cond.code yX0_boundFrom cX0_boundFrom 3 (some .int), Cond.fieldLink RX0 26 "RopeTimes" "bound" "[I"]
def wsL_room : List Cond := .codeWith yL_room cL_room 4 (some .int) [(0, 9, 12, 19), (0, 9, 15, 13)] :: ((wsL_room_r1 ++ wsL_room_r2) ++ wsX00 ++ (vx_atS RX0 49 "java/lang/IllegalStateException" ["java/lang/RuntimeException", "java/lang/Exception"]).filter goodWord ++ (vx_atS RX0 136 "java/lang/IndexOutOfBoundsException" ["java/lang/RuntimeException", "java/lang/Exception"]).filter goodWord)
def wsL_would_r1 : List Cond := [Cond.classLink RL 19 "java/lang/IndexOutOfBoundsException", Cond.classLink RL 21 "java/lang/IllegalArgumentException", Cond.methodLink RL 50 yX0_would, Cond.instanceMethod yX0_would, Cond.selects RX0 yX0_would yX0_would, Cond.initialized RX0, Cond.code yX0_would cX0_would 4 (some .boolean), Cond.methodLink RX0 52 yX0_checkTurn, Cond.instanceMethod yX0_checkTurn, Cond.selects RX0 yX0_checkTurn yX0_checkTurn, Cond.code yX0_checkTurn cX0_checkTurn 2 none, Cond.classLink RX0 132 "java/lang/IndexOutOfBoundsException", Cond.initialized "java/lang/IndexOutOfBoundsException", Cond.fieldLink RX0 41 "RopeTimes" "turnCount" "I", Cond.methodLink RX0 56 yX0_checkTwoTurns, Cond.static yX0_checkTwoTurns, Cond.code yX0_checkTwoTurns cX0_checkTwoTurns 2 none, Cond.classLink RX0 107 "java/lang/IllegalArgumentException", Cond.initialized "java/lang/IllegalArgumentException", Cond.methodLink RX0 60 yX0_checkLength, Cond.static yX0_checkLength, Cond.code yX0_checkLength cX0_checkLength 1 none, Cond.methodLink RX0 71 yX0_isPossible, Cond.instanceMethod yX0_isPossible]
def wsL_would_r2 : List Cond := [Cond.selects RX0 yX0_isPossible yX0_isPossible, Cond.code yX0_isPossible cX0_isPossible 1 (some .boolean), Cond.fieldLink RX0 94 "RopeTimes" "rounds" "I", Cond.methodLink RX0 129 yX0_leastLength, Cond.instanceMethod yX0_leastLength, Cond.selects RX0 yX0_leastLength yX0_leastLength, Cond.code yX0_leastLength cX0_leastLength 4 (some .int), Cond.constant RX0 121 (99999), Cond.methodLink RX0 180 Lib.Math.max.name, Cond.static Lib.Math.max.name, Cond.initialized "java/lang/Math", Cond.code Lib.Math.max.name Lib.Math.max.code 2 (some .int), Cond.methodLink RX0 117 yX0_boundFrom, Cond.instanceMethod yX0_boundFrom, Cond.selects RX0 yX0_boundFrom yX0_boundFrom, Cond.code yX0_boundFrom cX0_boundFrom 3 (some .int), Cond.fieldLink RX0 26 "RopeTimes" "bound" "[I"]
def wsL_would : List Cond := .codeWith yL_would cL_would 6 (some .int) [(0, 19, 22, 19), (0, 19, 26, 21)] :: ((wsL_would_r1 ++ wsL_would_r2) ++ wsX00 ++ (vx_atS RX0 136 "java/lang/IndexOutOfBoundsException" ["java/lang/RuntimeException", "java/lang/Exception"]).filter goodWord ++ (vx_atS RX0 111 "java/lang/IllegalArgumentException" ["java/lang/RuntimeException", "java/lang/Exception"]).filter goodWord)
def wsL_at_r1 : List Cond := [Cond.classLink RL 19 "java/lang/IndexOutOfBoundsException", Cond.classLink RL 13 "java/lang/IllegalStateException", Cond.methodLink RL 54 yX0_at, Cond.instanceMethod yX0_at, Cond.selects RX0 yX0_at yX0_at, Cond.initialized RX0, Cond.code yX0_at cX0_at 3 (some .int), Cond.classLink RX0 132 "java/lang/IndexOutOfBoundsException", Cond.initialized "java/lang/IndexOutOfBoundsException", Cond.fieldLink RX0 41 "RopeTimes" "turnCount" "I", Cond.methodLink RX0 112 yX0_checkPossible, Cond.instanceMethod yX0_checkPossible, Cond.selects RX0 yX0_checkPossible yX0_checkPossible, Cond.code yX0_checkPossible cX0_checkPossible 1 none, Cond.classLink RX0 45 "java/lang/IllegalStateException", Cond.initialized "java/lang/IllegalStateException", Cond.methodLink RX0 71 yX0_isPossible, Cond.instanceMethod yX0_isPossible, Cond.selects RX0 yX0_isPossible yX0_isPossible, Cond.code yX0_isPossible cX0_isPossible 1 (some .boolean), Cond.fieldLink RX0 94 "RopeTimes" "rounds" "I", Cond.methodLink RX0 137 yX0_turnsAheadOf, Cond.instanceMethod yX0_turnsAheadOf, Cond.selects RX0 yX0_turnsAheadOf yX0_turnsAheadOf]
def wsL_at_r2 : List Cond := [Cond.code yX0_turnsAheadOf cX0_turnsAheadOf 5 (some .int), Cond.fieldLink RX0 23 "RopeTimes" "earliest" "[I"]
def wsL_at : List Cond := .codeWith yL_at cL_at 4 (some .int) [(0, 9, 12, 19), (0, 9, 15, 13)] :: ((wsL_at_r1 ++ wsL_at_r2) ++ wsX00 ++ (vx_atS RX0 136 "java/lang/IndexOutOfBoundsException" ["java/lang/RuntimeException", "java/lang/Exception"]).filter goodWord ++ (vx_atS RX0 49 "java/lang/IllegalStateException" ["java/lang/RuntimeException", "java/lang/Exception"]).filter goodWord)
def wsL_law0_r1 : List Cond := [Cond.classLink RL 8 RX0, Cond.instantiable RX0 12, Cond.initialized RX0, Cond.classLink RL 58 RX1, Cond.instantiable RX1 4, Cond.initialized RX1, Cond.arrayClass .long, Cond.methodLink RL 57 yX0_init, Cond.instanceMethod yX0_init, Cond.code yX0_init cX0_init 1 none, Cond.methodLink RX0 1 objectInit, Cond.instanceMethod objectInit, Cond.code objectInit ⟨#[0xb1]⟩ 1 none, Cond.arrayClass .int, Cond.fieldLink RX0 9 "RopeTimes" "from" "[I", Cond.fieldLink RX0 13 "RopeTimes" "to" "[I", Cond.fieldLink RX0 16 "RopeTimes" "length" "[I", Cond.arrayClass .boolean, Cond.fieldLink RX0 19 "RopeTimes" "tied" "[Z", Cond.fieldLink RX0 23 "RopeTimes" "earliest" "[I", Cond.fieldLink RX0 26 "RopeTimes" "bound" "[I", Cond.fieldLink RX0 29 "RopeTimes" "trial" "[I", Cond.fieldLink RX0 32 "RopeTimes" "reach" "[I", Cond.fieldLink RX0 35 "RopeTimes" "nextReach" "[I"]
def wsL_law0_r2 : List Cond := [Cond.methodLink RX0 38 yX0_settle, Cond.instanceMethod yX0_settle, Cond.selects RX0 yX0_settle yX0_settle, Cond.code yX0_settle cX0_settle 1 none, Cond.fieldLink RX0 94 "RopeTimes" "rounds" "I", Cond.methodLink RX0 140 yX0_findEarliest, Cond.instanceMethod yX0_findEarliest, Cond.selects RX0 yX0_findEarliest yX0_findEarliest, Cond.code yX0_findEarliest cX0_findEarliest 4 (some .int), Cond.fieldLink RX0 41 "RopeTimes" "turnCount" "I", Cond.methodLink RX0 176 yX0_pushOnce, Cond.instanceMethod yX0_pushOnce, Cond.selects RX0 yX0_pushOnce yX0_pushOnce, Cond.code yX0_pushOnce cX0_pushOnce 6 (some .boolean), Cond.fieldLink RX0 63 "RopeTimes" "ropeCount" "I", Cond.methodLink RX0 71 yX0_isPossible, Cond.instanceMethod yX0_isPossible, Cond.selects RX0 yX0_isPossible yX0_isPossible, Cond.code yX0_isPossible cX0_isPossible 1 (some .boolean), Cond.methodLink RX0 173 yX0_findBounds, Cond.instanceMethod yX0_findBounds, Cond.selects RX0 yX0_findBounds yX0_findBounds, Cond.code yX0_findBounds cX0_findBounds 3 none, Cond.constant RX0 121 (99999)]
def wsL_law0_r3 : List Cond := [Cond.methodLink RX0 183 yX0_startBounds, Cond.instanceMethod yX0_startBounds, Cond.selects RX0 yX0_startBounds yX0_startBounds, Cond.code yX0_startBounds cX0_startBounds 3 none, Cond.methodLink RX0 189 yX0_shortenBound, Cond.instanceMethod yX0_shortenBound, Cond.selects RX0 yX0_shortenBound yX0_shortenBound, Cond.code yX0_shortenBound cX0_shortenBound 5 none, Cond.methodLink RX0 122 Lib.Math.min.name, Cond.static Lib.Math.min.name, Cond.initialized "java/lang/Math", Cond.code Lib.Math.min.name Lib.Math.min.code 2 (some .int), Cond.methodLink RX0 117 yX0_boundFrom, Cond.instanceMethod yX0_boundFrom, Cond.selects RX0 yX0_boundFrom yX0_boundFrom, Cond.code yX0_boundFrom cX0_boundFrom 3 (some .int), Cond.methodLink RX0 186 yX0_goOnOver, Cond.instanceMethod yX0_goOnOver, Cond.selects RX0 yX0_goOnOver yX0_goOnOver, Cond.code yX0_goOnOver cX0_goOnOver 6 none, Cond.methodLink RL 60 yX1_init, Cond.instanceMethod yX1_init, Cond.code yX1_init cX1_init 1 none, Cond.methodLink RX1 1 objectInit]
def wsL_law0_r4 : List Cond := [Cond.fieldLink RX1 9 "RopeTimesModel" "rows" "[I", Cond.methodLink RL 61 yL_turn, Cond.static yL_turn, Cond.initialized RL, Cond.codeWith yL_turn cL_turn 3 (some .int) [(0, 8, 11, 13)], Cond.classLink RL 13 "java/lang/IllegalStateException", Cond.methodLink RL 7 yX0_turn, Cond.instanceMethod yX0_turn, Cond.selects RX0 yX0_turn yX0_turn, Cond.code yX0_turn cX0_turn 2 (some .int), Cond.classLink RX0 45 "java/lang/IllegalStateException", Cond.initialized "java/lang/IllegalStateException", Cond.methodLink RL 66 yX1_turn, Cond.instanceMethod yX1_turn, Cond.selects RX1 yX1_turn yX1_turn, Cond.code yX1_turn cX1_turn 1 (some .int), Cond.fieldLink RX1 13 "RopeTimesModel" "thrown" "I", Cond.fieldLink RX1 17 "RopeTimesModel" "turns" "I", Cond.methodLink RX1 58 yX1_fail, Cond.instanceMethod yX1_fail, Cond.selects RX1 yX1_fail yX1_fail, Cond.code yX1_fail cX1_fail 2 (some .int), Cond.methodLink RL 67 yX1_thrown, Cond.instanceMethod yX1_thrown]
def wsL_law0_r5 : List Cond := [Cond.selects RX1 yX1_thrown yX1_thrown, Cond.code yX1_thrown cX1_thrown 1 (some .int), Cond.methodLink RL 70 yL_tie, Cond.static yL_tie, Cond.codeWith yL_tie cL_tie 6 (some .int) [(0, 12, 15, 19), (0, 12, 19, 21), (0, 12, 23, 13)], Cond.classLink RL 19 "java/lang/IndexOutOfBoundsException", Cond.classLink RL 21 "java/lang/IllegalArgumentException", Cond.methodLink RL 15 yX0_tie, Cond.instanceMethod yX0_tie, Cond.selects RX0 yX0_tie yX0_tie, Cond.code yX0_tie cX0_tie 5 (some .int), Cond.methodLink RX0 52 yX0_checkTurn, Cond.instanceMethod yX0_checkTurn, Cond.selects RX0 yX0_checkTurn yX0_checkTurn, Cond.code yX0_checkTurn cX0_checkTurn 2 none, Cond.classLink RX0 132 "java/lang/IndexOutOfBoundsException", Cond.initialized "java/lang/IndexOutOfBoundsException", Cond.methodLink RX0 56 yX0_checkTwoTurns, Cond.static yX0_checkTwoTurns, Cond.code yX0_checkTwoTurns cX0_checkTwoTurns 2 none, Cond.classLink RX0 107 "java/lang/IllegalArgumentException", Cond.initialized "java/lang/IllegalArgumentException", Cond.methodLink RX0 60 yX0_checkLength, Cond.static yX0_checkLength]
def wsL_law0_r6 : List Cond := [Cond.code yX0_checkLength cX0_checkLength 1 none, Cond.methodLink RL 73 yX1_tie, Cond.instanceMethod yX1_tie, Cond.selects RX1 yX1_tie yX1_tie, Cond.code yX1_tie cX1_tie 5 (some .int), Cond.fieldLink RX1 24 "RopeTimesModel" "ropes" "I", Cond.methodLink RX1 68 arraycopyName, Cond.native arraycopyName, Cond.static arraycopyName, Cond.initialized "java/lang/System", Cond.methodLink RX1 62 yX1_isTurn, Cond.instanceMethod yX1_isTurn, Cond.selects RX1 yX1_isTurn yX1_isTurn, Cond.code yX1_isTurn cX1_isTurn 2 (some .boolean), Cond.methodLink RX1 20 yX1_isIn, Cond.static yX1_isIn, Cond.code yX1_isIn cX1_isIn 3 (some .boolean), Cond.methodLink RX1 65 yX1_isLong, Cond.static yX1_isLong, Cond.code yX1_isLong cX1_isLong 1 (some .boolean), Cond.methodLink RL 74 yL_cut, Cond.static yL_cut, Cond.codeWith yL_cut cL_cut 5 (some .int) [(0, 10, 13, 19), (0, 10, 17, 21)], Cond.methodLink RL 23 yX0_cut]
def wsL_law0_r7 : List Cond := [Cond.instanceMethod yX0_cut, Cond.selects RX0 yX0_cut yX0_cut, Cond.code yX0_cut cX0_cut 4 (some .int), Cond.methodLink RX0 68 yX0_checkRope, Cond.instanceMethod yX0_checkRope, Cond.selects RX0 yX0_checkRope yX0_checkRope, Cond.code yX0_checkRope cX0_checkRope 2 none, Cond.methodLink RL 77 yX1_cut, Cond.instanceMethod yX1_cut, Cond.selects RX1 yX1_cut yX1_cut, Cond.code yX1_cut cX1_cut 4 (some .int), Cond.methodLink RX1 74 yX1_isRope, Cond.instanceMethod yX1_isRope, Cond.selects RX1 yX1_isRope yX1_isRope, Cond.code yX1_isRope cX1_isRope 2 (some .boolean), Cond.methodLink RX1 27 yX1_ro, Cond.instanceMethod yX1_ro, Cond.selects RX1 yX1_ro yX1_ro, Cond.code yX1_ro cX1_ro 3 (some .int), Cond.methodLink RL 78 yL_knot, Cond.static yL_knot, Cond.codeWith yL_knot cL_knot 4 (some .int) [(0, 16, 19, 19)], Cond.methodLink RL 27 yX0_knot, Cond.instanceMethod yX0_knot]
def wsL_law0_r8 : List Cond := [Cond.selects RX0 yX0_knot yX0_knot, Cond.code yX0_knot cX0_knot 2 (some .boolean), Cond.methodLink RL 81 yX1_knot, Cond.instanceMethod yX1_knot, Cond.selects RX1 yX1_knot yX1_knot, Cond.code yX1_knot cX1_knot 2 (some .boolean), Cond.methodLink RX1 31 yX1_isTied, Cond.instanceMethod yX1_isTied, Cond.selects RX1 yX1_isTied yX1_isTied, Cond.code yX1_isTied cX1_isTied 2 (some .boolean), Cond.methodLink RL 82 yX0_tighten, Cond.instanceMethod yX0_tighten, Cond.selects RX0 yX0_tighten yX0_tighten, Cond.code yX0_tighten cX0_tighten 3 (some .int), Cond.methodLink RX0 75 yX0_tightenOne, Cond.instanceMethod yX0_tightenOne, Cond.selects RX0 yX0_tightenOne yX0_tightenOne, Cond.code yX0_tightenOne cX0_tightenOne 3 (some .int), Cond.methodLink RX0 129 yX0_leastLength, Cond.instanceMethod yX0_leastLength, Cond.selects RX0 yX0_leastLength yX0_leastLength, Cond.code yX0_leastLength cX0_leastLength 4 (some .int), Cond.methodLink RX0 180 Lib.Math.max.name, Cond.static Lib.Math.max.name]
def wsL_law0_r9 : List Cond := [Cond.code Lib.Math.max.name Lib.Math.max.code 2 (some .int), Cond.methodLink RL 85 yX1_tighten, Cond.instanceMethod yX1_tighten, Cond.selects RX1 yX1_tighten yX1_tighten, Cond.code yX1_tighten cX1_tighten 4 (some .int), Cond.methodLink RX1 77 yX1_isHeld, Cond.instanceMethod yX1_isHeld, Cond.selects RX1 yX1_isHeld yX1_isHeld, Cond.code yX1_isHeld cX1_isHeld 1 (some .boolean), Cond.methodLink RX1 35 yX1_earliest, Cond.instanceMethod yX1_earliest, Cond.selects RX1 yX1_earliest yX1_earliest, Cond.code yX1_earliest cX1_earliest 6 (some (.array .int)), Cond.methodLink RX1 39 yX1_isFound, Cond.instanceMethod yX1_isFound, Cond.selects RX1 yX1_isFound yX1_isFound, Cond.code yX1_isFound cX1_isFound 2 (some .boolean), Cond.methodLink RX1 81 yX1_shortest, Cond.instanceMethod yX1_shortest, Cond.selects RX1 yX1_shortest yX1_shortest, Cond.code yX1_shortest cX1_shortest 3 (some .int), Cond.constant RX1 50 (99999), Cond.methodLink RX1 43 Lib.Math.max.name, Cond.methodLink RX1 54 yX1_ways]
def wsL_law0_r10 : List Cond := [Cond.instanceMethod yX1_ways, Cond.selects RX1 yX1_ways yX1_ways, Cond.code yX1_ways cX1_ways 5 (some (.array (.array .int))), Cond.classLink RX1 48 "[[I", Cond.methodLink RX1 51 Lib.Math.min.name, Cond.methodLink RL 86 yL_told, Cond.static yL_told, Cond.codeWith yL_told cL_told 5 (some .int) [(0, 10, 13, 19)], Cond.methodLink RL 31 yX0_told, Cond.instanceMethod yX0_told, Cond.selects RX0 yX0_told yX0_told, Cond.code yX0_told cX0_told 3 (some .int), Cond.methodLink RX0 79 yX0_checkKind, Cond.static yX0_checkKind, Cond.code yX0_checkKind cX0_checkKind 2 none, Cond.methodLink RX0 82 yX0_isTight, Cond.instanceMethod yX0_isTight, Cond.selects RX0 yX0_isTight yX0_isTight, Cond.code yX0_isTight cX0_isTight 2 (some .boolean), Cond.methodLink RL 88 yX1_told, Cond.instanceMethod yX1_told, Cond.selects RX1 yX1_told yX1_told, Cond.code yX1_told cX1_told 3 (some .int), Cond.methodLink RX1 88 yX1_ropeTold]
def wsL_law0_r11 : List Cond := [Cond.instanceMethod yX1_ropeTold, Cond.selects RX1 yX1_ropeTold yX1_ropeTold, Cond.code yX1_ropeTold cX1_ropeTold 4 (some .int), Cond.methodLink RX1 84 yX1_isTight, Cond.instanceMethod yX1_isTight, Cond.selects RX1 yX1_isTight yX1_isTight, Cond.code yX1_isTight cX1_isTight 3 (some .boolean), Cond.methodLink RL 89 yL_about, Cond.static yL_about, Cond.codeWith yL_about cL_about 5 (some .int) [(0, 10, 13, 19)], Cond.methodLink RL 34 yX0_about, Cond.instanceMethod yX0_about, Cond.selects RX0 yX0_about yX0_about, Cond.code yX0_about cX0_about 3 (some .int), Cond.methodLink RX0 86 yX0_tiedEndsAt, Cond.instanceMethod yX0_tiedEndsAt, Cond.selects RX0 yX0_tiedEndsAt yX0_tiedEndsAt, Cond.code yX0_tiedEndsAt cX0_tiedEndsAt 5 (some .int), Cond.methodLink RL 91 yX1_about, Cond.instanceMethod yX1_about, Cond.selects RX1 yX1_about yX1_about, Cond.code yX1_about cX1_about 3 (some .int), Cond.methodLink RX1 92 yX1_turnTold, Cond.instanceMethod yX1_turnTold]
def wsL_law0_r12 : List Cond := [Cond.selects RX1 yX1_turnTold yX1_turnTold, Cond.code yX1_turnTold cX1_turnTold 6 (some .int), Cond.methodLink RL 92 yL_count, Cond.static yL_count, Cond.codeWith yL_count cL_count 4 (some .int) [(0, 9, 12, 19)], Cond.methodLink RL 37 yX0_count, Cond.instanceMethod yX0_count, Cond.selects RX0 yX0_count yX0_count, Cond.code yX0_count cX0_count 2 (some .int), Cond.methodLink RX0 90 yX0_tiedRopes, Cond.instanceMethod yX0_tiedRopes, Cond.selects RX0 yX0_tiedRopes yX0_tiedRopes, Cond.code yX0_tiedRopes cX0_tiedRopes 3 (some .int), Cond.methodLink RX0 97 yX0_lastOf, Cond.instanceMethod yX0_lastOf, Cond.selects RX0 yX0_lastOf yX0_lastOf, Cond.code yX0_lastOf cX0_lastOf 4 (some .int), Cond.methodLink RX0 101 yX0_tightRopes, Cond.instanceMethod yX0_tightRopes, Cond.selects RX0 yX0_tightRopes yX0_tightRopes, Cond.code yX0_tightRopes cX0_tightRopes 3 (some .int), Cond.methodLink RX0 104 yX0_shortRingLength, Cond.instanceMethod yX0_shortRingLength, Cond.selects RX0 yX0_shortRingLength yX0_shortRingLength]
def wsL_law0_r13 : List Cond := [Cond.code yX0_shortRingLength cX0_shortRingLength 4 (some .int), Cond.methodLink RX0 193 yX0_shortRingFrom, Cond.instanceMethod yX0_shortRingFrom, Cond.selects RX0 yX0_shortRingFrom yX0_shortRingFrom, Cond.code yX0_shortRingFrom cX0_shortRingFrom 3 (some .int), Cond.methodLink RX0 196 yX0_goOneRope, Cond.instanceMethod yX0_goOneRope, Cond.selects RX0 yX0_goOneRope yX0_goOneRope, Cond.code yX0_goOneRope cX0_goOneRope 3 none, Cond.methodLink RL 94 yX1_count, Cond.instanceMethod yX1_count, Cond.selects RX1 yX1_count yX1_count, Cond.code yX1_count cX1_count 2 (some .int), Cond.methodLink RX1 103 yX1_counted, Cond.instanceMethod yX1_counted, Cond.selects RX1 yX1_counted yX1_counted, Cond.code yX1_counted cX1_counted 5 (some .int), Cond.methodLink RX1 95 yX1_last, Cond.instanceMethod yX1_last, Cond.selects RX1 yX1_last yX1_last, Cond.code yX1_last cX1_last 4 (some .int), Cond.methodLink RX1 99 yX1_ring, Cond.instanceMethod yX1_ring, Cond.selects RX1 yX1_ring yX1_ring]
def wsL_law0_r14 : List Cond := [Cond.code yX1_ring cX1_ring 7 (some .int), Cond.methodLink RL 95 yX0_holds, Cond.instanceMethod yX0_holds, Cond.selects RX0 yX0_holds yX0_holds, Cond.code yX0_holds cX0_holds 1 (some .boolean), Cond.methodLink RL 99 yX1_holds, Cond.instanceMethod yX1_holds, Cond.selects RX1 yX1_holds yX1_holds, Cond.code yX1_holds cX1_holds 1 (some .boolean), Cond.methodLink RL 100 yL_late, Cond.static yL_late, Cond.codeWith yL_late cL_late 5 (some .int) [(0, 10, 13, 19), (0, 10, 17, 21), (0, 10, 21, 13)], Cond.methodLink RL 41 yX0_late, Cond.instanceMethod yX0_late, Cond.selects RX0 yX0_late yX0_late, Cond.code yX0_late cX0_late 6 (some .int), Cond.methodLink RX0 112 yX0_checkPossible, Cond.instanceMethod yX0_checkPossible, Cond.selects RX0 yX0_checkPossible yX0_checkPossible, Cond.code yX0_checkPossible cX0_checkPossible 1 none, Cond.methodLink RL 102 yX1_late, Cond.instanceMethod yX1_late, Cond.selects RX1 yX1_late yX1_late, Cond.code yX1_late cX1_late 7 (some .int)]
def wsL_law0_r15 : List Cond := [Cond.methodLink RL 103 yL_most, Cond.static yL_most, Cond.codeWith yL_most cL_most 5 (some .int) [(0, 10, 13, 19), (0, 10, 17, 13)], Cond.methodLink RL 44 yX0_most, Cond.instanceMethod yX0_most, Cond.selects RX0 yX0_most yX0_most, Cond.code yX0_most cX0_most 3 (some .int), Cond.methodLink RL 105 yX1_most, Cond.instanceMethod yX1_most, Cond.selects RX1 yX1_most yX1_most, Cond.code yX1_most cX1_most 3 (some .int), Cond.methodLink RL 106 yL_room, Cond.static yL_room, Cond.codeWith yL_room cL_room 4 (some .int) [(0, 9, 12, 19), (0, 9, 15, 13)], Cond.methodLink RL 47 yX0_room, Cond.instanceMethod yX0_room, Cond.selects RX0 yX0_room yX0_room, Cond.code yX0_room cX0_room 2 (some .int), Cond.methodLink RL 108 yX1_room, Cond.instanceMethod yX1_room, Cond.selects RX1 yX1_room yX1_room, Cond.code yX1_room cX1_room 2 (some .int), Cond.methodLink RL 109 yL_would, Cond.static yL_would]
def wsL_law0_r16 : List Cond := [Cond.codeWith yL_would cL_would 6 (some .int) [(0, 19, 22, 19), (0, 19, 26, 21)], Cond.methodLink RL 50 yX0_would, Cond.instanceMethod yX0_would, Cond.selects RX0 yX0_would yX0_would, Cond.code yX0_would cX0_would 4 (some .boolean), Cond.methodLink RL 111 yX1_would, Cond.instanceMethod yX1_would, Cond.selects RX1 yX1_would yX1_would, Cond.code yX1_would cX1_would 5 (some .boolean), Cond.methodLink RL 112 yL_at, Cond.static yL_at, Cond.codeWith yL_at cL_at 4 (some .int) [(0, 9, 12, 19), (0, 9, 15, 13)], Cond.methodLink RL 54 yX0_at, Cond.instanceMethod yX0_at, Cond.selects RX0 yX0_at yX0_at, Cond.code yX0_at cX0_at 3 (some .int), Cond.methodLink RX0 137 yX0_turnsAheadOf, Cond.instanceMethod yX0_turnsAheadOf, Cond.selects RX0 yX0_turnsAheadOf yX0_turnsAheadOf, Cond.code yX0_turnsAheadOf cX0_turnsAheadOf 5 (some .int), Cond.methodLink RL 114 yX1_at, Cond.instanceMethod yX1_at, Cond.selects RX1 yX1_at yX1_at, Cond.code yX1_at cX1_at 6 (some .int)]
def wsL_law0_r17 : List Cond := [Cond.methodLink RL 115 yX0_advise, Cond.instanceMethod yX0_advise, Cond.selects RX0 yX0_advise yX0_advise, Cond.code yX0_advise cX0_advise 5 (some .int), Cond.methodLink RL 118 yX1_advise, Cond.instanceMethod yX1_advise, Cond.selects RX1 yX1_advise yX1_advise, Cond.code yX1_advise cX1_advise 6 (some .int), Cond.constant RX1 109 (2147483647), Cond.methodLink RL 119 yX0_mean, Cond.instanceMethod yX0_mean, Cond.selects RX0 yX0_mean yX0_mean, Cond.code yX0_mean cX0_mean 3 (some .double), Cond.methodLink RL 123 yX1_mean, Cond.instanceMethod yX1_mean, Cond.selects RX1 yX1_mean yX1_mean, Cond.code yX1_mean cX1_mean 4 (some .double), Cond.methodLink RL 124 yX0_digest, Cond.instanceMethod yX0_digest, Cond.selects RX0 yX0_digest yX0_digest, Cond.code yX0_digest cX0_digest 5 (some .long), Cond.constantLong RX0 144 (1553), Cond.constantLong RX0 146 (31), Cond.methodLink RX0 148 yX0_count]
def wsL_law0_r18 : List Cond := [Cond.methodLink RX0 151 yX0_about, Cond.methodLink RX0 154 yX0_told, Cond.methodLink RX0 157 yX0_digestBounds, Cond.instanceMethod yX0_digestBounds, Cond.selects RX0 yX0_digestBounds yX0_digestBounds, Cond.code yX0_digestBounds cX0_digestBounds 7 (some .long), Cond.methodLink RL 128 yX1_digest, Cond.instanceMethod yX1_digest, Cond.selects RX1 yX1_digest yX1_digest, Cond.code yX1_digest cX1_digest 7 (some .long), Cond.constantLong RX1 110 (1553), Cond.constantLong RX1 112 (31)]
def wsL_law0 : List Cond := (wsL_law0_r1 ++ (wsL_law0_r2 ++ (wsL_law0_r3 ++ (wsL_law0_r4 ++ (wsL_law0_r5 ++ (wsL_law0_r6 ++ (wsL_law0_r7 ++ (wsL_law0_r8 ++ (wsL_law0_r9 ++ (wsL_law0_r10 ++ (wsL_law0_r11 ++ (wsL_law0_r12 ++ (wsL_law0_r13 ++ (wsL_law0_r14 ++ (wsL_law0_r15 ++ (wsL_law0_r16 ++ (wsL_law0_r17 ++ wsL_law0_r18))))))))))))))))) ++ wsX00 ++ wsX10 ++ ([] : List Cond)
def wsL_law : List Cond := wsL_law0 ++ (vx_atS RX0 49 "java/lang/IllegalStateException" ["java/lang/RuntimeException", "java/lang/Exception"]).filter goodWord ++ (vx_atS RX0 136 "java/lang/IndexOutOfBoundsException" ["java/lang/RuntimeException", "java/lang/Exception"]).filter goodWord ++ (vx_atS RX0 111 "java/lang/IllegalArgumentException" ["java/lang/RuntimeException", "java/lang/Exception"]).filter goodWord
set_option maxRecDepth 20000 in
theorem wsL_law_ir1 : ∀ w ∈ wsL_law0_r1, w ∈ lw_tbl := fun w h => (goodIn_p wsL_law0_r1 [56, 59] (by decide +kernel) (by decide +kernel) w h).1
set_option maxRecDepth 20000 in
theorem wsL_law_ir2 : ∀ w ∈ wsL_law0_r2, w ∈ lw_tbl := fun w h => (goodIn_p wsL_law0_r2 [63, 67, 71, 75, 79] (by decide +kernel) (by decide +kernel) w h).1
set_option maxRecDepth 20000 in
theorem wsL_law_ir3 : ∀ w ∈ wsL_law0_r3, w ∈ lw_tbl := fun w h => (goodIn_p wsL_law0_r3 [83, 88, 91, 95, 99, 436] (by decide +kernel) (by decide +kernel) w h).1
set_option maxRecDepth 20000 in
theorem wsL_law_ir4 : ∀ w ∈ wsL_law0_r4, w ∈ lw_tbl := fun w h => (goodIn_p wsL_law0_r4 [308, 458, 462] (by decide +kernel) (by decide +kernel) w h).1
set_option maxRecDepth 20000 in
theorem wsL_law_ir5 : ∀ w ∈ wsL_law0_r5, w ∈ lw_tbl := fun w h => (goodIn_p wsL_law0_r5 [454, 333, 282, 336] (by decide +kernel) (by decide +kernel) w h).1
set_option maxRecDepth 20000 in
theorem wsL_law_ir6 : ∀ w ∈ wsL_law0_r6, w ∈ lw_tbl := fun w h => (goodIn_p wsL_law0_r6 [355, 466, 470, 473, 476] (by decide +kernel) (by decide +kernel) w h).1
set_option maxRecDepth 20000 in
theorem wsL_law_ir7 : ∀ w ∈ wsL_law0_r7, w ∈ lw_tbl := fun w h => (goodIn_p wsL_law0_r7 [364, 295, 483, 487, 491] (by decide +kernel) (by decide +kernel) w h).1
set_option maxRecDepth 20000 in
theorem wsL_law_ir8 : ∀ w ∈ wsL_law0_r8, w ∈ lw_tbl := fun w h => (goodIn_p wsL_law0_r8 [371, 495, 499, 142, 146, 150] (by decide +kernel) (by decide +kernel) w h).1
set_option maxRecDepth 20000 in
theorem wsL_law_ir9 : ∀ w ∈ wsL_law0_r9, w ∈ lw_tbl := fun w h => (goodIn_p wsL_law0_r9 [153, 503, 507, 511, 515, 519] (by decide +kernel) (by decide +kernel) w h).1
set_option maxRecDepth 20000 in
theorem wsL_law_ir10 : ∀ w ∈ wsL_law0_r10, w ∈ lw_tbl := fun w h => (goodIn_p wsL_law0_r10 [523, 291, 182, 262, 532] (by decide +kernel) (by decide +kernel) w h).1
set_option maxRecDepth 20000 in
theorem wsL_law_ir11 : ∀ w ∈ wsL_law0_r11, w ∈ lw_tbl := fun w h => (goodIn_p wsL_law0_r11 [536, 540, 278, 287, 544] (by decide +kernel) (by decide +kernel) w h).1
set_option maxRecDepth 20000 in
theorem wsL_law_ir12 : ∀ w ∈ wsL_law0_r12, w ∈ lw_tbl := fun w h => (goodIn_p wsL_law0_r12 [548, 179, 254, 165, 258] (by decide +kernel) (by decide +kernel) w h).1
set_option maxRecDepth 20000 in
theorem wsL_law_ir13 : ∀ w ∈ wsL_law0_r13, w ∈ lw_tbl := fun w h => (goodIn_p wsL_law0_r13 [266, 270, 274, 552, 556, 560] (by decide +kernel) (by decide +kernel) w h).1
set_option maxRecDepth 20000 in
theorem wsL_law_ir14 : ∀ w ∈ wsL_law0_r14, w ∈ lw_tbl := fun w h => (goodIn_p wsL_law0_r14 [564, 157, 568, 390, 395, 572] (by decide +kernel) (by decide +kernel) w h).1
set_option maxRecDepth 20000 in
theorem wsL_law_ir15 : ∀ w ∈ wsL_law0_r15, w ∈ lw_tbl := fun w h => (goodIn_p wsL_law0_r15 [404, 576, 411, 580] (by decide +kernel) (by decide +kernel) w h).1
set_option maxRecDepth 20000 in
theorem wsL_law_ir16 : ∀ w ∈ wsL_law0_r16, w ∈ lw_tbl := fun w h => (goodIn_p wsL_law0_r16 [419, 584, 426, 431, 588] (by decide +kernel) (by decide +kernel) w h).1
set_option maxRecDepth 20000 in
theorem wsL_law_ir17 : ∀ w ∈ wsL_law0_r17, w ∈ lw_tbl := fun w h => (goodIn_p wsL_law0_r17 [161, 592, 169, 597, 173] (by decide +kernel) (by decide +kernel) w h).1
set_option maxRecDepth 20000 in
theorem wsL_law_ir18 : ∀ w ∈ wsL_law0_r18, w ∈ lw_tbl := fun w h => (goodIn_p wsL_law0_r18 [300, 601] (by decide +kernel) (by decide +kernel) w h).1
theorem wsL_law_ix0 : ∀ w ∈ wsX00, w ∈ lw_tbl := by decide +kernel
theorem wsL_law_ix1 : ∀ w ∈ wsX10, w ∈ lw_tbl := by decide +kernel
theorem wsL_law_in0 : ∀ w ∈ wsL_law0, w ∈ lw_tbl := fun w h => (List.mem_append.mp h).elim (fun h => (List.mem_append.mp h).elim (fun h => (List.mem_append.mp h).elim (fun h => (List.mem_append.mp h).elim (fun h => wsL_law_ir1 w h) (fun h => (List.mem_append.mp h).elim (fun h => wsL_law_ir2 w h) (fun h => (List.mem_append.mp h).elim (fun h => wsL_law_ir3 w h) (fun h => (List.mem_append.mp h).elim (fun h => wsL_law_ir4 w h) (fun h => (List.mem_append.mp h).elim (fun h => wsL_law_ir5 w h) (fun h => (List.mem_append.mp h).elim (fun h => wsL_law_ir6 w h) (fun h => (List.mem_append.mp h).elim (fun h => wsL_law_ir7 w h) (fun h => (List.mem_append.mp h).elim (fun h => wsL_law_ir8 w h) (fun h => (List.mem_append.mp h).elim (fun h => wsL_law_ir9 w h) (fun h => (List.mem_append.mp h).elim (fun h => wsL_law_ir10 w h) (fun h => (List.mem_append.mp h).elim (fun h => wsL_law_ir11 w h) (fun h => (List.mem_append.mp h).elim (fun h => wsL_law_ir12 w h) (fun h => (List.mem_append.mp h).elim (fun h => wsL_law_ir13 w h) (fun h => (List.mem_append.mp h).elim (fun h => wsL_law_ir14 w h) (fun h => (List.mem_append.mp h).elim (fun h => wsL_law_ir15 w h) (fun h => (List.mem_append.mp h).elim (fun h => wsL_law_ir16 w h) (fun h => (List.mem_append.mp h).elim (fun h => wsL_law_ir17 w h) (fun h => wsL_law_ir18 w h)))))))))))))))))) (fun h => wsL_law_ix0 w h)) (fun h => wsL_law_ix1 w h)) (fun h => absurd h List.not_mem_nil)
theorem wsL_law_x0 : ∀ w ∈ (vx_atS RX0 49 "java/lang/IllegalStateException" ["java/lang/RuntimeException", "java/lang/Exception"]).filter goodWord, w ∈ lw_tbl := by decide +kernel
theorem wsL_law_x1 : ∀ w ∈ (vx_atS RX0 136 "java/lang/IndexOutOfBoundsException" ["java/lang/RuntimeException", "java/lang/Exception"]).filter goodWord, w ∈ lw_tbl := by decide +kernel
theorem wsL_law_x2 : ∀ w ∈ (vx_atS RX0 111 "java/lang/IllegalArgumentException" ["java/lang/RuntimeException", "java/lang/Exception"]).filter goodWord, w ∈ lw_tbl := by decide +kernel
theorem wsL_law_in : ∀ w ∈ wsL_law, w ∈ lw_tbl := fun w h => (List.mem_append.mp h).elim (fun h => (List.mem_append.mp h).elim (fun h => (List.mem_append.mp h).elim (fun h => wsL_law_in0 w h) (fun h => wsL_law_x0 w h)) (fun h => wsL_law_x1 w h)) (fun h => wsL_law_x2 w h)
theorem inlX0 : ∀ w ∈ wsX00, w ∈ wsL_law := fun _ h => List.mem_append_left _ (List.mem_append_left _ (List.mem_append_left _ (List.mem_append_left _ (List.mem_append_left _ (List.mem_append_right _ h)))))
theorem inX0 : ∀ w ∈ wsX00, w ∈ lw_tbl := fun w h => wsL_law_in w (inlX0 w h)
theorem inlX1 : ∀ w ∈ wsX10, w ∈ wsL_law := fun _ h => List.mem_append_left _ (List.mem_append_left _ (List.mem_append_left _ (List.mem_append_left _ (List.mem_append_right _ h))))
theorem inX1 : ∀ w ∈ wsX10, w ∈ lw_tbl := fun w h => wsL_law_in w (inlX1 w h)
theorem inJ9 : ∀ w ∈ wsJ90, w ∈ lw_tbl := by decide +kernel
theorem inJ0 : ∀ w ∈ wsJ00, w ∈ lw_tbl := by decide +kernel
theorem inJ10 : ∀ w ∈ wsJ100, w ∈ lw_tbl := by decide +kernel
end
section
set_option maxRecDepth 20000 in
theorem ggX0_init_X0_settle : GoodIn wsX0_init wsX0_settle := goodIn_r _ [19, 10, 20, 21, 22, 23, 18, 24, 25, 26, 27, 28, 29, 30, 9, 6, 7, 5, 31, 32, 33, 34, 35, 36, 37, 38, 39, 40, 41, 42, 43, 11, 44, 45, 46, 47, 48, 49, 50, 51, 52, 53, 54, 55, 56, 57, 58, 59, 60, 61, 62, 63, 64, 65, 66, 67, 68, 69, 70, 71] (by decide +kernel) (by decide +kernel)
set_option maxRecDepth 20000 in
theorem gX0_init_X0_settle : GoodIn wsX0_init (wsV RX0 38 RX0 yX0_settle wsX0_settle) := goodIn_app (goodIn_of _ (by decide +kernel)) ggX0_init_X0_settle
theorem dX0_init_0 : decode cX0_init 0 = .ok (.aload_n 0, 1) := by decide +kernel
theorem dX0_init_1 : decode cX0_init 1 = .ok (.invokespecial 1, 3) := by decide +kernel
theorem dX0_init_4 : decode cX0_init 4 = .ok (.aload_n 0, 1) := by decide +kernel
theorem dX0_init_5 : decode cX0_init 5 = .ok (.bipush 30, 2) := by decide +kernel
theorem dX0_init_7 : decode cX0_init 7 = .ok (.newarray .int, 2) := by decide +kernel
theorem dX0_init_9 : decode cX0_init 9 = .ok (.putfield 9, 3) := by decide +kernel
theorem dX0_init_12 : decode cX0_init 12 = .ok (.aload_n 0, 1) := by decide +kernel
theorem dX0_init_13 : decode cX0_init 13 = .ok (.bipush 30, 2) := by decide +kernel
theorem dX0_init_15 : decode cX0_init 15 = .ok (.newarray .int, 2) := by decide +kernel
theorem dX0_init_17 : decode cX0_init 17 = .ok (.putfield 13, 3) := by decide +kernel
theorem dX0_init_20 : decode cX0_init 20 = .ok (.aload_n 0, 1) := by decide +kernel
theorem dX0_init_21 : decode cX0_init 21 = .ok (.bipush 30, 2) := by decide +kernel
theorem dX0_init_23 : decode cX0_init 23 = .ok (.newarray .int, 2) := by decide +kernel
theorem dX0_init_25 : decode cX0_init 25 = .ok (.putfield 16, 3) := by decide +kernel
theorem dX0_init_28 : decode cX0_init 28 = .ok (.aload_n 0, 1) := by decide +kernel
theorem dX0_init_29 : decode cX0_init 29 = .ok (.bipush 30, 2) := by decide +kernel
theorem dX0_init_31 : decode cX0_init 31 = .ok (.newarray .boolean, 2) := by decide +kernel
theorem dX0_init_33 : decode cX0_init 33 = .ok (.putfield 19, 3) := by decide +kernel
theorem dX0_init_36 : decode cX0_init 36 = .ok (.aload_n 0, 1) := by decide +kernel
theorem dX0_init_37 : decode cX0_init 37 = .ok (.bipush 12, 2) := by decide +kernel
theorem dX0_init_39 : decode cX0_init 39 = .ok (.newarray .int, 2) := by decide +kernel
theorem dX0_init_41 : decode cX0_init 41 = .ok (.putfield 23, 3) := by decide +kernel
theorem dX0_init_44 : decode cX0_init 44 = .ok (.aload_n 0, 1) := by decide +kernel
theorem dX0_init_45 : decode cX0_init 45 = .ok (.sipush 144, 3) := by decide +kernel
theorem dX0_init_48 : decode cX0_init 48 = .ok (.newarray .int, 2) := by decide +kernel
theorem dX0_init_50 : decode cX0_init 50 = .ok (.putfield 26, 3) := by decide +kernel
theorem dX0_init_53 : decode cX0_init 53 = .ok (.aload_n 0, 1) := by decide +kernel
theorem dX0_init_54 : decode cX0_init 54 = .ok (.bipush 12, 2) := by decide +kernel
theorem dX0_init_56 : decode cX0_init 56 = .ok (.newarray .int, 2) := by decide +kernel
theorem dX0_init_58 : decode cX0_init 58 = .ok (.putfield 29, 3) := by decide +kernel
theorem dX0_init_61 : decode cX0_init 61 = .ok (.aload_n 0, 1) := by decide +kernel
theorem dX0_init_62 : decode cX0_init 62 = .ok (.bipush 12, 2) := by decide +kernel
theorem dX0_init_64 : decode cX0_init 64 = .ok (.newarray .int, 2) := by decide +kernel
theorem dX0_init_66 : decode cX0_init 66 = .ok (.putfield 32, 3) := by decide +kernel
theorem dX0_init_69 : decode cX0_init 69 = .ok (.aload_n 0, 1) := by decide +kernel
theorem dX0_init_70 : decode cX0_init 70 = .ok (.bipush 12, 2) := by decide +kernel
theorem dX0_init_72 : decode cX0_init 72 = .ok (.newarray .int, 2) := by decide +kernel
theorem dX0_init_74 : decode cX0_init 74 = .ok (.putfield 35, 3) := by decide +kernel
theorem dX0_init_77 : decode cX0_init 77 = .ok (.aload_n 0, 1) := by decide +kernel
theorem dX0_init_78 : decode cX0_init 78 = .ok (.invokevirtual 38, 3) := by decide +kernel
theorem dX0_init_81 : decode cX0_init 81 = .ok (.return_, 1) := by decide +kernel
set_option maxRecDepth 20000 in
theorem ggX0_turn_X0_settle : GoodIn wsX0_turn wsX0_settle := goodIn_r _ [8, 9, 10, 11, 12, 13, 7, 14, 3, 15, 16, 17, 18, 19, 20, 21, 22, 23, 24, 25, 26, 27, 28, 29, 30, 31, 32, 33, 34, 35, 36, 37, 38, 39, 40, 41, 42, 43, 44, 45, 46, 47, 48, 49, 50, 51, 52, 53, 54, 55, 56, 57, 58, 59, 60, 61, 62, 63, 64, 65] (by decide +kernel) (by decide +kernel)
set_option maxRecDepth 20000 in
theorem gX0_turn_X0_settle : GoodIn wsX0_turn (wsV RX0 38 RX0 yX0_settle wsX0_settle) := goodIn_app (goodIn_of _ (by decide +kernel)) ggX0_turn_X0_settle
theorem dX0_turn_0 : decode cX0_turn 0 = .ok (.aload_n 0, 1) := by decide +kernel
theorem dX0_turn_1 : decode cX0_turn 1 = .ok (.getfield 41, 3) := by decide +kernel
theorem dX0_turn_4 : decode cX0_turn 4 = .ok (.bipush 12, 2) := by decide +kernel
theorem dX0_turn_6 : decode cX0_turn 6 = .ok (.if_icmp .lt 13, 3) := by decide +kernel
theorem dX0_turn_9 : decode cX0_turn 9 = .ok (.new 45, 3) := by decide +kernel
theorem dX0_turn_12 : decode cX0_turn 12 = .ok (.dup, 1) := by decide +kernel
theorem dX0_turn_13 : decode cX0_turn 13 = .ok (.ldc 47, 2) := by decide +kernel
theorem dX0_turn_15 : decode cX0_turn 15 = .ok (.invokespecial 49, 3) := by decide +kernel
theorem dX0_turn_18 : decode cX0_turn 18 = .ok (.athrow, 1) := by decide +kernel
theorem dX0_turn_19 : decode cX0_turn 19 = .ok (.aload_n 0, 1) := by decide +kernel
theorem dX0_turn_20 : decode cX0_turn 20 = .ok (.getfield 41, 3) := by decide +kernel
theorem dX0_turn_23 : decode cX0_turn 23 = .ok (.istore_n 1, 1) := by decide +kernel
theorem dX0_turn_24 : decode cX0_turn 24 = .ok (.aload_n 0, 1) := by decide +kernel
theorem dX0_turn_25 : decode cX0_turn 25 = .ok (.dup, 1) := by decide +kernel
theorem dX0_turn_26 : decode cX0_turn 26 = .ok (.getfield 41, 3) := by decide +kernel
theorem dX0_turn_29 : decode cX0_turn 29 = .ok (.iconst 1, 1) := by decide +kernel
theorem dX0_turn_30 : decode cX0_turn 30 = .ok (.iadd, 1) := by decide +kernel
theorem dX0_turn_31 : decode cX0_turn 31 = .ok (.putfield 41, 3) := by decide +kernel
theorem dX0_turn_34 : decode cX0_turn 34 = .ok (.aload_n 0, 1) := by decide +kernel
theorem dX0_turn_35 : decode cX0_turn 35 = .ok (.invokevirtual 38, 3) := by decide +kernel
theorem dX0_turn_38 : decode cX0_turn 38 = .ok (.iload_n 1, 1) := by decide +kernel
theorem dX0_turn_39 : decode cX0_turn 39 = .ok (.ireturn, 1) := by decide +kernel
set_option maxRecDepth 20000 in
theorem ggX0_tie_X0_checkTurn : GoodIn wsX0_tie wsX0_checkTurn := goodIn_ca (goodIn_r _ [12, 13, 14, 15, 68, 69, 70, 71, 72, 73, 74, 75, 76, 77, 78, 79] (by decide +kernel) (by decide +kernel)) (goodIn_sub (fun _ h => List.mem_cons_of_mem _ (List.mem_append_left _ (List.mem_append_right _ h))) (by decide +kernel))
set_option maxRecDepth 20000 in
theorem gX0_tie_X0_checkTurn : GoodIn wsX0_tie (wsV RX0 52 RX0 yX0_checkTurn wsX0_checkTurn) := goodIn_app (goodIn_of _ (by decide +kernel)) ggX0_tie_X0_checkTurn
set_option maxRecDepth 20000 in
theorem ggX0_tie_X0_checkTwoTurns : GoodIn wsX0_tie wsX0_checkTwoTurns := goodIn_ca (goodIn_r _ [18, 19, 20] (by decide +kernel) (by decide +kernel)) (goodIn_sub (fun _ h => List.mem_cons_of_mem _ (List.mem_append_right _ h)) (by decide +kernel))
set_option maxRecDepth 20000 in
theorem gX0_tie_X0_checkTwoTurns : GoodIn wsX0_tie (va_wsS RX0 56 yX0_checkTwoTurns wsX0_checkTwoTurns) := goodIn_app (goodIn_of _ (by decide +kernel)) ggX0_tie_X0_checkTwoTurns
set_option maxRecDepth 20000 in
theorem ggX0_tie_X0_checkLength : GoodIn wsX0_tie wsX0_checkLength := goodIn_ca (goodIn_r _ [23, 19, 20] (by decide +kernel) (by decide +kernel)) (goodIn_sub (fun _ h => List.mem_cons_of_mem _ (List.mem_append_right _ h)) (by decide +kernel))
set_option maxRecDepth 20000 in
theorem gX0_tie_X0_checkLength : GoodIn wsX0_tie (va_wsS RX0 60 yX0_checkLength wsX0_checkLength) := goodIn_app (goodIn_of _ (by decide +kernel)) ggX0_tie_X0_checkLength
set_option maxRecDepth 20000 in
theorem ggX0_tie_X0_settle : GoodIn wsX0_tie wsX0_settle := goodIn_r _ [27, 28, 29, 30, 31, 32, 11, 33, 15, 34, 35, 36, 37, 3, 7, 5, 6, 4, 38, 39, 40, 41, 42, 43, 44, 45, 46, 47, 48, 49, 50, 51, 52, 53, 54, 55, 56, 57, 58, 59, 60, 61, 62, 63, 64, 65, 66, 67, 68, 69, 70, 71, 72, 73, 74, 75, 76, 77, 78, 79] (by decide +kernel) (by decide +kernel)
set_option maxRecDepth 20000 in
theorem gX0_tie_X0_settle : GoodIn wsX0_tie (wsV RX0 38 RX0 yX0_settle wsX0_settle) := goodIn_app (goodIn_of _ (by decide +kernel)) ggX0_tie_X0_settle
theorem dX0_tie_0 : decode cX0_tie 0 = .ok (.aload_n 0, 1) := by decide +kernel
theorem dX0_tie_1 : decode cX0_tie 1 = .ok (.iload_n 1, 1) := by decide +kernel
theorem dX0_tie_2 : decode cX0_tie 2 = .ok (.invokevirtual 52, 3) := by decide +kernel
theorem dX0_tie_5 : decode cX0_tie 5 = .ok (.aload_n 0, 1) := by decide +kernel
theorem dX0_tie_6 : decode cX0_tie 6 = .ok (.iload_n 2, 1) := by decide +kernel
theorem dX0_tie_7 : decode cX0_tie 7 = .ok (.invokevirtual 52, 3) := by decide +kernel
theorem dX0_tie_10 : decode cX0_tie 10 = .ok (.iload_n 1, 1) := by decide +kernel
theorem dX0_tie_11 : decode cX0_tie 11 = .ok (.iload_n 2, 1) := by decide +kernel
theorem dX0_tie_12 : decode cX0_tie 12 = .ok (.invokestatic 56, 3) := by decide +kernel
theorem dX0_tie_15 : decode cX0_tie 15 = .ok (.iload_n 3, 1) := by decide +kernel
theorem dX0_tie_16 : decode cX0_tie 16 = .ok (.invokestatic 60, 3) := by decide +kernel
theorem dX0_tie_19 : decode cX0_tie 19 = .ok (.aload_n 0, 1) := by decide +kernel
theorem dX0_tie_20 : decode cX0_tie 20 = .ok (.getfield 63, 3) := by decide +kernel
theorem dX0_tie_23 : decode cX0_tie 23 = .ok (.bipush 30, 2) := by decide +kernel
theorem dX0_tie_25 : decode cX0_tie 25 = .ok (.if_icmp .lt 13, 3) := by decide +kernel
theorem dX0_tie_28 : decode cX0_tie 28 = .ok (.new 45, 3) := by decide +kernel
theorem dX0_tie_31 : decode cX0_tie 31 = .ok (.dup, 1) := by decide +kernel
theorem dX0_tie_32 : decode cX0_tie 32 = .ok (.ldc 66, 2) := by decide +kernel
theorem dX0_tie_34 : decode cX0_tie 34 = .ok (.invokespecial 49, 3) := by decide +kernel
theorem dX0_tie_37 : decode cX0_tie 37 = .ok (.athrow, 1) := by decide +kernel
theorem dX0_tie_38 : decode cX0_tie 38 = .ok (.aload_n 0, 1) := by decide +kernel
theorem dX0_tie_39 : decode cX0_tie 39 = .ok (.getfield 63, 3) := by decide +kernel
theorem dX0_tie_42 : decode cX0_tie 42 = .ok (.istore 4, 2) := by decide +kernel
theorem dX0_tie_44 : decode cX0_tie 44 = .ok (.aload_n 0, 1) := by decide +kernel
theorem dX0_tie_45 : decode cX0_tie 45 = .ok (.getfield 9, 3) := by decide +kernel
theorem dX0_tie_48 : decode cX0_tie 48 = .ok (.iload 4, 2) := by decide +kernel
theorem dX0_tie_50 : decode cX0_tie 50 = .ok (.iload_n 1, 1) := by decide +kernel
theorem dX0_tie_51 : decode cX0_tie 51 = .ok (.iastore, 1) := by decide +kernel
theorem dX0_tie_52 : decode cX0_tie 52 = .ok (.aload_n 0, 1) := by decide +kernel
theorem dX0_tie_53 : decode cX0_tie 53 = .ok (.getfield 13, 3) := by decide +kernel
theorem dX0_tie_56 : decode cX0_tie 56 = .ok (.iload 4, 2) := by decide +kernel
theorem dX0_tie_58 : decode cX0_tie 58 = .ok (.iload_n 2, 1) := by decide +kernel
theorem dX0_tie_59 : decode cX0_tie 59 = .ok (.iastore, 1) := by decide +kernel
theorem dX0_tie_60 : decode cX0_tie 60 = .ok (.aload_n 0, 1) := by decide +kernel
theorem dX0_tie_61 : decode cX0_tie 61 = .ok (.getfield 16, 3) := by decide +kernel
theorem dX0_tie_64 : decode cX0_tie 64 = .ok (.iload 4, 2) := by decide +kernel
theorem dX0_tie_66 : decode cX0_tie 66 = .ok (.iload_n 3, 1) := by decide +kernel
theorem dX0_tie_67 : decode cX0_tie 67 = .ok (.iastore, 1) := by decide +kernel
theorem dX0_tie_68 : decode cX0_tie 68 = .ok (.aload_n 0, 1) := by decide +kernel
theorem dX0_tie_69 : decode cX0_tie 69 = .ok (.getfield 19, 3) := by decide +kernel
theorem dX0_tie_72 : decode cX0_tie 72 = .ok (.iload 4, 2) := by decide +kernel
theorem dX0_tie_74 : decode cX0_tie 74 = .ok (.iconst 1, 1) := by decide +kernel
theorem dX0_tie_75 : decode cX0_tie 75 = .ok (.bastore, 1) := by decide +kernel
theorem dX0_tie_76 : decode cX0_tie 76 = .ok (.aload_n 0, 1) := by decide +kernel
theorem dX0_tie_77 : decode cX0_tie 77 = .ok (.dup, 1) := by decide +kernel
theorem dX0_tie_78 : decode cX0_tie 78 = .ok (.getfield 63, 3) := by decide +kernel
theorem dX0_tie_81 : decode cX0_tie 81 = .ok (.iconst 1, 1) := by decide +kernel
theorem dX0_tie_82 : decode cX0_tie 82 = .ok (.iadd, 1) := by decide +kernel
theorem dX0_tie_83 : decode cX0_tie 83 = .ok (.putfield 63, 3) := by decide +kernel
theorem dX0_tie_86 : decode cX0_tie 86 = .ok (.aload_n 0, 1) := by decide +kernel
theorem dX0_tie_87 : decode cX0_tie 87 = .ok (.invokevirtual 38, 3) := by decide +kernel
theorem dX0_tie_90 : decode cX0_tie 90 = .ok (.iload 4, 2) := by decide +kernel
theorem dX0_tie_92 : decode cX0_tie 92 = .ok (.ireturn, 1) := by decide +kernel
set_option maxRecDepth 20000 in
theorem ggX0_cut_X0_checkRope : GoodIn wsX0_cut wsX0_checkRope := goodIn_ca (goodIn_r _ [6, 7, 8, 9, 63, 64, 65, 66, 67, 68, 69, 70, 71, 72, 73, 74] (by decide +kernel) (by decide +kernel)) (goodIn_sub (fun _ h => List.mem_cons_of_mem _ (List.mem_append_left _ (List.mem_append_right _ h))) (by decide +kernel))
set_option maxRecDepth 20000 in
theorem gX0_cut_X0_checkRope : GoodIn wsX0_cut (wsV RX0 68 RX0 yX0_checkRope wsX0_checkRope) := goodIn_app (goodIn_of _ (by decide +kernel)) ggX0_cut_X0_checkRope
set_option maxRecDepth 20000 in
theorem ggX0_cut_X0_checkLength : GoodIn wsX0_cut wsX0_checkLength := goodIn_ca (goodIn_r _ [12, 13, 14] (by decide +kernel) (by decide +kernel)) (goodIn_sub (fun _ h => List.mem_cons_of_mem _ (List.mem_append_right _ h)) (by decide +kernel))
set_option maxRecDepth 20000 in
theorem gX0_cut_X0_checkLength : GoodIn wsX0_cut (va_wsS RX0 60 yX0_checkLength wsX0_checkLength) := goodIn_app (goodIn_of _ (by decide +kernel)) ggX0_cut_X0_checkLength
set_option maxRecDepth 20000 in
theorem ggX0_cut_X0_settle : GoodIn wsX0_cut wsX0_settle := goodIn_r _ [18, 19, 20, 21, 22, 23, 5, 24, 25, 26, 27, 28, 29, 9, 30, 31, 1, 32, 33, 34, 35, 36, 37, 38, 39, 40, 41, 42, 43, 44, 45, 46, 47, 48, 49, 50, 51, 52, 53, 54, 55, 56, 57, 58, 59, 60, 61, 62, 63, 64, 65, 66, 67, 68, 69, 70, 71, 72, 73, 74] (by decide +kernel) (by decide +kernel)
set_option maxRecDepth 20000 in
theorem gX0_cut_X0_settle : GoodIn wsX0_cut (wsV RX0 38 RX0 yX0_settle wsX0_settle) := goodIn_app (goodIn_of _ (by decide +kernel)) ggX0_cut_X0_settle
theorem dX0_cut_0 : decode cX0_cut 0 = .ok (.aload_n 0, 1) := by decide +kernel
theorem dX0_cut_1 : decode cX0_cut 1 = .ok (.iload_n 1, 1) := by decide +kernel
theorem dX0_cut_2 : decode cX0_cut 2 = .ok (.invokevirtual 68, 3) := by decide +kernel
theorem dX0_cut_5 : decode cX0_cut 5 = .ok (.iload_n 2, 1) := by decide +kernel
theorem dX0_cut_6 : decode cX0_cut 6 = .ok (.invokestatic 60, 3) := by decide +kernel
theorem dX0_cut_9 : decode cX0_cut 9 = .ok (.aload_n 0, 1) := by decide +kernel
theorem dX0_cut_10 : decode cX0_cut 10 = .ok (.getfield 16, 3) := by decide +kernel
theorem dX0_cut_13 : decode cX0_cut 13 = .ok (.iload_n 1, 1) := by decide +kernel
theorem dX0_cut_14 : decode cX0_cut 14 = .ok (.iaload, 1) := by decide +kernel
theorem dX0_cut_15 : decode cX0_cut 15 = .ok (.istore_n 3, 1) := by decide +kernel
theorem dX0_cut_16 : decode cX0_cut 16 = .ok (.aload_n 0, 1) := by decide +kernel
theorem dX0_cut_17 : decode cX0_cut 17 = .ok (.getfield 16, 3) := by decide +kernel
theorem dX0_cut_20 : decode cX0_cut 20 = .ok (.iload_n 1, 1) := by decide +kernel
theorem dX0_cut_21 : decode cX0_cut 21 = .ok (.iload_n 2, 1) := by decide +kernel
theorem dX0_cut_22 : decode cX0_cut 22 = .ok (.iastore, 1) := by decide +kernel
theorem dX0_cut_23 : decode cX0_cut 23 = .ok (.aload_n 0, 1) := by decide +kernel
theorem dX0_cut_24 : decode cX0_cut 24 = .ok (.invokevirtual 38, 3) := by decide +kernel
theorem dX0_cut_27 : decode cX0_cut 27 = .ok (.iload_n 3, 1) := by decide +kernel
theorem dX0_cut_28 : decode cX0_cut 28 = .ok (.ireturn, 1) := by decide +kernel
set_option maxRecDepth 20000 in
theorem ggX0_knot_X0_checkRope : GoodIn wsX0_knot wsX0_checkRope := goodIn_ca (goodIn_r _ [6, 7, 8, 9, 58, 59, 60, 61, 62, 63, 64, 65, 66, 67, 68, 69] (by decide +kernel) (by decide +kernel)) (goodIn_sub (fun _ h => List.mem_cons_of_mem _ (List.mem_append_right _ h)) (by decide +kernel))
set_option maxRecDepth 20000 in
theorem gX0_knot_X0_checkRope : GoodIn wsX0_knot (wsV RX0 68 RX0 yX0_checkRope wsX0_checkRope) := goodIn_app (goodIn_of _ (by decide +kernel)) ggX0_knot_X0_checkRope
set_option maxRecDepth 20000 in
theorem ggX0_knot_X0_settle : GoodIn wsX0_knot wsX0_settle := goodIn_r _ [13, 14, 15, 16, 17, 18, 5, 19, 20, 21, 22, 23, 24, 9, 1, 25, 26, 27, 28, 29, 30, 31, 32, 33, 34, 35, 36, 37, 38, 39, 40, 41, 42, 43, 44, 45, 46, 47, 48, 49, 50, 51, 52, 53, 54, 55, 56, 57, 58, 59, 60, 61, 62, 63, 64, 65, 66, 67, 68, 69] (by decide +kernel) (by decide +kernel)
set_option maxRecDepth 20000 in
theorem gX0_knot_X0_settle : GoodIn wsX0_knot (wsV RX0 38 RX0 yX0_settle wsX0_settle) := goodIn_app (goodIn_of _ (by decide +kernel)) ggX0_knot_X0_settle
theorem dX0_knot_0 : decode cX0_knot 0 = .ok (.aload_n 0, 1) := by decide +kernel
theorem dX0_knot_1 : decode cX0_knot 1 = .ok (.iload_n 1, 1) := by decide +kernel
theorem dX0_knot_2 : decode cX0_knot 2 = .ok (.invokevirtual 68, 3) := by decide +kernel
theorem dX0_knot_5 : decode cX0_knot 5 = .ok (.aload_n 0, 1) := by decide +kernel
theorem dX0_knot_6 : decode cX0_knot 6 = .ok (.getfield 19, 3) := by decide +kernel
theorem dX0_knot_9 : decode cX0_knot 9 = .ok (.iload_n 1, 1) := by decide +kernel
theorem dX0_knot_10 : decode cX0_knot 10 = .ok (.aload_n 0, 1) := by decide +kernel
theorem dX0_knot_11 : decode cX0_knot 11 = .ok (.getfield 19, 3) := by decide +kernel
theorem dX0_knot_14 : decode cX0_knot 14 = .ok (.iload_n 1, 1) := by decide +kernel
theorem dX0_knot_15 : decode cX0_knot 15 = .ok (.baload, 1) := by decide +kernel
theorem dX0_knot_16 : decode cX0_knot 16 = .ok (.ifCond .ne 7, 3) := by decide +kernel
theorem dX0_knot_19 : decode cX0_knot 19 = .ok (.iconst 1, 1) := by decide +kernel
theorem dX0_knot_20 : decode cX0_knot 20 = .ok (.goto 4, 3) := by decide +kernel
theorem dX0_knot_23 : decode cX0_knot 23 = .ok (.iconst 0, 1) := by decide +kernel
theorem dX0_knot_24 : decode cX0_knot 24 = .ok (.bastore, 1) := by decide +kernel
theorem dX0_knot_25 : decode cX0_knot 25 = .ok (.aload_n 0, 1) := by decide +kernel
theorem dX0_knot_26 : decode cX0_knot 26 = .ok (.invokevirtual 38, 3) := by decide +kernel
theorem dX0_knot_29 : decode cX0_knot 29 = .ok (.aload_n 0, 1) := by decide +kernel
theorem dX0_knot_30 : decode cX0_knot 30 = .ok (.getfield 19, 3) := by decide +kernel
theorem dX0_knot_33 : decode cX0_knot 33 = .ok (.iload_n 1, 1) := by decide +kernel
theorem dX0_knot_34 : decode cX0_knot 34 = .ok (.baload, 1) := by decide +kernel
theorem dX0_knot_35 : decode cX0_knot 35 = .ok (.ireturn, 1) := by decide +kernel
set_option maxRecDepth 20000 in
theorem ggX0_tighten_X0_isPossible : GoodIn wsX0_tighten wsX0_isPossible := goodIn_r _ [7, 8, 63, 64, 65, 66, 67, 68, 69, 70, 71, 72, 73, 74] (by decide +kernel) (by decide +kernel)
set_option maxRecDepth 20000 in
theorem gX0_tighten_X0_isPossible : GoodIn wsX0_tighten (wsV RX0 71 RX0 yX0_isPossible wsX0_isPossible) := goodIn_app (goodIn_of _ (by decide +kernel)) ggX0_tighten_X0_isPossible
set_option maxRecDepth 20000 in
theorem ggX0_tighten_X0_tightenOne : GoodIn wsX0_tighten wsX0_tightenOne := goodIn_r _ [12, 13, 14, 15, 16, 17, 18, 6, 19, 20, 21, 22, 23, 24, 25, 26, 27, 28, 29, 30, 31, 32, 33, 34, 8, 35, 36, 37, 38, 39, 40, 41, 42, 43, 1, 2, 3, 4, 5, 7, 44, 45, 46, 47, 48, 49, 50, 51, 52, 53, 54, 55, 56, 57, 58, 59, 60, 61, 62, 63, 64, 65, 66, 67, 68, 69, 70, 71, 72, 73, 74] (by decide +kernel) (by decide +kernel)
set_option maxRecDepth 20000 in
theorem gX0_tighten_X0_tightenOne : GoodIn wsX0_tighten (wsV RX0 75 RX0 yX0_tightenOne wsX0_tightenOne) := goodIn_app (goodIn_of _ (by decide +kernel)) ggX0_tighten_X0_tightenOne
theorem dX0_tighten_0 : decode cX0_tighten 0 = .ok (.aload_n 0, 1) := by decide +kernel
theorem dX0_tighten_1 : decode cX0_tighten 1 = .ok (.invokevirtual 71, 3) := by decide +kernel
theorem dX0_tighten_4 : decode cX0_tighten 4 = .ok (.ifCond .ne 5, 3) := by decide +kernel
theorem dX0_tighten_7 : decode cX0_tighten 7 = .ok (.iconst 0, 1) := by decide +kernel
theorem dX0_tighten_8 : decode cX0_tighten 8 = .ok (.ireturn, 1) := by decide +kernel
theorem dX0_tighten_9 : decode cX0_tighten 9 = .ok (.iconst 0, 1) := by decide +kernel
theorem dX0_tighten_10 : decode cX0_tighten 10 = .ok (.istore_n 1, 1) := by decide +kernel
theorem dX0_tighten_11 : decode cX0_tighten 11 = .ok (.iconst 0, 1) := by decide +kernel
theorem dX0_tighten_12 : decode cX0_tighten 12 = .ok (.istore_n 2, 1) := by decide +kernel
theorem dX0_tighten_13 : decode cX0_tighten 13 = .ok (.iload_n 2, 1) := by decide +kernel
theorem dX0_tighten_14 : decode cX0_tighten 14 = .ok (.aload_n 0, 1) := by decide +kernel
theorem dX0_tighten_15 : decode cX0_tighten 15 = .ok (.getfield 63, 3) := by decide +kernel
theorem dX0_tighten_18 : decode cX0_tighten 18 = .ok (.if_icmp .ge 26, 3) := by decide +kernel
theorem dX0_tighten_21 : decode cX0_tighten 21 = .ok (.aload_n 0, 1) := by decide +kernel
theorem dX0_tighten_22 : decode cX0_tighten 22 = .ok (.getfield 19, 3) := by decide +kernel
theorem dX0_tighten_25 : decode cX0_tighten 25 = .ok (.iload_n 2, 1) := by decide +kernel
theorem dX0_tighten_26 : decode cX0_tighten 26 = .ok (.baload, 1) := by decide +kernel
theorem dX0_tighten_27 : decode cX0_tighten 27 = .ok (.ifCond .eq 11, 3) := by decide +kernel
theorem dX0_tighten_30 : decode cX0_tighten 30 = .ok (.iload_n 1, 1) := by decide +kernel
theorem dX0_tighten_31 : decode cX0_tighten 31 = .ok (.aload_n 0, 1) := by decide +kernel
theorem dX0_tighten_32 : decode cX0_tighten 32 = .ok (.iload_n 2, 1) := by decide +kernel
theorem dX0_tighten_33 : decode cX0_tighten 33 = .ok (.invokevirtual 75, 3) := by decide +kernel
theorem dX0_tighten_36 : decode cX0_tighten 36 = .ok (.iadd, 1) := by decide +kernel
theorem dX0_tighten_37 : decode cX0_tighten 37 = .ok (.istore_n 1, 1) := by decide +kernel
theorem dX0_tighten_38 : decode cX0_tighten 38 = .ok (.iinc 2 1, 3) := by decide +kernel
theorem dX0_tighten_41 : decode cX0_tighten 41 = .ok (.goto (-28), 3) := by decide +kernel
theorem dX0_tighten_44 : decode cX0_tighten 44 = .ok (.iload_n 1, 1) := by decide +kernel
theorem dX0_tighten_45 : decode cX0_tighten 45 = .ok (.ireturn, 1) := by decide +kernel
set_option maxRecDepth 20000 in
theorem ggX0_told_X0_checkRope : GoodIn wsX0_told wsX0_checkRope := goodIn_ca (goodIn_r _ [9, 10, 11, 12, 26, 27, 28, 29, 30, 31, 32, 33, 34, 35, 36, 37] (by decide +kernel) (by decide +kernel)) (goodIn_sub (fun _ h => List.mem_cons_of_mem _ (List.mem_append_right _ h)) (by decide +kernel))
set_option maxRecDepth 20000 in
theorem gX0_told_X0_checkRope : GoodIn wsX0_told (wsV RX0 68 RX0 yX0_checkRope wsX0_checkRope) := goodIn_app (goodIn_of _ (by decide +kernel)) ggX0_told_X0_checkRope
set_option maxRecDepth 20000 in
theorem ggX0_told_X0_checkKind : GoodIn wsX0_told wsX0_checkKind := goodIn_ca (goodIn_r _ [15, 10, 11] (by decide +kernel) (by decide +kernel)) (goodIn_sub (fun _ h => List.mem_cons_of_mem _ (List.mem_append_right _ h)) (by decide +kernel))
set_option maxRecDepth 20000 in
theorem gX0_told_X0_checkKind : GoodIn wsX0_told (va_wsS RX0 79 yX0_checkKind wsX0_checkKind) := goodIn_app (goodIn_of _ (by decide +kernel)) ggX0_told_X0_checkKind
set_option maxRecDepth 20000 in
theorem ggX0_told_X0_isTight : GoodIn wsX0_told wsX0_isTight := goodIn_r _ [19, 4, 20, 2, 1, 3, 21, 22, 23, 8, 24, 25, 26, 27, 28, 29, 30, 31, 32, 33, 34, 35, 36, 37] (by decide +kernel) (by decide +kernel)
set_option maxRecDepth 20000 in
theorem gX0_told_X0_isTight : GoodIn wsX0_told (wsV RX0 82 RX0 yX0_isTight wsX0_isTight) := goodIn_app (goodIn_of _ (by decide +kernel)) ggX0_told_X0_isTight
theorem dX0_told_0 : decode cX0_told 0 = .ok (.aload_n 0, 1) := by decide +kernel
theorem dX0_told_1 : decode cX0_told 1 = .ok (.iload_n 1, 1) := by decide +kernel
theorem dX0_told_2 : decode cX0_told 2 = .ok (.invokevirtual 68, 3) := by decide +kernel
theorem dX0_told_5 : decode cX0_told 5 = .ok (.iload_n 2, 1) := by decide +kernel
theorem dX0_told_6 : decode cX0_told 6 = .ok (.iconst 5, 1) := by decide +kernel
theorem dX0_told_7 : decode cX0_told 7 = .ok (.invokestatic 79, 3) := by decide +kernel
theorem dX0_told_10 : decode cX0_told 10 = .ok (.iload_n 2, 1) := by decide +kernel
theorem dX0_told_11 : decode cX0_told 11 = .ok (.tableswitch 65 0 3 #[29, 36, 43, 50], 29) := by decide +kernel
theorem dX0_told_40 : decode cX0_told 40 = .ok (.aload_n 0, 1) := by decide +kernel
theorem dX0_told_41 : decode cX0_told 41 = .ok (.getfield 9, 3) := by decide +kernel
theorem dX0_told_44 : decode cX0_told 44 = .ok (.iload_n 1, 1) := by decide +kernel
theorem dX0_told_45 : decode cX0_told 45 = .ok (.iaload, 1) := by decide +kernel
theorem dX0_told_46 : decode cX0_told 46 = .ok (.ireturn, 1) := by decide +kernel
theorem dX0_told_47 : decode cX0_told 47 = .ok (.aload_n 0, 1) := by decide +kernel
theorem dX0_told_48 : decode cX0_told 48 = .ok (.getfield 13, 3) := by decide +kernel
theorem dX0_told_51 : decode cX0_told 51 = .ok (.iload_n 1, 1) := by decide +kernel
theorem dX0_told_52 : decode cX0_told 52 = .ok (.iaload, 1) := by decide +kernel
theorem dX0_told_53 : decode cX0_told 53 = .ok (.ireturn, 1) := by decide +kernel
theorem dX0_told_54 : decode cX0_told 54 = .ok (.aload_n 0, 1) := by decide +kernel
theorem dX0_told_55 : decode cX0_told 55 = .ok (.getfield 16, 3) := by decide +kernel
theorem dX0_told_58 : decode cX0_told 58 = .ok (.iload_n 1, 1) := by decide +kernel
theorem dX0_told_59 : decode cX0_told 59 = .ok (.iaload, 1) := by decide +kernel
theorem dX0_told_60 : decode cX0_told 60 = .ok (.ireturn, 1) := by decide +kernel
theorem dX0_told_61 : decode cX0_told 61 = .ok (.aload_n 0, 1) := by decide +kernel
theorem dX0_told_62 : decode cX0_told 62 = .ok (.getfield 19, 3) := by decide +kernel
theorem dX0_told_65 : decode cX0_told 65 = .ok (.iload_n 1, 1) := by decide +kernel
theorem dX0_told_66 : decode cX0_told 66 = .ok (.baload, 1) := by decide +kernel
theorem dX0_told_67 : decode cX0_told 67 = .ok (.ifCond .eq 7, 3) := by decide +kernel
theorem dX0_told_70 : decode cX0_told 70 = .ok (.iconst 1, 1) := by decide +kernel
theorem dX0_told_71 : decode cX0_told 71 = .ok (.goto 4, 3) := by decide +kernel
theorem dX0_told_74 : decode cX0_told 74 = .ok (.iconst 0, 1) := by decide +kernel
theorem dX0_told_75 : decode cX0_told 75 = .ok (.ireturn, 1) := by decide +kernel
theorem dX0_told_76 : decode cX0_told 76 = .ok (.aload_n 0, 1) := by decide +kernel
theorem dX0_told_77 : decode cX0_told 77 = .ok (.iload_n 1, 1) := by decide +kernel
theorem dX0_told_78 : decode cX0_told 78 = .ok (.invokevirtual 82, 3) := by decide +kernel
theorem dX0_told_81 : decode cX0_told 81 = .ok (.ifCond .eq 7, 3) := by decide +kernel
theorem dX0_told_84 : decode cX0_told 84 = .ok (.iconst 1, 1) := by decide +kernel
theorem dX0_told_85 : decode cX0_told 85 = .ok (.goto 4, 3) := by decide +kernel
theorem dX0_told_88 : decode cX0_told 88 = .ok (.iconst 0, 1) := by decide +kernel
theorem dX0_told_89 : decode cX0_told 89 = .ok (.ireturn, 1) := by decide +kernel
set_option maxRecDepth 20000 in
theorem ggX0_about_X0_checkTurn : GoodIn wsX0_about wsX0_checkTurn := goodIn_ca (goodIn_r _ [8, 9, 10, 11, 26, 27, 28, 29, 30, 31, 32, 33, 34, 35, 36, 37] (by decide +kernel) (by decide +kernel)) (goodIn_sub (fun _ h => List.mem_cons_of_mem _ (List.mem_append_right _ h)) (by decide +kernel))
set_option maxRecDepth 20000 in
theorem gX0_about_X0_checkTurn : GoodIn wsX0_about (wsV RX0 52 RX0 yX0_checkTurn wsX0_checkTurn) := goodIn_app (goodIn_of _ (by decide +kernel)) ggX0_about_X0_checkTurn
set_option maxRecDepth 20000 in
theorem ggX0_about_X0_checkKind : GoodIn wsX0_about wsX0_checkKind := goodIn_ca (goodIn_r _ [14, 9, 10] (by decide +kernel) (by decide +kernel)) (goodIn_sub (fun _ h => List.mem_cons_of_mem _ (List.mem_append_right _ h)) (by decide +kernel))
set_option maxRecDepth 20000 in
theorem gX0_about_X0_checkKind : GoodIn wsX0_about (va_wsS RX0 79 yX0_checkKind wsX0_checkKind) := goodIn_app (goodIn_of _ (by decide +kernel)) ggX0_about_X0_checkKind
set_option maxRecDepth 20000 in
theorem ggX0_about_X0_tiedEndsAt : GoodIn wsX0_about wsX0_tiedEndsAt := goodIn_r _ [18, 19, 20, 26, 27, 28, 29, 30, 31, 32, 33, 34, 35, 36, 37] (by decide +kernel) (by decide +kernel)
set_option maxRecDepth 20000 in
theorem gX0_about_X0_tiedEndsAt : GoodIn wsX0_about (wsV RX0 86 RX0 yX0_tiedEndsAt wsX0_tiedEndsAt) := goodIn_app (goodIn_of _ (by decide +kernel)) ggX0_about_X0_tiedEndsAt
set_option maxRecDepth 20000 in
theorem ggX0_about_X0_isPossible : GoodIn wsX0_about wsX0_isPossible := goodIn_r _ [24, 25, 26, 27, 28, 29, 30, 31, 32, 33, 34, 35, 36, 37] (by decide +kernel) (by decide +kernel)
set_option maxRecDepth 20000 in
theorem gX0_about_X0_isPossible : GoodIn wsX0_about (wsV RX0 71 RX0 yX0_isPossible wsX0_isPossible) := goodIn_app (goodIn_of _ (by decide +kernel)) ggX0_about_X0_isPossible
theorem dX0_about_0 : decode cX0_about 0 = .ok (.aload_n 0, 1) := by decide +kernel
theorem dX0_about_1 : decode cX0_about 1 = .ok (.iload_n 1, 1) := by decide +kernel
theorem dX0_about_2 : decode cX0_about 2 = .ok (.invokevirtual 52, 3) := by decide +kernel
theorem dX0_about_5 : decode cX0_about 5 = .ok (.iload_n 2, 1) := by decide +kernel
theorem dX0_about_6 : decode cX0_about 6 = .ok (.iconst 3, 1) := by decide +kernel
theorem dX0_about_7 : decode cX0_about 7 = .ok (.invokestatic 79, 3) := by decide +kernel
theorem dX0_about_10 : decode cX0_about 10 = .ok (.iload_n 2, 1) := by decide +kernel
theorem dX0_about_11 : decode cX0_about 11 = .ok (.lookupswitch 45 #[(0, 25), (1, 35)], 25) := by decide +kernel
theorem dX0_about_36 : decode cX0_about 36 = .ok (.aload_n 0, 1) := by decide +kernel
theorem dX0_about_37 : decode cX0_about 37 = .ok (.iload_n 1, 1) := by decide +kernel
theorem dX0_about_38 : decode cX0_about 38 = .ok (.aload_n 0, 1) := by decide +kernel
theorem dX0_about_39 : decode cX0_about 39 = .ok (.getfield 9, 3) := by decide +kernel
theorem dX0_about_42 : decode cX0_about 42 = .ok (.invokevirtual 86, 3) := by decide +kernel
theorem dX0_about_45 : decode cX0_about 45 = .ok (.ireturn, 1) := by decide +kernel
theorem dX0_about_46 : decode cX0_about 46 = .ok (.aload_n 0, 1) := by decide +kernel
theorem dX0_about_47 : decode cX0_about 47 = .ok (.iload_n 1, 1) := by decide +kernel
theorem dX0_about_48 : decode cX0_about 48 = .ok (.aload_n 0, 1) := by decide +kernel
theorem dX0_about_49 : decode cX0_about 49 = .ok (.getfield 13, 3) := by decide +kernel
theorem dX0_about_52 : decode cX0_about 52 = .ok (.invokevirtual 86, 3) := by decide +kernel
theorem dX0_about_55 : decode cX0_about 55 = .ok (.ireturn, 1) := by decide +kernel
theorem dX0_about_56 : decode cX0_about 56 = .ok (.aload_n 0, 1) := by decide +kernel
theorem dX0_about_57 : decode cX0_about 57 = .ok (.invokevirtual 71, 3) := by decide +kernel
theorem dX0_about_60 : decode cX0_about 60 = .ok (.ifCond .eq 12, 3) := by decide +kernel
theorem dX0_about_63 : decode cX0_about 63 = .ok (.aload_n 0, 1) := by decide +kernel
theorem dX0_about_64 : decode cX0_about 64 = .ok (.getfield 23, 3) := by decide +kernel
theorem dX0_about_67 : decode cX0_about 67 = .ok (.iload_n 1, 1) := by decide +kernel
theorem dX0_about_68 : decode cX0_about 68 = .ok (.iaload, 1) := by decide +kernel
theorem dX0_about_69 : decode cX0_about 69 = .ok (.goto 4, 3) := by decide +kernel
theorem dX0_about_72 : decode cX0_about 72 = .ok (.iconst (-1), 1) := by decide +kernel
theorem dX0_about_73 : decode cX0_about 73 = .ok (.ireturn, 1) := by decide +kernel
set_option maxRecDepth 20000 in
theorem ggX0_count_X0_checkKind : GoodIn wsX0_count wsX0_checkKind := goodIn_ca (goodIn_r _ [8, 9, 10] (by decide +kernel) (by decide +kernel)) (goodIn_sub (fun _ h => List.mem_cons_of_mem _ (List.mem_append_right _ h)) (by decide +kernel))
set_option maxRecDepth 20000 in
theorem gX0_count_X0_checkKind : GoodIn wsX0_count (va_wsS RX0 79 yX0_checkKind wsX0_checkKind) := goodIn_app (goodIn_of _ (by decide +kernel)) ggX0_count_X0_checkKind
set_option maxRecDepth 20000 in
theorem ggX0_count_X0_tiedRopes : GoodIn wsX0_count wsX0_tiedRopes := goodIn_r _ [14, 2, 15, 57, 58, 59, 60, 61, 62, 63, 64, 65, 66, 67, 68] (by decide +kernel) (by decide +kernel)
set_option maxRecDepth 20000 in
theorem gX0_count_X0_tiedRopes : GoodIn wsX0_count (wsV RX0 90 RX0 yX0_tiedRopes wsX0_tiedRopes) := goodIn_app (goodIn_of _ (by decide +kernel)) ggX0_count_X0_tiedRopes
set_option maxRecDepth 20000 in
theorem ggX0_count_X0_isPossible : GoodIn wsX0_count wsX0_isPossible := goodIn_r _ [19, 3, 57, 58, 59, 60, 61, 62, 63, 64, 65, 66, 67, 68] (by decide +kernel) (by decide +kernel)
set_option maxRecDepth 20000 in
theorem gX0_count_X0_isPossible : GoodIn wsX0_count (wsV RX0 71 RX0 yX0_isPossible wsX0_isPossible) := goodIn_app (goodIn_of _ (by decide +kernel)) ggX0_count_X0_isPossible
set_option maxRecDepth 20000 in
theorem ggX0_count_X0_lastOf : GoodIn wsX0_count wsX0_lastOf := goodIn_r _ [23, 1, 24, 25, 26, 27, 57, 58, 59, 60, 61, 62, 63, 64, 65, 66, 67, 68] (by decide +kernel) (by decide +kernel)
set_option maxRecDepth 20000 in
theorem gX0_count_X0_lastOf : GoodIn wsX0_count (wsV RX0 97 RX0 yX0_lastOf wsX0_lastOf) := goodIn_app (goodIn_of _ (by decide +kernel)) ggX0_count_X0_lastOf
set_option maxRecDepth 20000 in
theorem ggX0_count_X0_tightRopes : GoodIn wsX0_count wsX0_tightRopes := goodIn_r _ [31, 2, 32, 33, 34, 7, 35, 15, 4, 36, 37, 38, 16, 17, 18, 19, 3, 57, 58, 59, 60, 61, 62, 63, 64, 65, 66, 67, 68] (by decide +kernel) (by decide +kernel)
set_option maxRecDepth 20000 in
theorem gX0_count_X0_tightRopes : GoodIn wsX0_count (wsV RX0 101 RX0 yX0_tightRopes wsX0_tightRopes) := goodIn_app (goodIn_of _ (by decide +kernel)) ggX0_count_X0_tightRopes
set_option maxRecDepth 20000 in
theorem ggX0_count_X0_shortRingLength : GoodIn wsX0_count wsX0_shortRingLength := goodIn_r _ [42, 1, 43, 44, 45, 7, 46, 47, 48, 49, 50, 51, 52, 53, 2, 15, 37, 38, 36, 54, 55, 26, 56, 57, 58, 59, 60, 61, 62, 63, 64, 65, 66, 67, 68] (by decide +kernel) (by decide +kernel)
set_option maxRecDepth 20000 in
theorem gX0_count_X0_shortRingLength : GoodIn wsX0_count (wsV RX0 104 RX0 yX0_shortRingLength wsX0_shortRingLength) := goodIn_app (goodIn_of _ (by decide +kernel)) ggX0_count_X0_shortRingLength
theorem dX0_count_0 : decode cX0_count 0 = .ok (.iload_n 1, 1) := by decide +kernel
theorem dX0_count_1 : decode cX0_count 1 = .ok (.bipush 7, 2) := by decide +kernel
theorem dX0_count_3 : decode cX0_count 3 = .ok (.invokestatic 79, 3) := by decide +kernel
theorem dX0_count_6 : decode cX0_count 6 = .ok (.iload_n 1, 1) := by decide +kernel
theorem dX0_count_7 : decode cX0_count 7 = .ok (.tableswitch 82 0 5 #[37, 42, 47, 52, 57, 77], 37) := by decide +kernel
theorem dX0_count_44 : decode cX0_count 44 = .ok (.aload_n 0, 1) := by decide +kernel
theorem dX0_count_45 : decode cX0_count 45 = .ok (.getfield 41, 3) := by decide +kernel
theorem dX0_count_48 : decode cX0_count 48 = .ok (.ireturn, 1) := by decide +kernel
theorem dX0_count_49 : decode cX0_count 49 = .ok (.aload_n 0, 1) := by decide +kernel
theorem dX0_count_50 : decode cX0_count 50 = .ok (.getfield 63, 3) := by decide +kernel
theorem dX0_count_53 : decode cX0_count 53 = .ok (.ireturn, 1) := by decide +kernel
theorem dX0_count_54 : decode cX0_count 54 = .ok (.aload_n 0, 1) := by decide +kernel
theorem dX0_count_55 : decode cX0_count 55 = .ok (.invokevirtual 90, 3) := by decide +kernel
theorem dX0_count_58 : decode cX0_count 58 = .ok (.ireturn, 1) := by decide +kernel
theorem dX0_count_59 : decode cX0_count 59 = .ok (.aload_n 0, 1) := by decide +kernel
theorem dX0_count_60 : decode cX0_count 60 = .ok (.getfield 94, 3) := by decide +kernel
theorem dX0_count_63 : decode cX0_count 63 = .ok (.ireturn, 1) := by decide +kernel
theorem dX0_count_64 : decode cX0_count 64 = .ok (.aload_n 0, 1) := by decide +kernel
theorem dX0_count_65 : decode cX0_count 65 = .ok (.invokevirtual 71, 3) := by decide +kernel
theorem dX0_count_68 : decode cX0_count 68 = .ok (.ifCond .eq 14, 3) := by decide +kernel
theorem dX0_count_71 : decode cX0_count 71 = .ok (.aload_n 0, 1) := by decide +kernel
theorem dX0_count_72 : decode cX0_count 72 = .ok (.aload_n 0, 1) := by decide +kernel
theorem dX0_count_73 : decode cX0_count 73 = .ok (.getfield 23, 3) := by decide +kernel
theorem dX0_count_76 : decode cX0_count 76 = .ok (.invokevirtual 97, 3) := by decide +kernel
theorem dX0_count_79 : decode cX0_count 79 = .ok (.goto 4, 3) := by decide +kernel
theorem dX0_count_82 : decode cX0_count 82 = .ok (.iconst (-1), 1) := by decide +kernel
theorem dX0_count_83 : decode cX0_count 83 = .ok (.ireturn, 1) := by decide +kernel
theorem dX0_count_84 : decode cX0_count 84 = .ok (.aload_n 0, 1) := by decide +kernel
theorem dX0_count_85 : decode cX0_count 85 = .ok (.invokevirtual 101, 3) := by decide +kernel
theorem dX0_count_88 : decode cX0_count 88 = .ok (.ireturn, 1) := by decide +kernel
theorem dX0_count_89 : decode cX0_count 89 = .ok (.aload_n 0, 1) := by decide +kernel
theorem dX0_count_90 : decode cX0_count 90 = .ok (.invokevirtual 71, 3) := by decide +kernel
theorem dX0_count_93 : decode cX0_count 93 = .ok (.ifCond .eq 7, 3) := by decide +kernel
theorem dX0_count_96 : decode cX0_count 96 = .ok (.iconst 0, 1) := by decide +kernel
theorem dX0_count_97 : decode cX0_count 97 = .ok (.goto 7, 3) := by decide +kernel
theorem dX0_count_100 : decode cX0_count 100 = .ok (.aload_n 0, 1) := by decide +kernel
theorem dX0_count_101 : decode cX0_count 101 = .ok (.invokevirtual 104, 3) := by decide +kernel
theorem dX0_count_104 : decode cX0_count 104 = .ok (.ireturn, 1) := by decide +kernel
set_option maxRecDepth 20000 in
theorem ggX0_holds_X0_isPossible : GoodIn wsX0_holds wsX0_isPossible := goodIn_r _ [5, 6, 7, 8, 9, 10, 11, 12, 13, 14, 15, 16, 17, 18] (by decide +kernel) (by decide +kernel)
set_option maxRecDepth 20000 in
theorem gX0_holds_X0_isPossible : GoodIn wsX0_holds (wsV RX0 71 RX0 yX0_isPossible wsX0_isPossible) := goodIn_app (goodIn_of _ (by decide +kernel)) ggX0_holds_X0_isPossible
theorem dX0_holds_0 : decode cX0_holds 0 = .ok (.aload_n 0, 1) := by decide +kernel
theorem dX0_holds_1 : decode cX0_holds 1 = .ok (.invokevirtual 71, 3) := by decide +kernel
theorem dX0_holds_4 : decode cX0_holds 4 = .ok (.ireturn, 1) := by decide +kernel
set_option maxRecDepth 20000 in
theorem ggX0_late_X0_checkTurn : GoodIn wsX0_late wsX0_checkTurn := goodIn_ca (goodIn_r _ [16, 17, 18, 6, 40, 41, 42, 43, 44, 45, 46, 47, 48, 49, 50, 51] (by decide +kernel) (by decide +kernel)) (goodIn_sub (fun _ h => List.mem_cons_of_mem _ (List.mem_append_right _ h)) (by decide +kernel))
set_option maxRecDepth 20000 in
theorem gX0_late_X0_checkTurn : GoodIn wsX0_late (wsV RX0 52 RX0 yX0_checkTurn wsX0_checkTurn) := goodIn_app (goodIn_of _ (by decide +kernel)) ggX0_late_X0_checkTurn
set_option maxRecDepth 20000 in
theorem ggX0_late_X0_checkPossible : GoodIn wsX0_late wsX0_checkPossible := goodIn_ca (goodIn_r _ [22, 3, 4, 23, 24, 25, 15, 26, 27, 40, 41, 42, 43, 44, 45, 46, 47, 48, 49, 50, 51] (by decide +kernel) (by decide +kernel)) (goodIn_sub (fun _ h => List.mem_cons_of_mem _ (List.mem_append_left _ (List.mem_append_right _ h))) (by decide +kernel))
set_option maxRecDepth 20000 in
theorem gX0_late_X0_checkPossible : GoodIn wsX0_late (wsV RX0 112 RX0 yX0_checkPossible wsX0_checkPossible) := goodIn_app (goodIn_of _ (by decide +kernel)) ggX0_late_X0_checkPossible
set_option maxRecDepth 20000 in
theorem ggX0_late_X0_lastOf : GoodIn wsX0_late wsX0_lastOf := goodIn_r _ [31, 6, 32, 33, 10, 34, 40, 41, 42, 43, 44, 45, 46, 47, 48, 49, 50, 51] (by decide +kernel) (by decide +kernel)
set_option maxRecDepth 20000 in
theorem gX0_late_X0_lastOf : GoodIn wsX0_late (wsV RX0 97 RX0 yX0_lastOf wsX0_lastOf) := goodIn_app (goodIn_of _ (by decide +kernel)) ggX0_late_X0_lastOf
set_option maxRecDepth 20000 in
theorem ggX0_late_X0_boundFrom : GoodIn wsX0_late wsX0_boundFrom := goodIn_r _ [38, 39, 40, 41, 42, 43, 44, 45, 46, 47, 48, 49, 50, 51] (by decide +kernel) (by decide +kernel)
set_option maxRecDepth 20000 in
theorem gX0_late_X0_boundFrom : GoodIn wsX0_late (wsV RX0 117 RX0 yX0_boundFrom wsX0_boundFrom) := goodIn_app (goodIn_of _ (by decide +kernel)) ggX0_late_X0_boundFrom
theorem dX0_late_0 : decode cX0_late 0 = .ok (.aload_n 0, 1) := by decide +kernel
theorem dX0_late_1 : decode cX0_late 1 = .ok (.iload_n 1, 1) := by decide +kernel
theorem dX0_late_2 : decode cX0_late 2 = .ok (.invokevirtual 52, 3) := by decide +kernel
theorem dX0_late_5 : decode cX0_late 5 = .ok (.iload_n 2, 1) := by decide +kernel
theorem dX0_late_6 : decode cX0_late 6 = .ok (.ifCond .lt 10, 3) := by decide +kernel
theorem dX0_late_9 : decode cX0_late 9 = .ok (.iload_n 2, 1) := by decide +kernel
theorem dX0_late_10 : decode cX0_late 10 = .ok (.sipush 9999, 3) := by decide +kernel
theorem dX0_late_13 : decode cX0_late 13 = .ok (.if_icmp .le 13, 3) := by decide +kernel
theorem dX0_late_16 : decode cX0_late 16 = .ok (.new 107, 3) := by decide +kernel
theorem dX0_late_19 : decode cX0_late 19 = .ok (.dup, 1) := by decide +kernel
theorem dX0_late_20 : decode cX0_late 20 = .ok (.ldc 109, 2) := by decide +kernel
theorem dX0_late_22 : decode cX0_late 22 = .ok (.invokespecial 111, 3) := by decide +kernel
theorem dX0_late_25 : decode cX0_late 25 = .ok (.athrow, 1) := by decide +kernel
theorem dX0_late_26 : decode cX0_late 26 = .ok (.aload_n 0, 1) := by decide +kernel
theorem dX0_late_27 : decode cX0_late 27 = .ok (.invokevirtual 112, 3) := by decide +kernel
theorem dX0_late_30 : decode cX0_late 30 = .ok (.aload_n 0, 1) := by decide +kernel
theorem dX0_late_31 : decode cX0_late 31 = .ok (.aload_n 0, 1) := by decide +kernel
theorem dX0_late_32 : decode cX0_late 32 = .ok (.getfield 23, 3) := by decide +kernel
theorem dX0_late_35 : decode cX0_late 35 = .ok (.invokevirtual 97, 3) := by decide +kernel
theorem dX0_late_38 : decode cX0_late 38 = .ok (.iload_n 2, 1) := by decide +kernel
theorem dX0_late_39 : decode cX0_late 39 = .ok (.if_icmp .le 13, 3) := by decide +kernel
theorem dX0_late_42 : decode cX0_late 42 = .ok (.new 45, 3) := by decide +kernel
theorem dX0_late_45 : decode cX0_late 45 = .ok (.dup, 1) := by decide +kernel
theorem dX0_late_46 : decode cX0_late 46 = .ok (.ldc 115, 2) := by decide +kernel
theorem dX0_late_48 : decode cX0_late 48 = .ok (.invokespecial 49, 3) := by decide +kernel
theorem dX0_late_51 : decode cX0_late 51 = .ok (.athrow, 1) := by decide +kernel
theorem dX0_late_52 : decode cX0_late 52 = .ok (.iload_n 2, 1) := by decide +kernel
theorem dX0_late_53 : decode cX0_late 53 = .ok (.istore_n 3, 1) := by decide +kernel
theorem dX0_late_54 : decode cX0_late 54 = .ok (.iconst 0, 1) := by decide +kernel
theorem dX0_late_55 : decode cX0_late 55 = .ok (.istore 4, 2) := by decide +kernel
theorem dX0_late_57 : decode cX0_late 57 = .ok (.iload 4, 2) := by decide +kernel
theorem dX0_late_59 : decode cX0_late 59 = .ok (.aload_n 0, 1) := by decide +kernel
theorem dX0_late_60 : decode cX0_late 60 = .ok (.getfield 41, 3) := by decide +kernel
theorem dX0_late_63 : decode cX0_late 63 = .ok (.if_icmp .ge 34, 3) := by decide +kernel
theorem dX0_late_66 : decode cX0_late 66 = .ok (.aload_n 0, 1) := by decide +kernel
theorem dX0_late_67 : decode cX0_late 67 = .ok (.iload 4, 2) := by decide +kernel
theorem dX0_late_69 : decode cX0_late 69 = .ok (.iload_n 1, 1) := by decide +kernel
theorem dX0_late_70 : decode cX0_late 70 = .ok (.invokevirtual 117, 3) := by decide +kernel
theorem dX0_late_73 : decode cX0_late 73 = .ok (.istore 5, 2) := by decide +kernel
theorem dX0_late_75 : decode cX0_late 75 = .ok (.iload 5, 2) := by decide +kernel
theorem dX0_late_77 : decode cX0_late 77 = .ok (.ldc 121, 2) := by decide +kernel
theorem dX0_late_79 : decode cX0_late 79 = .ok (.if_icmp .eq 12, 3) := by decide +kernel
theorem dX0_late_82 : decode cX0_late 82 = .ok (.iload_n 3, 1) := by decide +kernel
theorem dX0_late_83 : decode cX0_late 83 = .ok (.iload_n 2, 1) := by decide +kernel
theorem dX0_late_84 : decode cX0_late 84 = .ok (.iload 5, 2) := by decide +kernel
theorem dX0_late_86 : decode cX0_late 86 = .ok (.iadd, 1) := by decide +kernel
theorem dX0_late_87 : decode cX0_late 87 = .ok (.invokestatic 122, 3) := by decide +kernel
theorem dX0_late_90 : decode cX0_late 90 = .ok (.istore_n 3, 1) := by decide +kernel
theorem dX0_late_91 : decode cX0_late 91 = .ok (.iinc 4 1, 3) := by decide +kernel
theorem dX0_late_94 : decode cX0_late 94 = .ok (.goto (-37), 3) := by decide +kernel
theorem dX0_late_97 : decode cX0_late 97 = .ok (.iload_n 3, 1) := by decide +kernel
theorem dX0_late_98 : decode cX0_late 98 = .ok (.ireturn, 1) := by decide +kernel
set_option maxRecDepth 20000 in
theorem ggX0_most_X0_checkTurn : GoodIn wsX0_most wsX0_checkTurn := goodIn_ca (goodIn_r _ [5, 6, 7, 8, 25, 26, 27, 28, 29, 30, 31, 32, 33, 34, 35, 36] (by decide +kernel) (by decide +kernel)) (goodIn_sub (fun _ h => List.mem_cons_of_mem _ (List.mem_append_left _ (List.mem_append_right _ h))) (by decide +kernel))
set_option maxRecDepth 20000 in
theorem gX0_most_X0_checkTurn : GoodIn wsX0_most (wsV RX0 52 RX0 yX0_checkTurn wsX0_checkTurn) := goodIn_app (goodIn_of _ (by decide +kernel)) ggX0_most_X0_checkTurn
set_option maxRecDepth 20000 in
theorem ggX0_most_X0_checkPossible : GoodIn wsX0_most wsX0_checkPossible := goodIn_ca (goodIn_r _ [12, 13, 14, 15, 16, 17, 4, 18, 19, 25, 26, 27, 28, 29, 30, 31, 32, 33, 34, 35, 36] (by decide +kernel) (by decide +kernel)) (goodIn_sub (fun _ h => List.mem_cons_of_mem _ (List.mem_append_right _ h)) (by decide +kernel))
set_option maxRecDepth 20000 in
theorem gX0_most_X0_checkPossible : GoodIn wsX0_most (wsV RX0 112 RX0 yX0_checkPossible wsX0_checkPossible) := goodIn_app (goodIn_of _ (by decide +kernel)) ggX0_most_X0_checkPossible
set_option maxRecDepth 20000 in
theorem ggX0_most_X0_boundFrom : GoodIn wsX0_most wsX0_boundFrom := goodIn_r _ [23, 24, 25, 26, 27, 28, 29, 30, 31, 32, 33, 34, 35, 36] (by decide +kernel) (by decide +kernel)
set_option maxRecDepth 20000 in
theorem gX0_most_X0_boundFrom : GoodIn wsX0_most (wsV RX0 117 RX0 yX0_boundFrom wsX0_boundFrom) := goodIn_app (goodIn_of _ (by decide +kernel)) ggX0_most_X0_boundFrom
theorem dX0_most_0 : decode cX0_most 0 = .ok (.aload_n 0, 1) := by decide +kernel
theorem dX0_most_1 : decode cX0_most 1 = .ok (.iload_n 1, 1) := by decide +kernel
theorem dX0_most_2 : decode cX0_most 2 = .ok (.invokevirtual 52, 3) := by decide +kernel
theorem dX0_most_5 : decode cX0_most 5 = .ok (.aload_n 0, 1) := by decide +kernel
theorem dX0_most_6 : decode cX0_most 6 = .ok (.iload_n 2, 1) := by decide +kernel
theorem dX0_most_7 : decode cX0_most 7 = .ok (.invokevirtual 52, 3) := by decide +kernel
theorem dX0_most_10 : decode cX0_most 10 = .ok (.aload_n 0, 1) := by decide +kernel
theorem dX0_most_11 : decode cX0_most 11 = .ok (.invokevirtual 112, 3) := by decide +kernel
theorem dX0_most_14 : decode cX0_most 14 = .ok (.aload_n 0, 1) := by decide +kernel
theorem dX0_most_15 : decode cX0_most 15 = .ok (.iload_n 1, 1) := by decide +kernel
theorem dX0_most_16 : decode cX0_most 16 = .ok (.iload_n 2, 1) := by decide +kernel
theorem dX0_most_17 : decode cX0_most 17 = .ok (.invokevirtual 117, 3) := by decide +kernel
theorem dX0_most_20 : decode cX0_most 20 = .ok (.ireturn, 1) := by decide +kernel
set_option maxRecDepth 20000 in
theorem ggX0_room_X0_checkRope : GoodIn wsX0_room wsX0_checkRope := goodIn_ca (goodIn_r _ [10, 11, 12, 13, 37, 38, 39, 40, 41, 42, 43, 44, 45, 46, 47, 48] (by decide +kernel) (by decide +kernel)) (goodIn_sub (fun _ h => List.mem_cons_of_mem _ (List.mem_append_right _ h)) (by decide +kernel))
set_option maxRecDepth 20000 in
theorem gX0_room_X0_checkRope : GoodIn wsX0_room (wsV RX0 68 RX0 yX0_checkRope wsX0_checkRope) := goodIn_app (goodIn_of _ (by decide +kernel)) ggX0_room_X0_checkRope
set_option maxRecDepth 20000 in
theorem ggX0_room_X0_checkPossible : GoodIn wsX0_room wsX0_checkPossible := goodIn_ca (goodIn_r _ [17, 1, 2, 18, 19, 20, 9, 21, 22, 37, 38, 39, 40, 41, 42, 43, 44, 45, 46, 47, 48] (by decide +kernel) (by decide +kernel)) (goodIn_sub (fun _ h => List.mem_cons_of_mem _ (List.mem_append_left _ (List.mem_append_right _ h))) (by decide +kernel))
set_option maxRecDepth 20000 in
theorem gX0_room_X0_checkPossible : GoodIn wsX0_room (wsV RX0 112 RX0 yX0_checkPossible wsX0_checkPossible) := goodIn_app (goodIn_of _ (by decide +kernel)) ggX0_room_X0_checkPossible
set_option maxRecDepth 20000 in
theorem ggX0_room_X0_leastLength : GoodIn wsX0_room wsX0_leastLength := goodIn_r _ [26, 27, 28, 29, 30, 31, 32, 33, 34, 9, 35, 36, 37, 38, 39, 40, 41, 42, 43, 44, 45, 46, 47, 48] (by decide +kernel) (by decide +kernel)
set_option maxRecDepth 20000 in
theorem gX0_room_X0_leastLength : GoodIn wsX0_room (wsV RX0 129 RX0 yX0_leastLength wsX0_leastLength) := goodIn_app (goodIn_of _ (by decide +kernel)) ggX0_room_X0_leastLength
theorem dX0_room_0 : decode cX0_room 0 = .ok (.aload_n 0, 1) := by decide +kernel
theorem dX0_room_1 : decode cX0_room 1 = .ok (.iload_n 1, 1) := by decide +kernel
theorem dX0_room_2 : decode cX0_room 2 = .ok (.invokevirtual 68, 3) := by decide +kernel
theorem dX0_room_5 : decode cX0_room 5 = .ok (.aload_n 0, 1) := by decide +kernel
theorem dX0_room_6 : decode cX0_room 6 = .ok (.getfield 19, 3) := by decide +kernel
theorem dX0_room_9 : decode cX0_room 9 = .ok (.iload_n 1, 1) := by decide +kernel
theorem dX0_room_10 : decode cX0_room 10 = .ok (.baload, 1) := by decide +kernel
theorem dX0_room_11 : decode cX0_room 11 = .ok (.ifCond .ne 13, 3) := by decide +kernel
theorem dX0_room_14 : decode cX0_room 14 = .ok (.new 45, 3) := by decide +kernel
theorem dX0_room_17 : decode cX0_room 17 = .ok (.dup, 1) := by decide +kernel
theorem dX0_room_18 : decode cX0_room 18 = .ok (.ldc 127, 2) := by decide +kernel
theorem dX0_room_20 : decode cX0_room 20 = .ok (.invokespecial 49, 3) := by decide +kernel
theorem dX0_room_23 : decode cX0_room 23 = .ok (.athrow, 1) := by decide +kernel
theorem dX0_room_24 : decode cX0_room 24 = .ok (.aload_n 0, 1) := by decide +kernel
theorem dX0_room_25 : decode cX0_room 25 = .ok (.invokevirtual 112, 3) := by decide +kernel
theorem dX0_room_28 : decode cX0_room 28 = .ok (.aload_n 0, 1) := by decide +kernel
theorem dX0_room_29 : decode cX0_room 29 = .ok (.aload_n 0, 1) := by decide +kernel
theorem dX0_room_30 : decode cX0_room 30 = .ok (.getfield 9, 3) := by decide +kernel
theorem dX0_room_33 : decode cX0_room 33 = .ok (.iload_n 1, 1) := by decide +kernel
theorem dX0_room_34 : decode cX0_room 34 = .ok (.iaload, 1) := by decide +kernel
theorem dX0_room_35 : decode cX0_room 35 = .ok (.aload_n 0, 1) := by decide +kernel
theorem dX0_room_36 : decode cX0_room 36 = .ok (.getfield 13, 3) := by decide +kernel
theorem dX0_room_39 : decode cX0_room 39 = .ok (.iload_n 1, 1) := by decide +kernel
theorem dX0_room_40 : decode cX0_room 40 = .ok (.iaload, 1) := by decide +kernel
theorem dX0_room_41 : decode cX0_room 41 = .ok (.invokevirtual 129, 3) := by decide +kernel
theorem dX0_room_44 : decode cX0_room 44 = .ok (.ireturn, 1) := by decide +kernel
set_option maxRecDepth 20000 in
theorem ggX0_would_X0_checkTurn : GoodIn wsX0_would wsX0_checkTurn := goodIn_ca (goodIn_r _ [5, 6, 7, 8, 36, 37, 38, 39, 40, 41, 42, 43, 44, 45, 46, 47] (by decide +kernel) (by decide +kernel)) (goodIn_sub (fun _ h => List.mem_cons_of_mem _ (List.mem_append_left _ (List.mem_append_right _ h))) (by decide +kernel))
set_option maxRecDepth 20000 in
theorem gX0_would_X0_checkTurn : GoodIn wsX0_would (wsV RX0 52 RX0 yX0_checkTurn wsX0_checkTurn) := goodIn_app (goodIn_of _ (by decide +kernel)) ggX0_would_X0_checkTurn
set_option maxRecDepth 20000 in
theorem ggX0_would_X0_checkTwoTurns : GoodIn wsX0_would wsX0_checkTwoTurns := goodIn_ca (goodIn_r _ [11, 12, 13] (by decide +kernel) (by decide +kernel)) (goodIn_sub (fun _ h => List.mem_cons_of_mem _ (List.mem_append_right _ h)) (by decide +kernel))
set_option maxRecDepth 20000 in
theorem gX0_would_X0_checkTwoTurns : GoodIn wsX0_would (va_wsS RX0 56 yX0_checkTwoTurns wsX0_checkTwoTurns) := goodIn_app (goodIn_of _ (by decide +kernel)) ggX0_would_X0_checkTwoTurns
set_option maxRecDepth 20000 in
theorem ggX0_would_X0_checkLength : GoodIn wsX0_would wsX0_checkLength := goodIn_ca (goodIn_r _ [16, 12, 13] (by decide +kernel) (by decide +kernel)) (goodIn_sub (fun _ h => List.mem_cons_of_mem _ (List.mem_append_right _ h)) (by decide +kernel))
set_option maxRecDepth 20000 in
theorem gX0_would_X0_checkLength : GoodIn wsX0_would (va_wsS RX0 60 yX0_checkLength wsX0_checkLength) := goodIn_app (goodIn_of _ (by decide +kernel)) ggX0_would_X0_checkLength
set_option maxRecDepth 20000 in
theorem ggX0_would_X0_isPossible : GoodIn wsX0_would wsX0_isPossible := goodIn_r _ [20, 21, 36, 37, 38, 39, 40, 41, 42, 43, 44, 45, 46, 47] (by decide +kernel) (by decide +kernel)
set_option maxRecDepth 20000 in
theorem gX0_would_X0_isPossible : GoodIn wsX0_would (wsV RX0 71 RX0 yX0_isPossible wsX0_isPossible) := goodIn_app (goodIn_of _ (by decide +kernel)) ggX0_would_X0_isPossible
set_option maxRecDepth 20000 in
theorem ggX0_would_X0_leastLength : GoodIn wsX0_would wsX0_leastLength := goodIn_r _ [25, 26, 27, 28, 29, 30, 31, 32, 33, 4, 34, 35, 36, 37, 38, 39, 40, 41, 42, 43, 44, 45, 46, 47] (by decide +kernel) (by decide +kernel)
set_option maxRecDepth 20000 in
theorem gX0_would_X0_leastLength : GoodIn wsX0_would (wsV RX0 129 RX0 yX0_leastLength wsX0_leastLength) := goodIn_app (goodIn_of _ (by decide +kernel)) ggX0_would_X0_leastLength
theorem dX0_would_0 : decode cX0_would 0 = .ok (.aload_n 0, 1) := by decide +kernel
theorem dX0_would_1 : decode cX0_would 1 = .ok (.iload_n 1, 1) := by decide +kernel
theorem dX0_would_2 : decode cX0_would 2 = .ok (.invokevirtual 52, 3) := by decide +kernel
theorem dX0_would_5 : decode cX0_would 5 = .ok (.aload_n 0, 1) := by decide +kernel
theorem dX0_would_6 : decode cX0_would 6 = .ok (.iload_n 2, 1) := by decide +kernel
theorem dX0_would_7 : decode cX0_would 7 = .ok (.invokevirtual 52, 3) := by decide +kernel
theorem dX0_would_10 : decode cX0_would 10 = .ok (.iload_n 1, 1) := by decide +kernel
theorem dX0_would_11 : decode cX0_would 11 = .ok (.iload_n 2, 1) := by decide +kernel
theorem dX0_would_12 : decode cX0_would 12 = .ok (.invokestatic 56, 3) := by decide +kernel
theorem dX0_would_15 : decode cX0_would 15 = .ok (.iload_n 3, 1) := by decide +kernel
theorem dX0_would_16 : decode cX0_would 16 = .ok (.invokestatic 60, 3) := by decide +kernel
theorem dX0_would_19 : decode cX0_would 19 = .ok (.aload_n 0, 1) := by decide +kernel
theorem dX0_would_20 : decode cX0_would 20 = .ok (.invokevirtual 71, 3) := by decide +kernel
theorem dX0_would_23 : decode cX0_would 23 = .ok (.ifCond .eq 17, 3) := by decide +kernel
theorem dX0_would_26 : decode cX0_would 26 = .ok (.iload_n 3, 1) := by decide +kernel
theorem dX0_would_27 : decode cX0_would 27 = .ok (.aload_n 0, 1) := by decide +kernel
theorem dX0_would_28 : decode cX0_would 28 = .ok (.iload_n 1, 1) := by decide +kernel
theorem dX0_would_29 : decode cX0_would 29 = .ok (.iload_n 2, 1) := by decide +kernel
theorem dX0_would_30 : decode cX0_would 30 = .ok (.invokevirtual 129, 3) := by decide +kernel
theorem dX0_would_33 : decode cX0_would 33 = .ok (.if_icmp .lt 7, 3) := by decide +kernel
theorem dX0_would_36 : decode cX0_would 36 = .ok (.iconst 1, 1) := by decide +kernel
theorem dX0_would_37 : decode cX0_would 37 = .ok (.goto 4, 3) := by decide +kernel
theorem dX0_would_40 : decode cX0_would 40 = .ok (.iconst 0, 1) := by decide +kernel
theorem dX0_would_41 : decode cX0_would 41 = .ok (.ireturn, 1) := by decide +kernel
set_option maxRecDepth 20000 in
theorem ggX0_at_X0_checkPossible : GoodIn wsX0_at wsX0_checkPossible := goodIn_ca (goodIn_r _ [8, 9, 10, 11, 12, 13, 7, 14, 15, 21, 22, 23, 24, 25, 26, 27, 28, 29, 30, 31, 32] (by decide +kernel) (by decide +kernel)) (goodIn_sub (fun _ h => List.mem_cons_of_mem _ (List.mem_append_right _ h)) (by decide +kernel))
set_option maxRecDepth 20000 in
theorem gX0_at_X0_checkPossible : GoodIn wsX0_at (wsV RX0 112 RX0 yX0_checkPossible wsX0_checkPossible) := goodIn_app (goodIn_of _ (by decide +kernel)) ggX0_at_X0_checkPossible
set_option maxRecDepth 20000 in
theorem ggX0_at_X0_turnsAheadOf : GoodIn wsX0_at wsX0_turnsAheadOf := goodIn_r _ [19, 3, 20, 21, 22, 23, 24, 25, 26, 27, 28, 29, 30, 31, 32] (by decide +kernel) (by decide +kernel)
set_option maxRecDepth 20000 in
theorem gX0_at_X0_turnsAheadOf : GoodIn wsX0_at (wsV RX0 137 RX0 yX0_turnsAheadOf wsX0_turnsAheadOf) := goodIn_app (goodIn_of _ (by decide +kernel)) ggX0_at_X0_turnsAheadOf
theorem dX0_at_0 : decode cX0_at 0 = .ok (.iload_n 1, 1) := by decide +kernel
theorem dX0_at_1 : decode cX0_at 1 = .ok (.ifCond .lt 11, 3) := by decide +kernel
theorem dX0_at_4 : decode cX0_at 4 = .ok (.iload_n 1, 1) := by decide +kernel
theorem dX0_at_5 : decode cX0_at 5 = .ok (.aload_n 0, 1) := by decide +kernel
theorem dX0_at_6 : decode cX0_at 6 = .ok (.getfield 41, 3) := by decide +kernel
theorem dX0_at_9 : decode cX0_at 9 = .ok (.if_icmp .lt 13, 3) := by decide +kernel
theorem dX0_at_12 : decode cX0_at 12 = .ok (.new 132, 3) := by decide +kernel
theorem dX0_at_15 : decode cX0_at 15 = .ok (.dup, 1) := by decide +kernel
theorem dX0_at_16 : decode cX0_at 16 = .ok (.ldc 134, 2) := by decide +kernel
theorem dX0_at_18 : decode cX0_at 18 = .ok (.invokespecial 136, 3) := by decide +kernel
theorem dX0_at_21 : decode cX0_at 21 = .ok (.athrow, 1) := by decide +kernel
theorem dX0_at_22 : decode cX0_at 22 = .ok (.aload_n 0, 1) := by decide +kernel
theorem dX0_at_23 : decode cX0_at 23 = .ok (.invokevirtual 112, 3) := by decide +kernel
theorem dX0_at_26 : decode cX0_at 26 = .ok (.iconst 0, 1) := by decide +kernel
theorem dX0_at_27 : decode cX0_at 27 = .ok (.istore_n 2, 1) := by decide +kernel
theorem dX0_at_28 : decode cX0_at 28 = .ok (.iload_n 2, 1) := by decide +kernel
theorem dX0_at_29 : decode cX0_at 29 = .ok (.aload_n 0, 1) := by decide +kernel
theorem dX0_at_30 : decode cX0_at 30 = .ok (.getfield 41, 3) := by decide +kernel
theorem dX0_at_33 : decode cX0_at 33 = .ok (.if_icmp .ge 20, 3) := by decide +kernel
theorem dX0_at_36 : decode cX0_at 36 = .ok (.aload_n 0, 1) := by decide +kernel
theorem dX0_at_37 : decode cX0_at 37 = .ok (.iload_n 2, 1) := by decide +kernel
theorem dX0_at_38 : decode cX0_at 38 = .ok (.invokevirtual 137, 3) := by decide +kernel
theorem dX0_at_41 : decode cX0_at 41 = .ok (.iload_n 1, 1) := by decide +kernel
theorem dX0_at_42 : decode cX0_at 42 = .ok (.if_icmp .ne 5, 3) := by decide +kernel
theorem dX0_at_45 : decode cX0_at 45 = .ok (.iload_n 2, 1) := by decide +kernel
theorem dX0_at_46 : decode cX0_at 46 = .ok (.ireturn, 1) := by decide +kernel
theorem dX0_at_47 : decode cX0_at 47 = .ok (.iinc 2 1, 3) := by decide +kernel
theorem dX0_at_50 : decode cX0_at 50 = .ok (.goto (-22), 3) := by decide +kernel
theorem dX0_at_53 : decode cX0_at 53 = .ok (.iconst (-1), 1) := by decide +kernel
theorem dX0_at_54 : decode cX0_at 54 = .ok (.ireturn, 1) := by decide +kernel
set_option maxRecDepth 20000 in
theorem ggX0_advise_X0_isPossible : GoodIn wsX0_advise wsX0_isPossible := goodIn_r _ [10, 11, 32, 33, 34, 35, 36, 37, 38, 39, 40, 41, 42, 43] (by decide +kernel) (by decide +kernel)
set_option maxRecDepth 20000 in
theorem gX0_advise_X0_isPossible : GoodIn wsX0_advise (wsV RX0 71 RX0 yX0_isPossible wsX0_isPossible) := goodIn_app (goodIn_of _ (by decide +kernel)) ggX0_advise_X0_isPossible
set_option maxRecDepth 20000 in
theorem ggX0_advise_X0_lastOf : GoodIn wsX0_advise wsX0_lastOf := goodIn_r _ [15, 16, 17, 18, 19, 20, 32, 33, 34, 35, 36, 37, 38, 39, 40, 41, 42, 43] (by decide +kernel) (by decide +kernel)
set_option maxRecDepth 20000 in
theorem gX0_advise_X0_lastOf : GoodIn wsX0_advise (wsV RX0 97 RX0 yX0_lastOf wsX0_lastOf) := goodIn_app (goodIn_of _ (by decide +kernel)) ggX0_advise_X0_lastOf
set_option maxRecDepth 20000 in
theorem ggX0_advise_X0_findEarliest : GoodIn wsX0_advise wsX0_findEarliest := goodIn_r _ [24, 16, 25, 26, 27, 9, 28, 3, 4, 29, 30, 31, 32, 33, 34, 35, 36, 37, 38, 39, 40, 41, 42, 43] (by decide +kernel) (by decide +kernel)
set_option maxRecDepth 20000 in
theorem gX0_advise_X0_findEarliest : GoodIn wsX0_advise (wsV RX0 140 RX0 yX0_findEarliest wsX0_findEarliest) := goodIn_app (goodIn_of _ (by decide +kernel)) ggX0_advise_X0_findEarliest
theorem dX0_advise_0 : decode cX0_advise 0 = .ok (.iconst (-1), 1) := by decide +kernel
theorem dX0_advise_1 : decode cX0_advise 1 = .ok (.istore_n 1, 1) := by decide +kernel
theorem dX0_advise_2 : decode cX0_advise 2 = .ok (.aload_n 0, 1) := by decide +kernel
theorem dX0_advise_3 : decode cX0_advise 3 = .ok (.invokevirtual 71, 3) := by decide +kernel
theorem dX0_advise_6 : decode cX0_advise 6 = .ok (.ifCond .eq 14, 3) := by decide +kernel
theorem dX0_advise_9 : decode cX0_advise 9 = .ok (.aload_n 0, 1) := by decide +kernel
theorem dX0_advise_10 : decode cX0_advise 10 = .ok (.aload_n 0, 1) := by decide +kernel
theorem dX0_advise_11 : decode cX0_advise 11 = .ok (.getfield 23, 3) := by decide +kernel
theorem dX0_advise_14 : decode cX0_advise 14 = .ok (.invokevirtual 97, 3) := by decide +kernel
theorem dX0_advise_17 : decode cX0_advise 17 = .ok (.goto 5, 3) := by decide +kernel
theorem dX0_advise_20 : decode cX0_advise 20 = .ok (.ldc 121, 2) := by decide +kernel
theorem dX0_advise_22 : decode cX0_advise 22 = .ok (.istore_n 2, 1) := by decide +kernel
theorem dX0_advise_23 : decode cX0_advise 23 = .ok (.iconst 0, 1) := by decide +kernel
theorem dX0_advise_24 : decode cX0_advise 24 = .ok (.istore_n 3, 1) := by decide +kernel
theorem dX0_advise_25 : decode cX0_advise 25 = .ok (.iload_n 3, 1) := by decide +kernel
theorem dX0_advise_26 : decode cX0_advise 26 = .ok (.aload_n 0, 1) := by decide +kernel
theorem dX0_advise_27 : decode cX0_advise 27 = .ok (.getfield 63, 3) := by decide +kernel
theorem dX0_advise_30 : decode cX0_advise 30 = .ok (.if_icmp .ge 52, 3) := by decide +kernel
theorem dX0_advise_33 : decode cX0_advise 33 = .ok (.aload_n 0, 1) := by decide +kernel
theorem dX0_advise_34 : decode cX0_advise 34 = .ok (.getfield 19, 3) := by decide +kernel
theorem dX0_advise_37 : decode cX0_advise 37 = .ok (.iload_n 3, 1) := by decide +kernel
theorem dX0_advise_38 : decode cX0_advise 38 = .ok (.baload, 1) := by decide +kernel
theorem dX0_advise_39 : decode cX0_advise 39 = .ok (.ifCond .eq 37, 3) := by decide +kernel
theorem dX0_advise_42 : decode cX0_advise 42 = .ok (.aload_n 0, 1) := by decide +kernel
theorem dX0_advise_43 : decode cX0_advise 43 = .ok (.aload_n 0, 1) := by decide +kernel
theorem dX0_advise_44 : decode cX0_advise 44 = .ok (.getfield 29, 3) := by decide +kernel
theorem dX0_advise_47 : decode cX0_advise 47 = .ok (.iload_n 3, 1) := by decide +kernel
theorem dX0_advise_48 : decode cX0_advise 48 = .ok (.invokevirtual 140, 3) := by decide +kernel
theorem dX0_advise_51 : decode cX0_advise 51 = .ok (.iconst (-1), 1) := by decide +kernel
theorem dX0_advise_52 : decode cX0_advise 52 = .ok (.if_icmp .eq 24, 3) := by decide +kernel
theorem dX0_advise_55 : decode cX0_advise 55 = .ok (.aload_n 0, 1) := by decide +kernel
theorem dX0_advise_56 : decode cX0_advise 56 = .ok (.aload_n 0, 1) := by decide +kernel
theorem dX0_advise_57 : decode cX0_advise 57 = .ok (.getfield 29, 3) := by decide +kernel
theorem dX0_advise_60 : decode cX0_advise 60 = .ok (.invokevirtual 97, 3) := by decide +kernel
theorem dX0_advise_63 : decode cX0_advise 63 = .ok (.istore 4, 2) := by decide +kernel
theorem dX0_advise_65 : decode cX0_advise 65 = .ok (.iload 4, 2) := by decide +kernel
theorem dX0_advise_67 : decode cX0_advise 67 = .ok (.iload_n 2, 1) := by decide +kernel
theorem dX0_advise_68 : decode cX0_advise 68 = .ok (.if_icmp .ge 8, 3) := by decide +kernel
theorem dX0_advise_71 : decode cX0_advise 71 = .ok (.iload 4, 2) := by decide +kernel
theorem dX0_advise_73 : decode cX0_advise 73 = .ok (.istore_n 2, 1) := by decide +kernel
theorem dX0_advise_74 : decode cX0_advise 74 = .ok (.iload_n 3, 1) := by decide +kernel
theorem dX0_advise_75 : decode cX0_advise 75 = .ok (.istore_n 1, 1) := by decide +kernel
theorem dX0_advise_76 : decode cX0_advise 76 = .ok (.iinc 3 1, 3) := by decide +kernel
theorem dX0_advise_79 : decode cX0_advise 79 = .ok (.goto (-54), 3) := by decide +kernel
theorem dX0_advise_82 : decode cX0_advise 82 = .ok (.iload_n 1, 1) := by decide +kernel
theorem dX0_advise_83 : decode cX0_advise 83 = .ok (.ireturn, 1) := by decide +kernel
set_option maxRecDepth 20000 in
theorem ggX0_mean_X0_isPossible : GoodIn wsX0_mean wsX0_isPossible := goodIn_r _ [7, 8, 9, 10, 11, 12, 13, 14, 15, 16, 17, 18, 19, 20] (by decide +kernel) (by decide +kernel)
set_option maxRecDepth 20000 in
theorem gX0_mean_X0_isPossible : GoodIn wsX0_mean (wsV RX0 71 RX0 yX0_isPossible wsX0_isPossible) := goodIn_app (goodIn_of _ (by decide +kernel)) ggX0_mean_X0_isPossible
theorem dX0_mean_0 : decode cX0_mean 0 = .ok (.aload_n 0, 1) := by decide +kernel
theorem dX0_mean_1 : decode cX0_mean 1 = .ok (.getfield 41, 3) := by decide +kernel
theorem dX0_mean_4 : decode cX0_mean 4 = .ok (.ifCond .eq 10, 3) := by decide +kernel
theorem dX0_mean_7 : decode cX0_mean 7 = .ok (.aload_n 0, 1) := by decide +kernel
theorem dX0_mean_8 : decode cX0_mean 8 = .ok (.invokevirtual 71, 3) := by decide +kernel
theorem dX0_mean_11 : decode cX0_mean 11 = .ok (.ifCond .ne 5, 3) := by decide +kernel
theorem dX0_mean_14 : decode cX0_mean 14 = .ok (.dconst 0, 1) := by decide +kernel
theorem dX0_mean_15 : decode cX0_mean 15 = .ok (.dreturn, 1) := by decide +kernel
theorem dX0_mean_16 : decode cX0_mean 16 = .ok (.iconst 0, 1) := by decide +kernel
theorem dX0_mean_17 : decode cX0_mean 17 = .ok (.istore_n 1, 1) := by decide +kernel
theorem dX0_mean_18 : decode cX0_mean 18 = .ok (.iconst 0, 1) := by decide +kernel
theorem dX0_mean_19 : decode cX0_mean 19 = .ok (.istore_n 2, 1) := by decide +kernel
theorem dX0_mean_20 : decode cX0_mean 20 = .ok (.iload_n 2, 1) := by decide +kernel
theorem dX0_mean_21 : decode cX0_mean 21 = .ok (.aload_n 0, 1) := by decide +kernel
theorem dX0_mean_22 : decode cX0_mean 22 = .ok (.getfield 41, 3) := by decide +kernel
theorem dX0_mean_25 : decode cX0_mean 25 = .ok (.if_icmp .ge 18, 3) := by decide +kernel
theorem dX0_mean_28 : decode cX0_mean 28 = .ok (.iload_n 1, 1) := by decide +kernel
theorem dX0_mean_29 : decode cX0_mean 29 = .ok (.aload_n 0, 1) := by decide +kernel
theorem dX0_mean_30 : decode cX0_mean 30 = .ok (.getfield 23, 3) := by decide +kernel
theorem dX0_mean_33 : decode cX0_mean 33 = .ok (.iload_n 2, 1) := by decide +kernel
theorem dX0_mean_34 : decode cX0_mean 34 = .ok (.iaload, 1) := by decide +kernel
theorem dX0_mean_35 : decode cX0_mean 35 = .ok (.iadd, 1) := by decide +kernel
theorem dX0_mean_36 : decode cX0_mean 36 = .ok (.istore_n 1, 1) := by decide +kernel
theorem dX0_mean_37 : decode cX0_mean 37 = .ok (.iinc 2 1, 3) := by decide +kernel
theorem dX0_mean_40 : decode cX0_mean 40 = .ok (.goto (-20), 3) := by decide +kernel
theorem dX0_mean_43 : decode cX0_mean 43 = .ok (.iload_n 1, 1) := by decide +kernel
theorem dX0_mean_44 : decode cX0_mean 44 = .ok (.i2d, 1) := by decide +kernel
theorem dX0_mean_45 : decode cX0_mean 45 = .ok (.aload_n 0, 1) := by decide +kernel
theorem dX0_mean_46 : decode cX0_mean 46 = .ok (.getfield 41, 3) := by decide +kernel
theorem dX0_mean_49 : decode cX0_mean 49 = .ok (.i2d, 1) := by decide +kernel
theorem dX0_mean_50 : decode cX0_mean 50 = .ok (.ddiv, 1) := by decide +kernel
theorem dX0_mean_51 : decode cX0_mean 51 = .ok (.dreturn, 1) := by decide +kernel
set_option maxRecDepth 20000 in
theorem ggX0_digest_X0_count : GoodIn wsX0_digest wsX0_count := goodIn_ca (goodIn_r _ [9, 3, 4, 10, 11, 12, 13, 8, 14, 15, 16, 17, 18, 19, 20, 21, 22, 23, 24, 25, 26, 27, 28, 29, 30, 31, 32, 33, 34, 35, 36, 37, 38, 39, 40, 41, 42, 43, 44, 45, 46, 47, 48, 49, 50, 51, 52, 53, 54, 55, 56, 57, 58, 59, 60, 61, 62, 92, 93, 94, 95, 96, 97, 98, 99, 100, 101, 102, 103] (by decide +kernel) (by decide +kernel)) (goodIn_sub (fun _ h => List.mem_cons_of_mem _ (List.mem_append_right _ h)) (by decide +kernel))
set_option maxRecDepth 20000 in
theorem gX0_digest_X0_count : GoodIn wsX0_digest (wsV RX0 148 RX0 yX0_count wsX0_count) := goodIn_app (goodIn_of _ (by decide +kernel)) ggX0_digest_X0_count
set_option maxRecDepth 20000 in
theorem ggX0_digest_X0_about : GoodIn wsX0_digest wsX0_about := goodIn_ca (goodIn_r _ [66, 43, 42, 11, 67, 68, 69, 8, 70, 15, 16, 3, 12, 13, 14, 71, 72, 73, 74, 4, 21, 22, 23, 24, 25, 10, 92, 93, 94, 95, 96, 97, 98, 99, 100, 101, 102, 103] (by decide +kernel) (by decide +kernel)) (goodIn_sub (fun _ h => List.mem_cons_of_mem _ (List.mem_append_right _ h)) (by decide +kernel))
set_option maxRecDepth 20000 in
theorem gX0_digest_X0_about : GoodIn wsX0_digest (wsV RX0 151 RX0 yX0_about wsX0_about) := goodIn_app (goodIn_of _ (by decide +kernel)) ggX0_digest_X0_about
set_option maxRecDepth 20000 in
theorem ggX0_digest_X0_told : GoodIn wsX0_digest wsX0_told := goodIn_ca (goodIn_r _ [78, 43, 42, 44, 21, 79, 80, 81, 8, 82, 15, 16, 4, 12, 13, 14, 38, 39, 40, 41, 11, 22, 23, 24, 25, 10, 92, 93, 94, 95, 96, 97, 98, 99, 100, 101, 102, 103] (by decide +kernel) (by decide +kernel)) (goodIn_sub (fun _ h => List.mem_cons_of_mem _ (List.mem_append_right _ h)) (by decide +kernel))
set_option maxRecDepth 20000 in
theorem gX0_digest_X0_told : GoodIn wsX0_digest (wsV RX0 154 RX0 yX0_told wsX0_told) := goodIn_app (goodIn_of _ (by decide +kernel)) ggX0_digest_X0_told
set_option maxRecDepth 20000 in
theorem ggX0_digest_X0_isPossible : GoodIn wsX0_digest wsX0_isPossible := goodIn_r _ [25, 10, 92, 93, 94, 95, 96, 97, 98, 99, 100, 101, 102, 103] (by decide +kernel) (by decide +kernel)
set_option maxRecDepth 20000 in
theorem gX0_digest_X0_isPossible : GoodIn wsX0_digest (wsV RX0 71 RX0 yX0_isPossible wsX0_isPossible) := goodIn_app (goodIn_of _ (by decide +kernel)) ggX0_digest_X0_isPossible
set_option maxRecDepth 20000 in
theorem ggX0_digest_X0_digestBounds : GoodIn wsX0_digest wsX0_digestBounds := goodIn_r _ [86, 3, 2, 87, 88, 89, 8, 90, 91, 92, 93, 94, 95, 96, 97, 98, 99, 100, 101, 102, 103] (by decide +kernel) (by decide +kernel)
set_option maxRecDepth 20000 in
theorem gX0_digest_X0_digestBounds : GoodIn wsX0_digest (wsV RX0 157 RX0 yX0_digestBounds wsX0_digestBounds) := goodIn_app (goodIn_of _ (by decide +kernel)) ggX0_digest_X0_digestBounds
theorem dX0_digest_0 : decode cX0_digest 0 = .ok (.ldc2_w 144, 3) := by decide +kernel
theorem dX0_digest_3 : decode cX0_digest 3 = .ok (.lstore_n 1, 1) := by decide +kernel
theorem dX0_digest_4 : decode cX0_digest 4 = .ok (.iconst 0, 1) := by decide +kernel
theorem dX0_digest_5 : decode cX0_digest 5 = .ok (.istore_n 3, 1) := by decide +kernel
theorem dX0_digest_6 : decode cX0_digest 6 = .ok (.iload_n 3, 1) := by decide +kernel
theorem dX0_digest_7 : decode cX0_digest 7 = .ok (.bipush 7, 2) := by decide +kernel
theorem dX0_digest_9 : decode cX0_digest 9 = .ok (.if_icmp .ge 22, 3) := by decide +kernel
theorem dX0_digest_12 : decode cX0_digest 12 = .ok (.lload_n 1, 1) := by decide +kernel
theorem dX0_digest_13 : decode cX0_digest 13 = .ok (.ldc2_w 146, 3) := by decide +kernel
theorem dX0_digest_16 : decode cX0_digest 16 = .ok (.lmul, 1) := by decide +kernel
theorem dX0_digest_17 : decode cX0_digest 17 = .ok (.aload_n 0, 1) := by decide +kernel
theorem dX0_digest_18 : decode cX0_digest 18 = .ok (.iload_n 3, 1) := by decide +kernel
theorem dX0_digest_19 : decode cX0_digest 19 = .ok (.invokevirtual 148, 3) := by decide +kernel
theorem dX0_digest_22 : decode cX0_digest 22 = .ok (.i2l, 1) := by decide +kernel
theorem dX0_digest_23 : decode cX0_digest 23 = .ok (.ladd, 1) := by decide +kernel
theorem dX0_digest_24 : decode cX0_digest 24 = .ok (.lstore_n 1, 1) := by decide +kernel
theorem dX0_digest_25 : decode cX0_digest 25 = .ok (.iinc 3 1, 3) := by decide +kernel
theorem dX0_digest_28 : decode cX0_digest 28 = .ok (.goto (-22), 3) := by decide +kernel
theorem dX0_digest_31 : decode cX0_digest 31 = .ok (.iconst 0, 1) := by decide +kernel
theorem dX0_digest_32 : decode cX0_digest 32 = .ok (.istore_n 3, 1) := by decide +kernel
theorem dX0_digest_33 : decode cX0_digest 33 = .ok (.iload_n 3, 1) := by decide +kernel
theorem dX0_digest_34 : decode cX0_digest 34 = .ok (.aload_n 0, 1) := by decide +kernel
theorem dX0_digest_35 : decode cX0_digest 35 = .ok (.getfield 41, 3) := by decide +kernel
theorem dX0_digest_38 : decode cX0_digest 38 = .ok (.if_icmp .ge 39, 3) := by decide +kernel
theorem dX0_digest_41 : decode cX0_digest 41 = .ok (.iconst 0, 1) := by decide +kernel
theorem dX0_digest_42 : decode cX0_digest 42 = .ok (.istore 4, 2) := by decide +kernel
theorem dX0_digest_44 : decode cX0_digest 44 = .ok (.iload 4, 2) := by decide +kernel
theorem dX0_digest_46 : decode cX0_digest 46 = .ok (.iconst 3, 1) := by decide +kernel
theorem dX0_digest_47 : decode cX0_digest 47 = .ok (.if_icmp .ge 24, 3) := by decide +kernel
theorem dX0_digest_50 : decode cX0_digest 50 = .ok (.lload_n 1, 1) := by decide +kernel
theorem dX0_digest_51 : decode cX0_digest 51 = .ok (.ldc2_w 146, 3) := by decide +kernel
theorem dX0_digest_54 : decode cX0_digest 54 = .ok (.lmul, 1) := by decide +kernel
theorem dX0_digest_55 : decode cX0_digest 55 = .ok (.aload_n 0, 1) := by decide +kernel
theorem dX0_digest_56 : decode cX0_digest 56 = .ok (.iload_n 3, 1) := by decide +kernel
theorem dX0_digest_57 : decode cX0_digest 57 = .ok (.iload 4, 2) := by decide +kernel
theorem dX0_digest_59 : decode cX0_digest 59 = .ok (.invokevirtual 151, 3) := by decide +kernel
theorem dX0_digest_62 : decode cX0_digest 62 = .ok (.i2l, 1) := by decide +kernel
theorem dX0_digest_63 : decode cX0_digest 63 = .ok (.ladd, 1) := by decide +kernel
theorem dX0_digest_64 : decode cX0_digest 64 = .ok (.lstore_n 1, 1) := by decide +kernel
theorem dX0_digest_65 : decode cX0_digest 65 = .ok (.iinc 4 1, 3) := by decide +kernel
theorem dX0_digest_68 : decode cX0_digest 68 = .ok (.goto (-24), 3) := by decide +kernel
theorem dX0_digest_71 : decode cX0_digest 71 = .ok (.iinc 3 1, 3) := by decide +kernel
theorem dX0_digest_74 : decode cX0_digest 74 = .ok (.goto (-41), 3) := by decide +kernel
theorem dX0_digest_77 : decode cX0_digest 77 = .ok (.iconst 0, 1) := by decide +kernel
theorem dX0_digest_78 : decode cX0_digest 78 = .ok (.istore_n 3, 1) := by decide +kernel
theorem dX0_digest_79 : decode cX0_digest 79 = .ok (.iload_n 3, 1) := by decide +kernel
theorem dX0_digest_80 : decode cX0_digest 80 = .ok (.aload_n 0, 1) := by decide +kernel
theorem dX0_digest_81 : decode cX0_digest 81 = .ok (.getfield 63, 3) := by decide +kernel
theorem dX0_digest_84 : decode cX0_digest 84 = .ok (.if_icmp .ge 39, 3) := by decide +kernel
theorem dX0_digest_87 : decode cX0_digest 87 = .ok (.iconst 0, 1) := by decide +kernel
theorem dX0_digest_88 : decode cX0_digest 88 = .ok (.istore 4, 2) := by decide +kernel
theorem dX0_digest_90 : decode cX0_digest 90 = .ok (.iload 4, 2) := by decide +kernel
theorem dX0_digest_92 : decode cX0_digest 92 = .ok (.iconst 5, 1) := by decide +kernel
theorem dX0_digest_93 : decode cX0_digest 93 = .ok (.if_icmp .ge 24, 3) := by decide +kernel
theorem dX0_digest_96 : decode cX0_digest 96 = .ok (.lload_n 1, 1) := by decide +kernel
theorem dX0_digest_97 : decode cX0_digest 97 = .ok (.ldc2_w 146, 3) := by decide +kernel
theorem dX0_digest_100 : decode cX0_digest 100 = .ok (.lmul, 1) := by decide +kernel
theorem dX0_digest_101 : decode cX0_digest 101 = .ok (.aload_n 0, 1) := by decide +kernel
theorem dX0_digest_102 : decode cX0_digest 102 = .ok (.iload_n 3, 1) := by decide +kernel
theorem dX0_digest_103 : decode cX0_digest 103 = .ok (.iload 4, 2) := by decide +kernel
theorem dX0_digest_105 : decode cX0_digest 105 = .ok (.invokevirtual 154, 3) := by decide +kernel
theorem dX0_digest_108 : decode cX0_digest 108 = .ok (.i2l, 1) := by decide +kernel
theorem dX0_digest_109 : decode cX0_digest 109 = .ok (.ladd, 1) := by decide +kernel
theorem dX0_digest_110 : decode cX0_digest 110 = .ok (.lstore_n 1, 1) := by decide +kernel
theorem dX0_digest_111 : decode cX0_digest 111 = .ok (.iinc 4 1, 3) := by decide +kernel
theorem dX0_digest_114 : decode cX0_digest 114 = .ok (.goto (-24), 3) := by decide +kernel
theorem dX0_digest_117 : decode cX0_digest 117 = .ok (.iinc 3 1, 3) := by decide +kernel
theorem dX0_digest_120 : decode cX0_digest 120 = .ok (.goto (-41), 3) := by decide +kernel
theorem dX0_digest_123 : decode cX0_digest 123 = .ok (.aload_n 0, 1) := by decide +kernel
theorem dX0_digest_124 : decode cX0_digest 124 = .ok (.invokevirtual 71, 3) := by decide +kernel
theorem dX0_digest_127 : decode cX0_digest 127 = .ok (.ifCond .eq 11, 3) := by decide +kernel
theorem dX0_digest_130 : decode cX0_digest 130 = .ok (.aload_n 0, 1) := by decide +kernel
theorem dX0_digest_131 : decode cX0_digest 131 = .ok (.lload_n 1, 1) := by decide +kernel
theorem dX0_digest_132 : decode cX0_digest 132 = .ok (.invokevirtual 157, 3) := by decide +kernel
theorem dX0_digest_135 : decode cX0_digest 135 = .ok (.goto 4, 3) := by decide +kernel
theorem dX0_digest_138 : decode cX0_digest 138 = .ok (.lload_n 1, 1) := by decide +kernel
theorem dX0_digest_139 : decode cX0_digest 139 = .ok (.lreturn, 1) := by decide +kernel
set_option maxRecDepth 20000 in
theorem ggX0_digestBounds_X0_boundFrom : GoodIn wsX0_digestBounds wsX0_boundFrom := goodIn_r _ [7, 8, 9, 10, 11, 12, 13, 14, 15, 16, 17, 18, 19, 20] (by decide +kernel) (by decide +kernel)
set_option maxRecDepth 20000 in
theorem gX0_digestBounds_X0_boundFrom : GoodIn wsX0_digestBounds (wsV RX0 117 RX0 yX0_boundFrom wsX0_boundFrom) := goodIn_app (goodIn_of _ (by decide +kernel)) ggX0_digestBounds_X0_boundFrom
theorem dX0_digestBounds_0 : decode cX0_digestBounds 0 = .ok (.lload_n 1, 1) := by decide +kernel
theorem dX0_digestBounds_1 : decode cX0_digestBounds 1 = .ok (.lstore_n 3, 1) := by decide +kernel
theorem dX0_digestBounds_2 : decode cX0_digestBounds 2 = .ok (.iconst 0, 1) := by decide +kernel
theorem dX0_digestBounds_3 : decode cX0_digestBounds 3 = .ok (.istore 5, 2) := by decide +kernel
theorem dX0_digestBounds_5 : decode cX0_digestBounds 5 = .ok (.iload 5, 2) := by decide +kernel
theorem dX0_digestBounds_7 : decode cX0_digestBounds 7 = .ok (.aload_n 0, 1) := by decide +kernel
theorem dX0_digestBounds_8 : decode cX0_digestBounds 8 = .ok (.getfield 41, 3) := by decide +kernel
theorem dX0_digestBounds_11 : decode cX0_digestBounds 11 = .ok (.if_icmp .ge 43, 3) := by decide +kernel
theorem dX0_digestBounds_14 : decode cX0_digestBounds 14 = .ok (.iconst 0, 1) := by decide +kernel
theorem dX0_digestBounds_15 : decode cX0_digestBounds 15 = .ok (.istore 6, 2) := by decide +kernel
theorem dX0_digestBounds_17 : decode cX0_digestBounds 17 = .ok (.iload 6, 2) := by decide +kernel
theorem dX0_digestBounds_19 : decode cX0_digestBounds 19 = .ok (.aload_n 0, 1) := by decide +kernel
theorem dX0_digestBounds_20 : decode cX0_digestBounds 20 = .ok (.getfield 41, 3) := by decide +kernel
theorem dX0_digestBounds_23 : decode cX0_digestBounds 23 = .ok (.if_icmp .ge 25, 3) := by decide +kernel
theorem dX0_digestBounds_26 : decode cX0_digestBounds 26 = .ok (.lload_n 3, 1) := by decide +kernel
theorem dX0_digestBounds_27 : decode cX0_digestBounds 27 = .ok (.ldc2_w 146, 3) := by decide +kernel
theorem dX0_digestBounds_30 : decode cX0_digestBounds 30 = .ok (.lmul, 1) := by decide +kernel
theorem dX0_digestBounds_31 : decode cX0_digestBounds 31 = .ok (.aload_n 0, 1) := by decide +kernel
theorem dX0_digestBounds_32 : decode cX0_digestBounds 32 = .ok (.iload 5, 2) := by decide +kernel
theorem dX0_digestBounds_34 : decode cX0_digestBounds 34 = .ok (.iload 6, 2) := by decide +kernel
theorem dX0_digestBounds_36 : decode cX0_digestBounds 36 = .ok (.invokevirtual 117, 3) := by decide +kernel
theorem dX0_digestBounds_39 : decode cX0_digestBounds 39 = .ok (.i2l, 1) := by decide +kernel
theorem dX0_digestBounds_40 : decode cX0_digestBounds 40 = .ok (.ladd, 1) := by decide +kernel
theorem dX0_digestBounds_41 : decode cX0_digestBounds 41 = .ok (.lstore_n 3, 1) := by decide +kernel
theorem dX0_digestBounds_42 : decode cX0_digestBounds 42 = .ok (.iinc 6 1, 3) := by decide +kernel
theorem dX0_digestBounds_45 : decode cX0_digestBounds 45 = .ok (.goto (-28), 3) := by decide +kernel
theorem dX0_digestBounds_48 : decode cX0_digestBounds 48 = .ok (.iinc 5 1, 3) := by decide +kernel
theorem dX0_digestBounds_51 : decode cX0_digestBounds 51 = .ok (.goto (-46), 3) := by decide +kernel
theorem dX0_digestBounds_54 : decode cX0_digestBounds 54 = .ok (.lload_n 3, 1) := by decide +kernel
theorem dX0_digestBounds_55 : decode cX0_digestBounds 55 = .ok (.lreturn, 1) := by decide +kernel
theorem dX0_checkTurn_0 : decode cX0_checkTurn 0 = .ok (.iload_n 1, 1) := by decide +kernel
theorem dX0_checkTurn_1 : decode cX0_checkTurn 1 = .ok (.ifCond .lt 11, 3) := by decide +kernel
theorem dX0_checkTurn_4 : decode cX0_checkTurn 4 = .ok (.iload_n 1, 1) := by decide +kernel
theorem dX0_checkTurn_5 : decode cX0_checkTurn 5 = .ok (.aload_n 0, 1) := by decide +kernel
theorem dX0_checkTurn_6 : decode cX0_checkTurn 6 = .ok (.getfield 41, 3) := by decide +kernel
theorem dX0_checkTurn_9 : decode cX0_checkTurn 9 = .ok (.if_icmp .lt 13, 3) := by decide +kernel
theorem dX0_checkTurn_12 : decode cX0_checkTurn 12 = .ok (.new 132, 3) := by decide +kernel
theorem dX0_checkTurn_15 : decode cX0_checkTurn 15 = .ok (.dup, 1) := by decide +kernel
theorem dX0_checkTurn_16 : decode cX0_checkTurn 16 = .ok (.ldc 161, 2) := by decide +kernel
theorem dX0_checkTurn_18 : decode cX0_checkTurn 18 = .ok (.invokespecial 136, 3) := by decide +kernel
theorem dX0_checkTurn_21 : decode cX0_checkTurn 21 = .ok (.athrow, 1) := by decide +kernel
theorem dX0_checkTurn_22 : decode cX0_checkTurn 22 = .ok (.return_, 1) := by decide +kernel
theorem dX0_checkRope_0 : decode cX0_checkRope 0 = .ok (.iload_n 1, 1) := by decide +kernel
theorem dX0_checkRope_1 : decode cX0_checkRope 1 = .ok (.ifCond .lt 11, 3) := by decide +kernel
theorem dX0_checkRope_4 : decode cX0_checkRope 4 = .ok (.iload_n 1, 1) := by decide +kernel
theorem dX0_checkRope_5 : decode cX0_checkRope 5 = .ok (.aload_n 0, 1) := by decide +kernel
theorem dX0_checkRope_6 : decode cX0_checkRope 6 = .ok (.getfield 63, 3) := by decide +kernel
theorem dX0_checkRope_9 : decode cX0_checkRope 9 = .ok (.if_icmp .lt 13, 3) := by decide +kernel
theorem dX0_checkRope_12 : decode cX0_checkRope 12 = .ok (.new 132, 3) := by decide +kernel
theorem dX0_checkRope_15 : decode cX0_checkRope 15 = .ok (.dup, 1) := by decide +kernel
theorem dX0_checkRope_16 : decode cX0_checkRope 16 = .ok (.ldc 163, 2) := by decide +kernel
theorem dX0_checkRope_18 : decode cX0_checkRope 18 = .ok (.invokespecial 136, 3) := by decide +kernel
theorem dX0_checkRope_21 : decode cX0_checkRope 21 = .ok (.athrow, 1) := by decide +kernel
theorem dX0_checkRope_22 : decode cX0_checkRope 22 = .ok (.return_, 1) := by decide +kernel
theorem dX0_checkKind_0 : decode cX0_checkKind 0 = .ok (.iload_n 0, 1) := by decide +kernel
theorem dX0_checkKind_1 : decode cX0_checkKind 1 = .ok (.ifCond .lt 8, 3) := by decide +kernel
theorem dX0_checkKind_4 : decode cX0_checkKind 4 = .ok (.iload_n 0, 1) := by decide +kernel
theorem dX0_checkKind_5 : decode cX0_checkKind 5 = .ok (.iload_n 1, 1) := by decide +kernel
theorem dX0_checkKind_6 : decode cX0_checkKind 6 = .ok (.if_icmp .lt 13, 3) := by decide +kernel
theorem dX0_checkKind_9 : decode cX0_checkKind 9 = .ok (.new 132, 3) := by decide +kernel
theorem dX0_checkKind_12 : decode cX0_checkKind 12 = .ok (.dup, 1) := by decide +kernel
theorem dX0_checkKind_13 : decode cX0_checkKind 13 = .ok (.ldc 165, 2) := by decide +kernel
theorem dX0_checkKind_15 : decode cX0_checkKind 15 = .ok (.invokespecial 136, 3) := by decide +kernel
theorem dX0_checkKind_18 : decode cX0_checkKind 18 = .ok (.athrow, 1) := by decide +kernel
theorem dX0_checkKind_19 : decode cX0_checkKind 19 = .ok (.return_, 1) := by decide +kernel
theorem dX0_checkTwoTurns_0 : decode cX0_checkTwoTurns 0 = .ok (.iload_n 0, 1) := by decide +kernel
theorem dX0_checkTwoTurns_1 : decode cX0_checkTwoTurns 1 = .ok (.iload_n 1, 1) := by decide +kernel
theorem dX0_checkTwoTurns_2 : decode cX0_checkTwoTurns 2 = .ok (.if_icmp .ne 13, 3) := by decide +kernel
theorem dX0_checkTwoTurns_5 : decode cX0_checkTwoTurns 5 = .ok (.new 107, 3) := by decide +kernel
theorem dX0_checkTwoTurns_8 : decode cX0_checkTwoTurns 8 = .ok (.dup, 1) := by decide +kernel
theorem dX0_checkTwoTurns_9 : decode cX0_checkTwoTurns 9 = .ok (.ldc 167, 2) := by decide +kernel
theorem dX0_checkTwoTurns_11 : decode cX0_checkTwoTurns 11 = .ok (.invokespecial 111, 3) := by decide +kernel
theorem dX0_checkTwoTurns_14 : decode cX0_checkTwoTurns 14 = .ok (.athrow, 1) := by decide +kernel
theorem dX0_checkTwoTurns_15 : decode cX0_checkTwoTurns 15 = .ok (.return_, 1) := by decide +kernel
theorem dX0_checkLength_0 : decode cX0_checkLength 0 = .ok (.iload_n 0, 1) := by decide +kernel
theorem dX0_checkLength_1 : decode cX0_checkLength 1 = .ok (.bipush (-99), 2) := by decide +kernel
theorem dX0_checkLength_3 : decode cX0_checkLength 3 = .ok (.if_icmp .lt 9, 3) := by decide +kernel
theorem dX0_checkLength_6 : decode cX0_checkLength 6 = .ok (.iload_n 0, 1) := by decide +kernel
theorem dX0_checkLength_7 : decode cX0_checkLength 7 = .ok (.bipush 99, 2) := by decide +kernel
theorem dX0_checkLength_9 : decode cX0_checkLength 9 = .ok (.if_icmp .le 13, 3) := by decide +kernel
theorem dX0_checkLength_12 : decode cX0_checkLength 12 = .ok (.new 107, 3) := by decide +kernel
theorem dX0_checkLength_15 : decode cX0_checkLength 15 = .ok (.dup, 1) := by decide +kernel
theorem dX0_checkLength_16 : decode cX0_checkLength 16 = .ok (.ldc 169, 2) := by decide +kernel
theorem dX0_checkLength_18 : decode cX0_checkLength 18 = .ok (.invokespecial 111, 3) := by decide +kernel
theorem dX0_checkLength_21 : decode cX0_checkLength 21 = .ok (.athrow, 1) := by decide +kernel
theorem dX0_checkLength_22 : decode cX0_checkLength 22 = .ok (.return_, 1) := by decide +kernel
set_option maxRecDepth 20000 in
theorem ggX0_checkPossible_X0_isPossible : GoodIn wsX0_checkPossible wsX0_isPossible := goodIn_r _ [7, 8, 9, 10, 11, 12, 13, 14, 15, 16, 17, 18, 19, 20] (by decide +kernel) (by decide +kernel)
set_option maxRecDepth 20000 in
theorem gX0_checkPossible_X0_isPossible : GoodIn wsX0_checkPossible (wsV RX0 71 RX0 yX0_isPossible wsX0_isPossible) := goodIn_app (goodIn_of _ (by decide +kernel)) ggX0_checkPossible_X0_isPossible
theorem dX0_checkPossible_0 : decode cX0_checkPossible 0 = .ok (.aload_n 0, 1) := by decide +kernel
theorem dX0_checkPossible_1 : decode cX0_checkPossible 1 = .ok (.invokevirtual 71, 3) := by decide +kernel
theorem dX0_checkPossible_4 : decode cX0_checkPossible 4 = .ok (.ifCond .ne 13, 3) := by decide +kernel
theorem dX0_checkPossible_7 : decode cX0_checkPossible 7 = .ok (.new 45, 3) := by decide +kernel
theorem dX0_checkPossible_10 : decode cX0_checkPossible 10 = .ok (.dup, 1) := by decide +kernel
theorem dX0_checkPossible_11 : decode cX0_checkPossible 11 = .ok (.ldc 171, 2) := by decide +kernel
theorem dX0_checkPossible_13 : decode cX0_checkPossible 13 = .ok (.invokespecial 49, 3) := by decide +kernel
theorem dX0_checkPossible_16 : decode cX0_checkPossible 16 = .ok (.athrow, 1) := by decide +kernel
theorem dX0_checkPossible_17 : decode cX0_checkPossible 17 = .ok (.return_, 1) := by decide +kernel
theorem dX0_isPossible_0 : decode cX0_isPossible 0 = .ok (.aload_n 0, 1) := by decide +kernel
theorem dX0_isPossible_1 : decode cX0_isPossible 1 = .ok (.getfield 94, 3) := by decide +kernel
theorem dX0_isPossible_4 : decode cX0_isPossible 4 = .ok (.iconst (-1), 1) := by decide +kernel
theorem dX0_isPossible_5 : decode cX0_isPossible 5 = .ok (.if_icmp .eq 7, 3) := by decide +kernel
theorem dX0_isPossible_8 : decode cX0_isPossible 8 = .ok (.iconst 1, 1) := by decide +kernel
theorem dX0_isPossible_9 : decode cX0_isPossible 9 = .ok (.goto 4, 3) := by decide +kernel
theorem dX0_isPossible_12 : decode cX0_isPossible 12 = .ok (.iconst 0, 1) := by decide +kernel
theorem dX0_isPossible_13 : decode cX0_isPossible 13 = .ok (.ireturn, 1) := by decide +kernel
set_option maxRecDepth 20000 in
theorem ggX0_settle_X0_findEarliest : GoodIn wsX0_settle wsX0_findEarliest := goodIn_r _ [7, 8, 9, 10, 11, 6, 12, 13, 14, 15, 16, 17, 48, 49, 50, 51, 52, 53, 54, 55, 56, 57, 58, 59] (by decide +kernel) (by decide +kernel)
set_option maxRecDepth 20000 in
theorem gX0_settle_X0_findEarliest : GoodIn wsX0_settle (wsV RX0 140 RX0 yX0_findEarliest wsX0_findEarliest) := goodIn_app (goodIn_of _ (by decide +kernel)) ggX0_settle_X0_findEarliest
set_option maxRecDepth 20000 in
theorem ggX0_settle_X0_isPossible : GoodIn wsX0_settle wsX0_isPossible := goodIn_r _ [21, 2, 48, 49, 50, 51, 52, 53, 54, 55, 56, 57, 58, 59] (by decide +kernel) (by decide +kernel)
set_option maxRecDepth 20000 in
theorem gX0_settle_X0_isPossible : GoodIn wsX0_settle (wsV RX0 71 RX0 yX0_isPossible wsX0_isPossible) := goodIn_app (goodIn_of _ (by decide +kernel)) ggX0_settle_X0_isPossible
set_option maxRecDepth 20000 in
theorem ggX0_settle_X0_findBounds : GoodIn wsX0_settle wsX0_findBounds := goodIn_r _ [25, 8, 26, 27, 28, 29, 6, 30, 31, 13, 14, 17, 15, 16, 32, 33, 34, 35, 36, 37, 38, 39, 40, 41, 42, 43, 44, 45, 46, 47, 48, 49, 50, 51, 52, 53, 54, 55, 56, 57, 58, 59] (by decide +kernel) (by decide +kernel)
set_option maxRecDepth 20000 in
theorem gX0_settle_X0_findBounds : GoodIn wsX0_settle (wsV RX0 173 RX0 yX0_findBounds wsX0_findBounds) := goodIn_app (goodIn_of _ (by decide +kernel)) ggX0_settle_X0_findBounds
theorem dX0_settle_0 : decode cX0_settle 0 = .ok (.aload_n 0, 1) := by decide +kernel
theorem dX0_settle_1 : decode cX0_settle 1 = .ok (.aload_n 0, 1) := by decide +kernel
theorem dX0_settle_2 : decode cX0_settle 2 = .ok (.aload_n 0, 1) := by decide +kernel
theorem dX0_settle_3 : decode cX0_settle 3 = .ok (.getfield 23, 3) := by decide +kernel
theorem dX0_settle_6 : decode cX0_settle 6 = .ok (.iconst (-1), 1) := by decide +kernel
theorem dX0_settle_7 : decode cX0_settle 7 = .ok (.invokevirtual 140, 3) := by decide +kernel
theorem dX0_settle_10 : decode cX0_settle 10 = .ok (.putfield 94, 3) := by decide +kernel
theorem dX0_settle_13 : decode cX0_settle 13 = .ok (.aload_n 0, 1) := by decide +kernel
theorem dX0_settle_14 : decode cX0_settle 14 = .ok (.invokevirtual 71, 3) := by decide +kernel
theorem dX0_settle_17 : decode cX0_settle 17 = .ok (.ifCond .eq 7, 3) := by decide +kernel
theorem dX0_settle_20 : decode cX0_settle 20 = .ok (.aload_n 0, 1) := by decide +kernel
theorem dX0_settle_21 : decode cX0_settle 21 = .ok (.invokevirtual 173, 3) := by decide +kernel
theorem dX0_settle_24 : decode cX0_settle 24 = .ok (.return_, 1) := by decide +kernel
set_option maxRecDepth 20000 in
theorem ggX0_findEarliest_X0_pushOnce : GoodIn wsX0_findEarliest wsX0_pushOnce := goodIn_r _ [6, 7, 8, 9, 10, 11, 12, 13, 14, 15, 16, 17, 18, 19, 20, 21, 22, 23] (by decide +kernel) (by decide +kernel)
set_option maxRecDepth 20000 in
theorem gX0_findEarliest_X0_pushOnce : GoodIn wsX0_findEarliest (wsV RX0 176 RX0 yX0_pushOnce wsX0_pushOnce) := goodIn_app (goodIn_of _ (by decide +kernel)) ggX0_findEarliest_X0_pushOnce
theorem dX0_findEarliest_0 : decode cX0_findEarliest 0 = .ok (.iconst 0, 1) := by decide +kernel
theorem dX0_findEarliest_1 : decode cX0_findEarliest 1 = .ok (.istore_n 3, 1) := by decide +kernel
theorem dX0_findEarliest_2 : decode cX0_findEarliest 2 = .ok (.iload_n 3, 1) := by decide +kernel
theorem dX0_findEarliest_3 : decode cX0_findEarliest 3 = .ok (.aload_n 0, 1) := by decide +kernel
theorem dX0_findEarliest_4 : decode cX0_findEarliest 4 = .ok (.getfield 41, 3) := by decide +kernel
theorem dX0_findEarliest_7 : decode cX0_findEarliest 7 = .ok (.if_icmp .ge 13, 3) := by decide +kernel
theorem dX0_findEarliest_10 : decode cX0_findEarliest 10 = .ok (.aload_n 1, 1) := by decide +kernel
theorem dX0_findEarliest_11 : decode cX0_findEarliest 11 = .ok (.iload_n 3, 1) := by decide +kernel
theorem dX0_findEarliest_12 : decode cX0_findEarliest 12 = .ok (.iconst 0, 1) := by decide +kernel
theorem dX0_findEarliest_13 : decode cX0_findEarliest 13 = .ok (.iastore, 1) := by decide +kernel
theorem dX0_findEarliest_14 : decode cX0_findEarliest 14 = .ok (.iinc 3 1, 3) := by decide +kernel
theorem dX0_findEarliest_17 : decode cX0_findEarliest 17 = .ok (.goto (-15), 3) := by decide +kernel
theorem dX0_findEarliest_20 : decode cX0_findEarliest 20 = .ok (.iconst 0, 1) := by decide +kernel
theorem dX0_findEarliest_21 : decode cX0_findEarliest 21 = .ok (.istore_n 3, 1) := by decide +kernel
theorem dX0_findEarliest_22 : decode cX0_findEarliest 22 = .ok (.iload_n 3, 1) := by decide +kernel
theorem dX0_findEarliest_23 : decode cX0_findEarliest 23 = .ok (.aload_n 0, 1) := by decide +kernel
theorem dX0_findEarliest_24 : decode cX0_findEarliest 24 = .ok (.getfield 41, 3) := by decide +kernel
theorem dX0_findEarliest_27 : decode cX0_findEarliest 27 = .ok (.if_icmp .gt 22, 3) := by decide +kernel
theorem dX0_findEarliest_30 : decode cX0_findEarliest 30 = .ok (.aload_n 0, 1) := by decide +kernel
theorem dX0_findEarliest_31 : decode cX0_findEarliest 31 = .ok (.aload_n 1, 1) := by decide +kernel
theorem dX0_findEarliest_32 : decode cX0_findEarliest 32 = .ok (.iload_n 2, 1) := by decide +kernel
theorem dX0_findEarliest_33 : decode cX0_findEarliest 33 = .ok (.invokevirtual 176, 3) := by decide +kernel
theorem dX0_findEarliest_36 : decode cX0_findEarliest 36 = .ok (.ifCond .ne 7, 3) := by decide +kernel
theorem dX0_findEarliest_39 : decode cX0_findEarliest 39 = .ok (.iload_n 3, 1) := by decide +kernel
theorem dX0_findEarliest_40 : decode cX0_findEarliest 40 = .ok (.iconst 1, 1) := by decide +kernel
theorem dX0_findEarliest_41 : decode cX0_findEarliest 41 = .ok (.iadd, 1) := by decide +kernel
theorem dX0_findEarliest_42 : decode cX0_findEarliest 42 = .ok (.ireturn, 1) := by decide +kernel
theorem dX0_findEarliest_43 : decode cX0_findEarliest 43 = .ok (.iinc 3 1, 3) := by decide +kernel
theorem dX0_findEarliest_46 : decode cX0_findEarliest 46 = .ok (.goto (-24), 3) := by decide +kernel
theorem dX0_findEarliest_49 : decode cX0_findEarliest 49 = .ok (.iconst (-1), 1) := by decide +kernel
theorem dX0_findEarliest_50 : decode cX0_findEarliest 50 = .ok (.ireturn, 1) := by decide +kernel
theorem dX0_pushOnce_0 : decode cX0_pushOnce 0 = .ok (.iconst 0, 1) := by decide +kernel
theorem dX0_pushOnce_1 : decode cX0_pushOnce 1 = .ok (.istore_n 3, 1) := by decide +kernel
theorem dX0_pushOnce_2 : decode cX0_pushOnce 2 = .ok (.iconst 0, 1) := by decide +kernel
theorem dX0_pushOnce_3 : decode cX0_pushOnce 3 = .ok (.istore 4, 2) := by decide +kernel
theorem dX0_pushOnce_5 : decode cX0_pushOnce 5 = .ok (.iload 4, 2) := by decide +kernel
theorem dX0_pushOnce_7 : decode cX0_pushOnce 7 = .ok (.aload_n 0, 1) := by decide +kernel
theorem dX0_pushOnce_8 : decode cX0_pushOnce 8 = .ok (.getfield 63, 3) := by decide +kernel
theorem dX0_pushOnce_11 : decode cX0_pushOnce 11 = .ok (.if_icmp .ge 71, 3) := by decide +kernel
theorem dX0_pushOnce_14 : decode cX0_pushOnce 14 = .ok (.aload_n 0, 1) := by decide +kernel
theorem dX0_pushOnce_15 : decode cX0_pushOnce 15 = .ok (.getfield 19, 3) := by decide +kernel
theorem dX0_pushOnce_18 : decode cX0_pushOnce 18 = .ok (.iload 4, 2) := by decide +kernel
theorem dX0_pushOnce_20 : decode cX0_pushOnce 20 = .ok (.baload, 1) := by decide +kernel
theorem dX0_pushOnce_21 : decode cX0_pushOnce 21 = .ok (.ifCond .eq 55, 3) := by decide +kernel
theorem dX0_pushOnce_24 : decode cX0_pushOnce 24 = .ok (.iload 4, 2) := by decide +kernel
theorem dX0_pushOnce_26 : decode cX0_pushOnce 26 = .ok (.iload_n 2, 1) := by decide +kernel
theorem dX0_pushOnce_27 : decode cX0_pushOnce 27 = .ok (.if_icmp .eq 49, 3) := by decide +kernel
theorem dX0_pushOnce_30 : decode cX0_pushOnce 30 = .ok (.aload_n 1, 1) := by decide +kernel
theorem dX0_pushOnce_31 : decode cX0_pushOnce 31 = .ok (.aload_n 0, 1) := by decide +kernel
theorem dX0_pushOnce_32 : decode cX0_pushOnce 32 = .ok (.getfield 13, 3) := by decide +kernel
theorem dX0_pushOnce_35 : decode cX0_pushOnce 35 = .ok (.iload 4, 2) := by decide +kernel
theorem dX0_pushOnce_37 : decode cX0_pushOnce 37 = .ok (.iaload, 1) := by decide +kernel
theorem dX0_pushOnce_38 : decode cX0_pushOnce 38 = .ok (.iaload, 1) := by decide +kernel
theorem dX0_pushOnce_39 : decode cX0_pushOnce 39 = .ok (.aload_n 0, 1) := by decide +kernel
theorem dX0_pushOnce_40 : decode cX0_pushOnce 40 = .ok (.getfield 16, 3) := by decide +kernel
theorem dX0_pushOnce_43 : decode cX0_pushOnce 43 = .ok (.iload 4, 2) := by decide +kernel
theorem dX0_pushOnce_45 : decode cX0_pushOnce 45 = .ok (.iaload, 1) := by decide +kernel
theorem dX0_pushOnce_46 : decode cX0_pushOnce 46 = .ok (.isub, 1) := by decide +kernel
theorem dX0_pushOnce_47 : decode cX0_pushOnce 47 = .ok (.istore 5, 2) := by decide +kernel
theorem dX0_pushOnce_49 : decode cX0_pushOnce 49 = .ok (.aload_n 1, 1) := by decide +kernel
theorem dX0_pushOnce_50 : decode cX0_pushOnce 50 = .ok (.aload_n 0, 1) := by decide +kernel
theorem dX0_pushOnce_51 : decode cX0_pushOnce 51 = .ok (.getfield 9, 3) := by decide +kernel
theorem dX0_pushOnce_54 : decode cX0_pushOnce 54 = .ok (.iload 4, 2) := by decide +kernel
theorem dX0_pushOnce_56 : decode cX0_pushOnce 56 = .ok (.iaload, 1) := by decide +kernel
theorem dX0_pushOnce_57 : decode cX0_pushOnce 57 = .ok (.iaload, 1) := by decide +kernel
theorem dX0_pushOnce_58 : decode cX0_pushOnce 58 = .ok (.iload 5, 2) := by decide +kernel
theorem dX0_pushOnce_60 : decode cX0_pushOnce 60 = .ok (.if_icmp .ge 16, 3) := by decide +kernel
theorem dX0_pushOnce_63 : decode cX0_pushOnce 63 = .ok (.aload_n 1, 1) := by decide +kernel
theorem dX0_pushOnce_64 : decode cX0_pushOnce 64 = .ok (.aload_n 0, 1) := by decide +kernel
theorem dX0_pushOnce_65 : decode cX0_pushOnce 65 = .ok (.getfield 9, 3) := by decide +kernel
theorem dX0_pushOnce_68 : decode cX0_pushOnce 68 = .ok (.iload 4, 2) := by decide +kernel
theorem dX0_pushOnce_70 : decode cX0_pushOnce 70 = .ok (.iaload, 1) := by decide +kernel
theorem dX0_pushOnce_71 : decode cX0_pushOnce 71 = .ok (.iload 5, 2) := by decide +kernel
theorem dX0_pushOnce_73 : decode cX0_pushOnce 73 = .ok (.iastore, 1) := by decide +kernel
theorem dX0_pushOnce_74 : decode cX0_pushOnce 74 = .ok (.iconst 1, 1) := by decide +kernel
theorem dX0_pushOnce_75 : decode cX0_pushOnce 75 = .ok (.istore_n 3, 1) := by decide +kernel
theorem dX0_pushOnce_76 : decode cX0_pushOnce 76 = .ok (.iinc 4 1, 3) := by decide +kernel
theorem dX0_pushOnce_79 : decode cX0_pushOnce 79 = .ok (.goto (-74), 3) := by decide +kernel
theorem dX0_pushOnce_82 : decode cX0_pushOnce 82 = .ok (.iload_n 3, 1) := by decide +kernel
theorem dX0_pushOnce_83 : decode cX0_pushOnce 83 = .ok (.ireturn, 1) := by decide +kernel
theorem dX0_lastOf_0 : decode cX0_lastOf 0 = .ok (.iconst 0, 1) := by decide +kernel
theorem dX0_lastOf_1 : decode cX0_lastOf 1 = .ok (.istore_n 2, 1) := by decide +kernel
theorem dX0_lastOf_2 : decode cX0_lastOf 2 = .ok (.iconst 0, 1) := by decide +kernel
theorem dX0_lastOf_3 : decode cX0_lastOf 3 = .ok (.istore_n 3, 1) := by decide +kernel
theorem dX0_lastOf_4 : decode cX0_lastOf 4 = .ok (.iload_n 3, 1) := by decide +kernel
theorem dX0_lastOf_5 : decode cX0_lastOf 5 = .ok (.aload_n 0, 1) := by decide +kernel
theorem dX0_lastOf_6 : decode cX0_lastOf 6 = .ok (.getfield 41, 3) := by decide +kernel
theorem dX0_lastOf_9 : decode cX0_lastOf 9 = .ok (.if_icmp .ge 17, 3) := by decide +kernel
theorem dX0_lastOf_12 : decode cX0_lastOf 12 = .ok (.iload_n 2, 1) := by decide +kernel
theorem dX0_lastOf_13 : decode cX0_lastOf 13 = .ok (.aload_n 1, 1) := by decide +kernel
theorem dX0_lastOf_14 : decode cX0_lastOf 14 = .ok (.iload_n 3, 1) := by decide +kernel
theorem dX0_lastOf_15 : decode cX0_lastOf 15 = .ok (.iaload, 1) := by decide +kernel
theorem dX0_lastOf_16 : decode cX0_lastOf 16 = .ok (.invokestatic 180, 3) := by decide +kernel
theorem dX0_lastOf_19 : decode cX0_lastOf 19 = .ok (.istore_n 2, 1) := by decide +kernel
theorem dX0_lastOf_20 : decode cX0_lastOf 20 = .ok (.iinc 3 1, 3) := by decide +kernel
theorem dX0_lastOf_23 : decode cX0_lastOf 23 = .ok (.goto (-19), 3) := by decide +kernel
theorem dX0_lastOf_26 : decode cX0_lastOf 26 = .ok (.iload_n 2, 1) := by decide +kernel
theorem dX0_lastOf_27 : decode cX0_lastOf 27 = .ok (.ireturn, 1) := by decide +kernel
theorem dX0_turnsAheadOf_0 : decode cX0_turnsAheadOf 0 = .ok (.iconst 0, 1) := by decide +kernel
theorem dX0_turnsAheadOf_1 : decode cX0_turnsAheadOf 1 = .ok (.istore_n 2, 1) := by decide +kernel
theorem dX0_turnsAheadOf_2 : decode cX0_turnsAheadOf 2 = .ok (.iconst 0, 1) := by decide +kernel
theorem dX0_turnsAheadOf_3 : decode cX0_turnsAheadOf 3 = .ok (.istore_n 3, 1) := by decide +kernel
theorem dX0_turnsAheadOf_4 : decode cX0_turnsAheadOf 4 = .ok (.iload_n 3, 1) := by decide +kernel
theorem dX0_turnsAheadOf_5 : decode cX0_turnsAheadOf 5 = .ok (.aload_n 0, 1) := by decide +kernel
theorem dX0_turnsAheadOf_6 : decode cX0_turnsAheadOf 6 = .ok (.getfield 41, 3) := by decide +kernel
theorem dX0_turnsAheadOf_9 : decode cX0_turnsAheadOf 9 = .ok (.if_icmp .ge 59, 3) := by decide +kernel
theorem dX0_turnsAheadOf_12 : decode cX0_turnsAheadOf 12 = .ok (.aload_n 0, 1) := by decide +kernel
theorem dX0_turnsAheadOf_13 : decode cX0_turnsAheadOf 13 = .ok (.getfield 23, 3) := by decide +kernel
theorem dX0_turnsAheadOf_16 : decode cX0_turnsAheadOf 16 = .ok (.iload_n 3, 1) := by decide +kernel
theorem dX0_turnsAheadOf_17 : decode cX0_turnsAheadOf 17 = .ok (.iaload, 1) := by decide +kernel
theorem dX0_turnsAheadOf_18 : decode cX0_turnsAheadOf 18 = .ok (.aload_n 0, 1) := by decide +kernel
theorem dX0_turnsAheadOf_19 : decode cX0_turnsAheadOf 19 = .ok (.getfield 23, 3) := by decide +kernel
theorem dX0_turnsAheadOf_22 : decode cX0_turnsAheadOf 22 = .ok (.iload_n 1, 1) := by decide +kernel
theorem dX0_turnsAheadOf_23 : decode cX0_turnsAheadOf 23 = .ok (.iaload, 1) := by decide +kernel
theorem dX0_turnsAheadOf_24 : decode cX0_turnsAheadOf 24 = .ok (.if_icmp .ge 7, 3) := by decide +kernel
theorem dX0_turnsAheadOf_27 : decode cX0_turnsAheadOf 27 = .ok (.iconst 1, 1) := by decide +kernel
theorem dX0_turnsAheadOf_28 : decode cX0_turnsAheadOf 28 = .ok (.goto 4, 3) := by decide +kernel
theorem dX0_turnsAheadOf_31 : decode cX0_turnsAheadOf 31 = .ok (.iconst 0, 1) := by decide +kernel
theorem dX0_turnsAheadOf_32 : decode cX0_turnsAheadOf 32 = .ok (.istore 4, 2) := by decide +kernel
theorem dX0_turnsAheadOf_34 : decode cX0_turnsAheadOf 34 = .ok (.iload 4, 2) := by decide +kernel
theorem dX0_turnsAheadOf_36 : decode cX0_turnsAheadOf 36 = .ok (.ifCond .ne 23, 3) := by decide +kernel
theorem dX0_turnsAheadOf_39 : decode cX0_turnsAheadOf 39 = .ok (.aload_n 0, 1) := by decide +kernel
theorem dX0_turnsAheadOf_40 : decode cX0_turnsAheadOf 40 = .ok (.getfield 23, 3) := by decide +kernel
theorem dX0_turnsAheadOf_43 : decode cX0_turnsAheadOf 43 = .ok (.iload_n 3, 1) := by decide +kernel
theorem dX0_turnsAheadOf_44 : decode cX0_turnsAheadOf 44 = .ok (.iaload, 1) := by decide +kernel
theorem dX0_turnsAheadOf_45 : decode cX0_turnsAheadOf 45 = .ok (.aload_n 0, 1) := by decide +kernel
theorem dX0_turnsAheadOf_46 : decode cX0_turnsAheadOf 46 = .ok (.getfield 23, 3) := by decide +kernel
theorem dX0_turnsAheadOf_49 : decode cX0_turnsAheadOf 49 = .ok (.iload_n 1, 1) := by decide +kernel
theorem dX0_turnsAheadOf_50 : decode cX0_turnsAheadOf 50 = .ok (.iaload, 1) := by decide +kernel
theorem dX0_turnsAheadOf_51 : decode cX0_turnsAheadOf 51 = .ok (.if_icmp .ne 11, 3) := by decide +kernel
theorem dX0_turnsAheadOf_54 : decode cX0_turnsAheadOf 54 = .ok (.iload_n 3, 1) := by decide +kernel
theorem dX0_turnsAheadOf_55 : decode cX0_turnsAheadOf 55 = .ok (.iload_n 1, 1) := by decide +kernel
theorem dX0_turnsAheadOf_56 : decode cX0_turnsAheadOf 56 = .ok (.if_icmp .ge 6, 3) := by decide +kernel
theorem dX0_turnsAheadOf_59 : decode cX0_turnsAheadOf 59 = .ok (.iinc 2 1, 3) := by decide +kernel
theorem dX0_turnsAheadOf_62 : decode cX0_turnsAheadOf 62 = .ok (.iinc 3 1, 3) := by decide +kernel
theorem dX0_turnsAheadOf_65 : decode cX0_turnsAheadOf 65 = .ok (.goto (-61), 3) := by decide +kernel
theorem dX0_turnsAheadOf_68 : decode cX0_turnsAheadOf 68 = .ok (.iload_n 2, 1) := by decide +kernel
theorem dX0_turnsAheadOf_69 : decode cX0_turnsAheadOf 69 = .ok (.ireturn, 1) := by decide +kernel
theorem dX0_tiedRopes_0 : decode cX0_tiedRopes 0 = .ok (.iconst 0, 1) := by decide +kernel
theorem dX0_tiedRopes_1 : decode cX0_tiedRopes 1 = .ok (.istore_n 1, 1) := by decide +kernel
theorem dX0_tiedRopes_2 : decode cX0_tiedRopes 2 = .ok (.iconst 0, 1) := by decide +kernel
theorem dX0_tiedRopes_3 : decode cX0_tiedRopes 3 = .ok (.istore_n 2, 1) := by decide +kernel
theorem dX0_tiedRopes_4 : decode cX0_tiedRopes 4 = .ok (.iload_n 2, 1) := by decide +kernel
theorem dX0_tiedRopes_5 : decode cX0_tiedRopes 5 = .ok (.aload_n 0, 1) := by decide +kernel
theorem dX0_tiedRopes_6 : decode cX0_tiedRopes 6 = .ok (.getfield 63, 3) := by decide +kernel
theorem dX0_tiedRopes_9 : decode cX0_tiedRopes 9 = .ok (.if_icmp .ge 21, 3) := by decide +kernel
theorem dX0_tiedRopes_12 : decode cX0_tiedRopes 12 = .ok (.aload_n 0, 1) := by decide +kernel
theorem dX0_tiedRopes_13 : decode cX0_tiedRopes 13 = .ok (.getfield 19, 3) := by decide +kernel
theorem dX0_tiedRopes_16 : decode cX0_tiedRopes 16 = .ok (.iload_n 2, 1) := by decide +kernel
theorem dX0_tiedRopes_17 : decode cX0_tiedRopes 17 = .ok (.baload, 1) := by decide +kernel
theorem dX0_tiedRopes_18 : decode cX0_tiedRopes 18 = .ok (.ifCond .eq 6, 3) := by decide +kernel
theorem dX0_tiedRopes_21 : decode cX0_tiedRopes 21 = .ok (.iinc 1 1, 3) := by decide +kernel
theorem dX0_tiedRopes_24 : decode cX0_tiedRopes 24 = .ok (.iinc 2 1, 3) := by decide +kernel
theorem dX0_tiedRopes_27 : decode cX0_tiedRopes 27 = .ok (.goto (-23), 3) := by decide +kernel
theorem dX0_tiedRopes_30 : decode cX0_tiedRopes 30 = .ok (.iload_n 1, 1) := by decide +kernel
theorem dX0_tiedRopes_31 : decode cX0_tiedRopes 31 = .ok (.ireturn, 1) := by decide +kernel
theorem dX0_tiedEndsAt_0 : decode cX0_tiedEndsAt 0 = .ok (.iconst 0, 1) := by decide +kernel
theorem dX0_tiedEndsAt_1 : decode cX0_tiedEndsAt 1 = .ok (.istore_n 3, 1) := by decide +kernel
theorem dX0_tiedEndsAt_2 : decode cX0_tiedEndsAt 2 = .ok (.iconst 0, 1) := by decide +kernel
theorem dX0_tiedEndsAt_3 : decode cX0_tiedEndsAt 3 = .ok (.istore 4, 2) := by decide +kernel
theorem dX0_tiedEndsAt_5 : decode cX0_tiedEndsAt 5 = .ok (.iload 4, 2) := by decide +kernel
theorem dX0_tiedEndsAt_7 : decode cX0_tiedEndsAt 7 = .ok (.aload_n 0, 1) := by decide +kernel
theorem dX0_tiedEndsAt_8 : decode cX0_tiedEndsAt 8 = .ok (.getfield 63, 3) := by decide +kernel
theorem dX0_tiedEndsAt_11 : decode cX0_tiedEndsAt 11 = .ok (.if_icmp .ge 30, 3) := by decide +kernel
theorem dX0_tiedEndsAt_14 : decode cX0_tiedEndsAt 14 = .ok (.aload_n 0, 1) := by decide +kernel
theorem dX0_tiedEndsAt_15 : decode cX0_tiedEndsAt 15 = .ok (.getfield 19, 3) := by decide +kernel
theorem dX0_tiedEndsAt_18 : decode cX0_tiedEndsAt 18 = .ok (.iload 4, 2) := by decide +kernel
theorem dX0_tiedEndsAt_20 : decode cX0_tiedEndsAt 20 = .ok (.baload, 1) := by decide +kernel
theorem dX0_tiedEndsAt_21 : decode cX0_tiedEndsAt 21 = .ok (.ifCond .eq 14, 3) := by decide +kernel
theorem dX0_tiedEndsAt_24 : decode cX0_tiedEndsAt 24 = .ok (.aload_n 2, 1) := by decide +kernel
theorem dX0_tiedEndsAt_25 : decode cX0_tiedEndsAt 25 = .ok (.iload 4, 2) := by decide +kernel
theorem dX0_tiedEndsAt_27 : decode cX0_tiedEndsAt 27 = .ok (.iaload, 1) := by decide +kernel
theorem dX0_tiedEndsAt_28 : decode cX0_tiedEndsAt 28 = .ok (.iload_n 1, 1) := by decide +kernel
theorem dX0_tiedEndsAt_29 : decode cX0_tiedEndsAt 29 = .ok (.if_icmp .ne 6, 3) := by decide +kernel
theorem dX0_tiedEndsAt_32 : decode cX0_tiedEndsAt 32 = .ok (.iinc 3 1, 3) := by decide +kernel
theorem dX0_tiedEndsAt_35 : decode cX0_tiedEndsAt 35 = .ok (.iinc 4 1, 3) := by decide +kernel
theorem dX0_tiedEndsAt_38 : decode cX0_tiedEndsAt 38 = .ok (.goto (-33), 3) := by decide +kernel
theorem dX0_tiedEndsAt_41 : decode cX0_tiedEndsAt 41 = .ok (.iload_n 3, 1) := by decide +kernel
theorem dX0_tiedEndsAt_42 : decode cX0_tiedEndsAt 42 = .ok (.ireturn, 1) := by decide +kernel
set_option maxRecDepth 20000 in
theorem ggX0_isTight_X0_isPossible : GoodIn wsX0_isTight wsX0_isPossible := goodIn_r _ [10, 11, 12, 13, 14, 15, 16, 17, 18, 19, 20, 21, 22, 23] (by decide +kernel) (by decide +kernel)
set_option maxRecDepth 20000 in
theorem gX0_isTight_X0_isPossible : GoodIn wsX0_isTight (wsV RX0 71 RX0 yX0_isPossible wsX0_isPossible) := goodIn_app (goodIn_of _ (by decide +kernel)) ggX0_isTight_X0_isPossible
theorem dX0_isTight_0 : decode cX0_isTight 0 = .ok (.aload_n 0, 1) := by decide +kernel
theorem dX0_isTight_1 : decode cX0_isTight 1 = .ok (.invokevirtual 71, 3) := by decide +kernel
theorem dX0_isTight_4 : decode cX0_isTight 4 = .ok (.ifCond .eq 48, 3) := by decide +kernel
theorem dX0_isTight_7 : decode cX0_isTight 7 = .ok (.aload_n 0, 1) := by decide +kernel
theorem dX0_isTight_8 : decode cX0_isTight 8 = .ok (.getfield 19, 3) := by decide +kernel
theorem dX0_isTight_11 : decode cX0_isTight 11 = .ok (.iload_n 1, 1) := by decide +kernel
theorem dX0_isTight_12 : decode cX0_isTight 12 = .ok (.baload, 1) := by decide +kernel
theorem dX0_isTight_13 : decode cX0_isTight 13 = .ok (.ifCond .eq 39, 3) := by decide +kernel
theorem dX0_isTight_16 : decode cX0_isTight 16 = .ok (.aload_n 0, 1) := by decide +kernel
theorem dX0_isTight_17 : decode cX0_isTight 17 = .ok (.getfield 23, 3) := by decide +kernel
theorem dX0_isTight_20 : decode cX0_isTight 20 = .ok (.aload_n 0, 1) := by decide +kernel
theorem dX0_isTight_21 : decode cX0_isTight 21 = .ok (.getfield 13, 3) := by decide +kernel
theorem dX0_isTight_24 : decode cX0_isTight 24 = .ok (.iload_n 1, 1) := by decide +kernel
theorem dX0_isTight_25 : decode cX0_isTight 25 = .ok (.iaload, 1) := by decide +kernel
theorem dX0_isTight_26 : decode cX0_isTight 26 = .ok (.iaload, 1) := by decide +kernel
theorem dX0_isTight_27 : decode cX0_isTight 27 = .ok (.aload_n 0, 1) := by decide +kernel
theorem dX0_isTight_28 : decode cX0_isTight 28 = .ok (.getfield 23, 3) := by decide +kernel
theorem dX0_isTight_31 : decode cX0_isTight 31 = .ok (.aload_n 0, 1) := by decide +kernel
theorem dX0_isTight_32 : decode cX0_isTight 32 = .ok (.getfield 9, 3) := by decide +kernel
theorem dX0_isTight_35 : decode cX0_isTight 35 = .ok (.iload_n 1, 1) := by decide +kernel
theorem dX0_isTight_36 : decode cX0_isTight 36 = .ok (.iaload, 1) := by decide +kernel
theorem dX0_isTight_37 : decode cX0_isTight 37 = .ok (.iaload, 1) := by decide +kernel
theorem dX0_isTight_38 : decode cX0_isTight 38 = .ok (.aload_n 0, 1) := by decide +kernel
theorem dX0_isTight_39 : decode cX0_isTight 39 = .ok (.getfield 16, 3) := by decide +kernel
theorem dX0_isTight_42 : decode cX0_isTight 42 = .ok (.iload_n 1, 1) := by decide +kernel
theorem dX0_isTight_43 : decode cX0_isTight 43 = .ok (.iaload, 1) := by decide +kernel
theorem dX0_isTight_44 : decode cX0_isTight 44 = .ok (.iadd, 1) := by decide +kernel
theorem dX0_isTight_45 : decode cX0_isTight 45 = .ok (.if_icmp .ne 7, 3) := by decide +kernel
theorem dX0_isTight_48 : decode cX0_isTight 48 = .ok (.iconst 1, 1) := by decide +kernel
theorem dX0_isTight_49 : decode cX0_isTight 49 = .ok (.goto 4, 3) := by decide +kernel
theorem dX0_isTight_52 : decode cX0_isTight 52 = .ok (.iconst 0, 1) := by decide +kernel
theorem dX0_isTight_53 : decode cX0_isTight 53 = .ok (.ireturn, 1) := by decide +kernel
set_option maxRecDepth 20000 in
theorem ggX0_tightRopes_X0_isTight : GoodIn wsX0_tightRopes wsX0_isTight := goodIn_r _ [6, 7, 8, 9, 10, 11, 12, 13, 14, 5, 15, 16, 17, 18, 19, 20, 21, 22, 23, 24, 25, 26, 27, 28] (by decide +kernel) (by decide +kernel)
set_option maxRecDepth 20000 in
theorem gX0_tightRopes_X0_isTight : GoodIn wsX0_tightRopes (wsV RX0 82 RX0 yX0_isTight wsX0_isTight) := goodIn_app (goodIn_of _ (by decide +kernel)) ggX0_tightRopes_X0_isTight
theorem dX0_tightRopes_0 : decode cX0_tightRopes 0 = .ok (.iconst 0, 1) := by decide +kernel
theorem dX0_tightRopes_1 : decode cX0_tightRopes 1 = .ok (.istore_n 1, 1) := by decide +kernel
theorem dX0_tightRopes_2 : decode cX0_tightRopes 2 = .ok (.iconst 0, 1) := by decide +kernel
theorem dX0_tightRopes_3 : decode cX0_tightRopes 3 = .ok (.istore_n 2, 1) := by decide +kernel
theorem dX0_tightRopes_4 : decode cX0_tightRopes 4 = .ok (.iload_n 2, 1) := by decide +kernel
theorem dX0_tightRopes_5 : decode cX0_tightRopes 5 = .ok (.aload_n 0, 1) := by decide +kernel
theorem dX0_tightRopes_6 : decode cX0_tightRopes 6 = .ok (.getfield 63, 3) := by decide +kernel
theorem dX0_tightRopes_9 : decode cX0_tightRopes 9 = .ok (.if_icmp .ge 20, 3) := by decide +kernel
theorem dX0_tightRopes_12 : decode cX0_tightRopes 12 = .ok (.aload_n 0, 1) := by decide +kernel
theorem dX0_tightRopes_13 : decode cX0_tightRopes 13 = .ok (.iload_n 2, 1) := by decide +kernel
theorem dX0_tightRopes_14 : decode cX0_tightRopes 14 = .ok (.invokevirtual 82, 3) := by decide +kernel
theorem dX0_tightRopes_17 : decode cX0_tightRopes 17 = .ok (.ifCond .eq 6, 3) := by decide +kernel
theorem dX0_tightRopes_20 : decode cX0_tightRopes 20 = .ok (.iinc 1 1, 3) := by decide +kernel
theorem dX0_tightRopes_23 : decode cX0_tightRopes 23 = .ok (.iinc 2 1, 3) := by decide +kernel
theorem dX0_tightRopes_26 : decode cX0_tightRopes 26 = .ok (.goto (-22), 3) := by decide +kernel
theorem dX0_tightRopes_29 : decode cX0_tightRopes 29 = .ok (.iload_n 1, 1) := by decide +kernel
theorem dX0_tightRopes_30 : decode cX0_tightRopes 30 = .ok (.ireturn, 1) := by decide +kernel
set_option maxRecDepth 20000 in
theorem ggX0_tightenOne_X0_leastLength : GoodIn wsX0_tightenOne wsX0_leastLength := goodIn_r _ [8, 9, 10, 11, 12, 13, 14, 15, 16, 7, 17, 18, 59, 60, 61, 62, 63, 64, 65, 66, 67, 68, 69, 70] (by decide +kernel) (by decide +kernel)
set_option maxRecDepth 20000 in
theorem gX0_tightenOne_X0_leastLength : GoodIn wsX0_tightenOne (wsV RX0 129 RX0 yX0_leastLength wsX0_leastLength) := goodIn_app (goodIn_of _ (by decide +kernel)) ggX0_tightenOne_X0_leastLength
set_option maxRecDepth 20000 in
theorem ggX0_tightenOne_X0_settle : GoodIn wsX0_tightenOne wsX0_settle := goodIn_r _ [22, 23, 24, 25, 26, 27, 7, 28, 29, 30, 31, 32, 33, 34, 35, 3, 1, 2, 36, 37, 38, 39, 40, 41, 42, 43, 9, 44, 45, 46, 47, 18, 48, 49, 50, 51, 52, 53, 12, 54, 14, 15, 16, 17, 55, 56, 57, 58, 59, 60, 61, 62, 63, 64, 65, 66, 67, 68, 69, 70] (by decide +kernel) (by decide +kernel)
set_option maxRecDepth 20000 in
theorem gX0_tightenOne_X0_settle : GoodIn wsX0_tightenOne (wsV RX0 38 RX0 yX0_settle wsX0_settle) := goodIn_app (goodIn_of _ (by decide +kernel)) ggX0_tightenOne_X0_settle
theorem dX0_tightenOne_0 : decode cX0_tightenOne 0 = .ok (.aload_n 0, 1) := by decide +kernel
theorem dX0_tightenOne_1 : decode cX0_tightenOne 1 = .ok (.getfield 16, 3) := by decide +kernel
theorem dX0_tightenOne_4 : decode cX0_tightenOne 4 = .ok (.iload_n 1, 1) := by decide +kernel
theorem dX0_tightenOne_5 : decode cX0_tightenOne 5 = .ok (.iaload, 1) := by decide +kernel
theorem dX0_tightenOne_6 : decode cX0_tightenOne 6 = .ok (.aload_n 0, 1) := by decide +kernel
theorem dX0_tightenOne_7 : decode cX0_tightenOne 7 = .ok (.aload_n 0, 1) := by decide +kernel
theorem dX0_tightenOne_8 : decode cX0_tightenOne 8 = .ok (.getfield 9, 3) := by decide +kernel
theorem dX0_tightenOne_11 : decode cX0_tightenOne 11 = .ok (.iload_n 1, 1) := by decide +kernel
theorem dX0_tightenOne_12 : decode cX0_tightenOne 12 = .ok (.iaload, 1) := by decide +kernel
theorem dX0_tightenOne_13 : decode cX0_tightenOne 13 = .ok (.aload_n 0, 1) := by decide +kernel
theorem dX0_tightenOne_14 : decode cX0_tightenOne 14 = .ok (.getfield 13, 3) := by decide +kernel
theorem dX0_tightenOne_17 : decode cX0_tightenOne 17 = .ok (.iload_n 1, 1) := by decide +kernel
theorem dX0_tightenOne_18 : decode cX0_tightenOne 18 = .ok (.iaload, 1) := by decide +kernel
theorem dX0_tightenOne_19 : decode cX0_tightenOne 19 = .ok (.invokevirtual 129, 3) := by decide +kernel
theorem dX0_tightenOne_22 : decode cX0_tightenOne 22 = .ok (.isub, 1) := by decide +kernel
theorem dX0_tightenOne_23 : decode cX0_tightenOne 23 = .ok (.istore_n 2, 1) := by decide +kernel
theorem dX0_tightenOne_24 : decode cX0_tightenOne 24 = .ok (.iload_n 2, 1) := by decide +kernel
theorem dX0_tightenOne_25 : decode cX0_tightenOne 25 = .ok (.ifCond .le 17, 3) := by decide +kernel
theorem dX0_tightenOne_28 : decode cX0_tightenOne 28 = .ok (.aload_n 0, 1) := by decide +kernel
theorem dX0_tightenOne_29 : decode cX0_tightenOne 29 = .ok (.getfield 16, 3) := by decide +kernel
theorem dX0_tightenOne_32 : decode cX0_tightenOne 32 = .ok (.iload_n 1, 1) := by decide +kernel
theorem dX0_tightenOne_33 : decode cX0_tightenOne 33 = .ok (.dup2, 1) := by decide +kernel
theorem dX0_tightenOne_34 : decode cX0_tightenOne 34 = .ok (.iaload, 1) := by decide +kernel
theorem dX0_tightenOne_35 : decode cX0_tightenOne 35 = .ok (.iload_n 2, 1) := by decide +kernel
theorem dX0_tightenOne_36 : decode cX0_tightenOne 36 = .ok (.isub, 1) := by decide +kernel
theorem dX0_tightenOne_37 : decode cX0_tightenOne 37 = .ok (.iastore, 1) := by decide +kernel
theorem dX0_tightenOne_38 : decode cX0_tightenOne 38 = .ok (.aload_n 0, 1) := by decide +kernel
theorem dX0_tightenOne_39 : decode cX0_tightenOne 39 = .ok (.invokevirtual 38, 3) := by decide +kernel
theorem dX0_tightenOne_42 : decode cX0_tightenOne 42 = .ok (.iload_n 2, 1) := by decide +kernel
theorem dX0_tightenOne_43 : decode cX0_tightenOne 43 = .ok (.ireturn, 1) := by decide +kernel
theorem dX0_boundFrom_0 : decode cX0_boundFrom 0 = .ok (.aload_n 0, 1) := by decide +kernel
theorem dX0_boundFrom_1 : decode cX0_boundFrom 1 = .ok (.getfield 26, 3) := by decide +kernel
theorem dX0_boundFrom_4 : decode cX0_boundFrom 4 = .ok (.iload_n 1, 1) := by decide +kernel
theorem dX0_boundFrom_5 : decode cX0_boundFrom 5 = .ok (.bipush 12, 2) := by decide +kernel
theorem dX0_boundFrom_7 : decode cX0_boundFrom 7 = .ok (.imul, 1) := by decide +kernel
theorem dX0_boundFrom_8 : decode cX0_boundFrom 8 = .ok (.iload_n 2, 1) := by decide +kernel
theorem dX0_boundFrom_9 : decode cX0_boundFrom 9 = .ok (.iadd, 1) := by decide +kernel
theorem dX0_boundFrom_10 : decode cX0_boundFrom 10 = .ok (.iaload, 1) := by decide +kernel
theorem dX0_boundFrom_11 : decode cX0_boundFrom 11 = .ok (.ireturn, 1) := by decide +kernel
theorem dX0_shortenBound_0 : decode cX0_shortenBound 0 = .ok (.iload_n 1, 1) := by decide +kernel
theorem dX0_shortenBound_1 : decode cX0_shortenBound 1 = .ok (.bipush 12, 2) := by decide +kernel
theorem dX0_shortenBound_3 : decode cX0_shortenBound 3 = .ok (.imul, 1) := by decide +kernel
theorem dX0_shortenBound_4 : decode cX0_shortenBound 4 = .ok (.iload_n 2, 1) := by decide +kernel
theorem dX0_shortenBound_5 : decode cX0_shortenBound 5 = .ok (.iadd, 1) := by decide +kernel
theorem dX0_shortenBound_6 : decode cX0_shortenBound 6 = .ok (.istore 4, 2) := by decide +kernel
theorem dX0_shortenBound_8 : decode cX0_shortenBound 8 = .ok (.aload_n 0, 1) := by decide +kernel
theorem dX0_shortenBound_9 : decode cX0_shortenBound 9 = .ok (.getfield 26, 3) := by decide +kernel
theorem dX0_shortenBound_12 : decode cX0_shortenBound 12 = .ok (.iload 4, 2) := by decide +kernel
theorem dX0_shortenBound_14 : decode cX0_shortenBound 14 = .ok (.aload_n 0, 1) := by decide +kernel
theorem dX0_shortenBound_15 : decode cX0_shortenBound 15 = .ok (.getfield 26, 3) := by decide +kernel
theorem dX0_shortenBound_18 : decode cX0_shortenBound 18 = .ok (.iload 4, 2) := by decide +kernel
theorem dX0_shortenBound_20 : decode cX0_shortenBound 20 = .ok (.iaload, 1) := by decide +kernel
theorem dX0_shortenBound_21 : decode cX0_shortenBound 21 = .ok (.iload_n 3, 1) := by decide +kernel
theorem dX0_shortenBound_22 : decode cX0_shortenBound 22 = .ok (.invokestatic 122, 3) := by decide +kernel
theorem dX0_shortenBound_25 : decode cX0_shortenBound 25 = .ok (.iastore, 1) := by decide +kernel
theorem dX0_shortenBound_26 : decode cX0_shortenBound 26 = .ok (.return_, 1) := by decide +kernel
set_option maxRecDepth 20000 in
theorem ggX0_findBounds_X0_startBounds : GoodIn wsX0_findBounds wsX0_startBounds := goodIn_r _ [7, 1, 8, 2, 9, 10, 11, 12, 13, 14, 15, 16, 6, 17, 18, 19, 20, 21, 30, 31, 32, 33, 34, 35, 36, 37, 38, 39, 40, 41] (by decide +kernel) (by decide +kernel)
set_option maxRecDepth 20000 in
theorem gX0_findBounds_X0_startBounds : GoodIn wsX0_findBounds (wsV RX0 183 RX0 yX0_startBounds wsX0_startBounds) := goodIn_app (goodIn_of _ (by decide +kernel)) ggX0_findBounds_X0_startBounds
set_option maxRecDepth 20000 in
theorem ggX0_findBounds_X0_boundFrom : GoodIn wsX0_findBounds wsX0_boundFrom := goodIn_r _ [25, 8, 30, 31, 32, 33, 34, 35, 36, 37, 38, 39, 40, 41] (by decide +kernel) (by decide +kernel)
set_option maxRecDepth 20000 in
theorem gX0_findBounds_X0_boundFrom : GoodIn wsX0_findBounds (wsV RX0 117 RX0 yX0_boundFrom wsX0_boundFrom) := goodIn_app (goodIn_of _ (by decide +kernel)) ggX0_findBounds_X0_boundFrom
set_option maxRecDepth 20000 in
theorem ggX0_findBounds_X0_goOnOver : GoodIn wsX0_findBounds wsX0_goOnOver := goodIn_r _ [29, 1, 2, 22, 23, 24, 6, 25, 8, 14, 15, 16, 17, 18, 19, 20, 21, 30, 31, 32, 33, 34, 35, 36, 37, 38, 39, 40, 41] (by decide +kernel) (by decide +kernel)
set_option maxRecDepth 20000 in
theorem gX0_findBounds_X0_goOnOver : GoodIn wsX0_findBounds (wsV RX0 186 RX0 yX0_goOnOver wsX0_goOnOver) := goodIn_app (goodIn_of _ (by decide +kernel)) ggX0_findBounds_X0_goOnOver
theorem dX0_findBounds_0 : decode cX0_findBounds 0 = .ok (.aload_n 0, 1) := by decide +kernel
theorem dX0_findBounds_1 : decode cX0_findBounds 1 = .ok (.invokevirtual 183, 3) := by decide +kernel
theorem dX0_findBounds_4 : decode cX0_findBounds 4 = .ok (.iconst 0, 1) := by decide +kernel
theorem dX0_findBounds_5 : decode cX0_findBounds 5 = .ok (.istore_n 1, 1) := by decide +kernel
theorem dX0_findBounds_6 : decode cX0_findBounds 6 = .ok (.iload_n 1, 1) := by decide +kernel
theorem dX0_findBounds_7 : decode cX0_findBounds 7 = .ok (.aload_n 0, 1) := by decide +kernel
theorem dX0_findBounds_8 : decode cX0_findBounds 8 = .ok (.getfield 41, 3) := by decide +kernel
theorem dX0_findBounds_11 : decode cX0_findBounds 11 = .ok (.if_icmp .ge 42, 3) := by decide +kernel
theorem dX0_findBounds_14 : decode cX0_findBounds 14 = .ok (.iconst 0, 1) := by decide +kernel
theorem dX0_findBounds_15 : decode cX0_findBounds 15 = .ok (.istore_n 2, 1) := by decide +kernel
theorem dX0_findBounds_16 : decode cX0_findBounds 16 = .ok (.iload_n 2, 1) := by decide +kernel
theorem dX0_findBounds_17 : decode cX0_findBounds 17 = .ok (.aload_n 0, 1) := by decide +kernel
theorem dX0_findBounds_18 : decode cX0_findBounds 18 = .ok (.getfield 41, 3) := by decide +kernel
theorem dX0_findBounds_21 : decode cX0_findBounds 21 = .ok (.if_icmp .ge 26, 3) := by decide +kernel
theorem dX0_findBounds_24 : decode cX0_findBounds 24 = .ok (.aload_n 0, 1) := by decide +kernel
theorem dX0_findBounds_25 : decode cX0_findBounds 25 = .ok (.iload_n 2, 1) := by decide +kernel
theorem dX0_findBounds_26 : decode cX0_findBounds 26 = .ok (.iload_n 1, 1) := by decide +kernel
theorem dX0_findBounds_27 : decode cX0_findBounds 27 = .ok (.invokevirtual 117, 3) := by decide +kernel
theorem dX0_findBounds_30 : decode cX0_findBounds 30 = .ok (.ldc 121, 2) := by decide +kernel
theorem dX0_findBounds_32 : decode cX0_findBounds 32 = .ok (.if_icmp .eq 9, 3) := by decide +kernel
theorem dX0_findBounds_35 : decode cX0_findBounds 35 = .ok (.aload_n 0, 1) := by decide +kernel
theorem dX0_findBounds_36 : decode cX0_findBounds 36 = .ok (.iload_n 2, 1) := by decide +kernel
theorem dX0_findBounds_37 : decode cX0_findBounds 37 = .ok (.iload_n 1, 1) := by decide +kernel
theorem dX0_findBounds_38 : decode cX0_findBounds 38 = .ok (.invokevirtual 186, 3) := by decide +kernel
theorem dX0_findBounds_41 : decode cX0_findBounds 41 = .ok (.iinc 2 1, 3) := by decide +kernel
theorem dX0_findBounds_44 : decode cX0_findBounds 44 = .ok (.goto (-28), 3) := by decide +kernel
theorem dX0_findBounds_47 : decode cX0_findBounds 47 = .ok (.iinc 1 1, 3) := by decide +kernel
theorem dX0_findBounds_50 : decode cX0_findBounds 50 = .ok (.goto (-44), 3) := by decide +kernel
theorem dX0_findBounds_53 : decode cX0_findBounds 53 = .ok (.return_, 1) := by decide +kernel
set_option maxRecDepth 20000 in
theorem ggX0_startBounds_X0_shortenBound : GoodIn wsX0_startBounds wsX0_shortenBound := goodIn_r _ [13, 2, 14, 15, 16, 17, 18, 19, 20, 21, 22, 23, 24, 25, 26, 27, 28, 29] (by decide +kernel) (by decide +kernel)
set_option maxRecDepth 20000 in
theorem gX0_startBounds_X0_shortenBound : GoodIn wsX0_startBounds (wsV RX0 189 RX0 yX0_shortenBound wsX0_shortenBound) := goodIn_app (goodIn_of _ (by decide +kernel)) ggX0_startBounds_X0_shortenBound
theorem dX0_startBounds_0 : decode cX0_startBounds 0 = .ok (.iconst 0, 1) := by decide +kernel
theorem dX0_startBounds_1 : decode cX0_startBounds 1 = .ok (.istore_n 1, 1) := by decide +kernel
theorem dX0_startBounds_2 : decode cX0_startBounds 2 = .ok (.iload_n 1, 1) := by decide +kernel
theorem dX0_startBounds_3 : decode cX0_startBounds 3 = .ok (.aload_n 0, 1) := by decide +kernel
theorem dX0_startBounds_4 : decode cX0_startBounds 4 = .ok (.getfield 41, 3) := by decide +kernel
theorem dX0_startBounds_7 : decode cX0_startBounds 7 = .ok (.if_icmp .ge 47, 3) := by decide +kernel
theorem dX0_startBounds_10 : decode cX0_startBounds 10 = .ok (.iconst 0, 1) := by decide +kernel
theorem dX0_startBounds_11 : decode cX0_startBounds 11 = .ok (.istore_n 2, 1) := by decide +kernel
theorem dX0_startBounds_12 : decode cX0_startBounds 12 = .ok (.iload_n 2, 1) := by decide +kernel
theorem dX0_startBounds_13 : decode cX0_startBounds 13 = .ok (.aload_n 0, 1) := by decide +kernel
theorem dX0_startBounds_14 : decode cX0_startBounds 14 = .ok (.getfield 41, 3) := by decide +kernel
theorem dX0_startBounds_17 : decode cX0_startBounds 17 = .ok (.if_icmp .ge 31, 3) := by decide +kernel
theorem dX0_startBounds_20 : decode cX0_startBounds 20 = .ok (.aload_n 0, 1) := by decide +kernel
theorem dX0_startBounds_21 : decode cX0_startBounds 21 = .ok (.getfield 26, 3) := by decide +kernel
theorem dX0_startBounds_24 : decode cX0_startBounds 24 = .ok (.iload_n 1, 1) := by decide +kernel
theorem dX0_startBounds_25 : decode cX0_startBounds 25 = .ok (.bipush 12, 2) := by decide +kernel
theorem dX0_startBounds_27 : decode cX0_startBounds 27 = .ok (.imul, 1) := by decide +kernel
theorem dX0_startBounds_28 : decode cX0_startBounds 28 = .ok (.iload_n 2, 1) := by decide +kernel
theorem dX0_startBounds_29 : decode cX0_startBounds 29 = .ok (.iadd, 1) := by decide +kernel
theorem dX0_startBounds_30 : decode cX0_startBounds 30 = .ok (.iload_n 1, 1) := by decide +kernel
theorem dX0_startBounds_31 : decode cX0_startBounds 31 = .ok (.iload_n 2, 1) := by decide +kernel
theorem dX0_startBounds_32 : decode cX0_startBounds 32 = .ok (.if_icmp .ne 7, 3) := by decide +kernel
theorem dX0_startBounds_35 : decode cX0_startBounds 35 = .ok (.iconst 0, 1) := by decide +kernel
theorem dX0_startBounds_36 : decode cX0_startBounds 36 = .ok (.goto 5, 3) := by decide +kernel
theorem dX0_startBounds_39 : decode cX0_startBounds 39 = .ok (.ldc 121, 2) := by decide +kernel
theorem dX0_startBounds_41 : decode cX0_startBounds 41 = .ok (.iastore, 1) := by decide +kernel
theorem dX0_startBounds_42 : decode cX0_startBounds 42 = .ok (.iinc 2 1, 3) := by decide +kernel
theorem dX0_startBounds_45 : decode cX0_startBounds 45 = .ok (.goto (-33), 3) := by decide +kernel
theorem dX0_startBounds_48 : decode cX0_startBounds 48 = .ok (.iinc 1 1, 3) := by decide +kernel
theorem dX0_startBounds_51 : decode cX0_startBounds 51 = .ok (.goto (-49), 3) := by decide +kernel
theorem dX0_startBounds_54 : decode cX0_startBounds 54 = .ok (.iconst 0, 1) := by decide +kernel
theorem dX0_startBounds_55 : decode cX0_startBounds 55 = .ok (.istore_n 1, 1) := by decide +kernel
theorem dX0_startBounds_56 : decode cX0_startBounds 56 = .ok (.iload_n 1, 1) := by decide +kernel
theorem dX0_startBounds_57 : decode cX0_startBounds 57 = .ok (.aload_n 0, 1) := by decide +kernel
theorem dX0_startBounds_58 : decode cX0_startBounds 58 = .ok (.getfield 63, 3) := by decide +kernel
theorem dX0_startBounds_61 : decode cX0_startBounds 61 = .ok (.if_icmp .ge 40, 3) := by decide +kernel
theorem dX0_startBounds_64 : decode cX0_startBounds 64 = .ok (.aload_n 0, 1) := by decide +kernel
theorem dX0_startBounds_65 : decode cX0_startBounds 65 = .ok (.getfield 19, 3) := by decide +kernel
theorem dX0_startBounds_68 : decode cX0_startBounds 68 = .ok (.iload_n 1, 1) := by decide +kernel
theorem dX0_startBounds_69 : decode cX0_startBounds 69 = .ok (.baload, 1) := by decide +kernel
theorem dX0_startBounds_70 : decode cX0_startBounds 70 = .ok (.ifCond .eq 25, 3) := by decide +kernel
theorem dX0_startBounds_73 : decode cX0_startBounds 73 = .ok (.aload_n 0, 1) := by decide +kernel
theorem dX0_startBounds_74 : decode cX0_startBounds 74 = .ok (.aload_n 0, 1) := by decide +kernel
theorem dX0_startBounds_75 : decode cX0_startBounds 75 = .ok (.getfield 9, 3) := by decide +kernel
theorem dX0_startBounds_78 : decode cX0_startBounds 78 = .ok (.iload_n 1, 1) := by decide +kernel
theorem dX0_startBounds_79 : decode cX0_startBounds 79 = .ok (.iaload, 1) := by decide +kernel
theorem dX0_startBounds_80 : decode cX0_startBounds 80 = .ok (.aload_n 0, 1) := by decide +kernel
theorem dX0_startBounds_81 : decode cX0_startBounds 81 = .ok (.getfield 13, 3) := by decide +kernel
theorem dX0_startBounds_84 : decode cX0_startBounds 84 = .ok (.iload_n 1, 1) := by decide +kernel
theorem dX0_startBounds_85 : decode cX0_startBounds 85 = .ok (.iaload, 1) := by decide +kernel
theorem dX0_startBounds_86 : decode cX0_startBounds 86 = .ok (.aload_n 0, 1) := by decide +kernel
theorem dX0_startBounds_87 : decode cX0_startBounds 87 = .ok (.getfield 16, 3) := by decide +kernel
theorem dX0_startBounds_90 : decode cX0_startBounds 90 = .ok (.iload_n 1, 1) := by decide +kernel
theorem dX0_startBounds_91 : decode cX0_startBounds 91 = .ok (.iaload, 1) := by decide +kernel
theorem dX0_startBounds_92 : decode cX0_startBounds 92 = .ok (.invokevirtual 189, 3) := by decide +kernel
theorem dX0_startBounds_95 : decode cX0_startBounds 95 = .ok (.iinc 1 1, 3) := by decide +kernel
theorem dX0_startBounds_98 : decode cX0_startBounds 98 = .ok (.goto (-42), 3) := by decide +kernel
theorem dX0_startBounds_101 : decode cX0_startBounds 101 = .ok (.return_, 1) := by decide +kernel
set_option maxRecDepth 20000 in
theorem ggX0_goOnOver_X0_boundFrom : GoodIn wsX0_goOnOver wsX0_boundFrom := goodIn_r _ [7, 8, 17, 18, 19, 20, 21, 22, 23, 24, 25, 26, 27, 28] (by decide +kernel) (by decide +kernel)
set_option maxRecDepth 20000 in
theorem gX0_goOnOver_X0_boundFrom : GoodIn wsX0_goOnOver (wsV RX0 117 RX0 yX0_boundFrom wsX0_boundFrom) := goodIn_app (goodIn_of _ (by decide +kernel)) ggX0_goOnOver_X0_boundFrom
set_option maxRecDepth 20000 in
theorem ggX0_goOnOver_X0_shortenBound : GoodIn wsX0_goOnOver wsX0_shortenBound := goodIn_r _ [12, 8, 13, 14, 15, 16, 17, 18, 19, 20, 21, 22, 23, 24, 25, 26, 27, 28] (by decide +kernel) (by decide +kernel)
set_option maxRecDepth 20000 in
theorem gX0_goOnOver_X0_shortenBound : GoodIn wsX0_goOnOver (wsV RX0 189 RX0 yX0_shortenBound wsX0_shortenBound) := goodIn_app (goodIn_of _ (by decide +kernel)) ggX0_goOnOver_X0_shortenBound
theorem dX0_goOnOver_0 : decode cX0_goOnOver 0 = .ok (.aload_n 0, 1) := by decide +kernel
theorem dX0_goOnOver_1 : decode cX0_goOnOver 1 = .ok (.iload_n 1, 1) := by decide +kernel
theorem dX0_goOnOver_2 : decode cX0_goOnOver 2 = .ok (.iload_n 2, 1) := by decide +kernel
theorem dX0_goOnOver_3 : decode cX0_goOnOver 3 = .ok (.invokevirtual 117, 3) := by decide +kernel
theorem dX0_goOnOver_6 : decode cX0_goOnOver 6 = .ok (.istore_n 3, 1) := by decide +kernel
theorem dX0_goOnOver_7 : decode cX0_goOnOver 7 = .ok (.iconst 0, 1) := by decide +kernel
theorem dX0_goOnOver_8 : decode cX0_goOnOver 8 = .ok (.istore 4, 2) := by decide +kernel
theorem dX0_goOnOver_10 : decode cX0_goOnOver 10 = .ok (.iload 4, 2) := by decide +kernel
theorem dX0_goOnOver_12 : decode cX0_goOnOver 12 = .ok (.aload_n 0, 1) := by decide +kernel
theorem dX0_goOnOver_13 : decode cX0_goOnOver 13 = .ok (.getfield 41, 3) := by decide +kernel
theorem dX0_goOnOver_16 : decode cX0_goOnOver 16 = .ok (.if_icmp .ge 36, 3) := by decide +kernel
theorem dX0_goOnOver_19 : decode cX0_goOnOver 19 = .ok (.aload_n 0, 1) := by decide +kernel
theorem dX0_goOnOver_20 : decode cX0_goOnOver 20 = .ok (.iload_n 2, 1) := by decide +kernel
theorem dX0_goOnOver_21 : decode cX0_goOnOver 21 = .ok (.iload 4, 2) := by decide +kernel
theorem dX0_goOnOver_23 : decode cX0_goOnOver 23 = .ok (.invokevirtual 117, 3) := by decide +kernel
theorem dX0_goOnOver_26 : decode cX0_goOnOver 26 = .ok (.istore 5, 2) := by decide +kernel
theorem dX0_goOnOver_28 : decode cX0_goOnOver 28 = .ok (.iload 5, 2) := by decide +kernel
theorem dX0_goOnOver_30 : decode cX0_goOnOver 30 = .ok (.ldc 121, 2) := by decide +kernel
theorem dX0_goOnOver_32 : decode cX0_goOnOver 32 = .ok (.if_icmp .eq 14, 3) := by decide +kernel
theorem dX0_goOnOver_35 : decode cX0_goOnOver 35 = .ok (.aload_n 0, 1) := by decide +kernel
theorem dX0_goOnOver_36 : decode cX0_goOnOver 36 = .ok (.iload_n 1, 1) := by decide +kernel
theorem dX0_goOnOver_37 : decode cX0_goOnOver 37 = .ok (.iload 4, 2) := by decide +kernel
theorem dX0_goOnOver_39 : decode cX0_goOnOver 39 = .ok (.iload_n 3, 1) := by decide +kernel
theorem dX0_goOnOver_40 : decode cX0_goOnOver 40 = .ok (.iload 5, 2) := by decide +kernel
theorem dX0_goOnOver_42 : decode cX0_goOnOver 42 = .ok (.iadd, 1) := by decide +kernel
theorem dX0_goOnOver_43 : decode cX0_goOnOver 43 = .ok (.invokevirtual 189, 3) := by decide +kernel
theorem dX0_goOnOver_46 : decode cX0_goOnOver 46 = .ok (.iinc 4 1, 3) := by decide +kernel
theorem dX0_goOnOver_49 : decode cX0_goOnOver 49 = .ok (.goto (-39), 3) := by decide +kernel
theorem dX0_goOnOver_52 : decode cX0_goOnOver 52 = .ok (.return_, 1) := by decide +kernel
set_option maxRecDepth 20000 in
theorem ggX0_leastLength_X0_boundFrom : GoodIn wsX0_leastLength wsX0_boundFrom := goodIn_r _ [10, 11, 12, 13, 14, 15, 16, 17, 18, 19, 20, 21, 22, 23] (by decide +kernel) (by decide +kernel)
set_option maxRecDepth 20000 in
theorem gX0_leastLength_X0_boundFrom : GoodIn wsX0_leastLength (wsV RX0 117 RX0 yX0_boundFrom wsX0_boundFrom) := goodIn_app (goodIn_of _ (by decide +kernel)) ggX0_leastLength_X0_boundFrom
theorem dX0_leastLength_0 : decode cX0_leastLength 0 = .ok (.aload_n 0, 1) := by decide +kernel
theorem dX0_leastLength_1 : decode cX0_leastLength 1 = .ok (.iload_n 2, 1) := by decide +kernel
theorem dX0_leastLength_2 : decode cX0_leastLength 2 = .ok (.iload_n 1, 1) := by decide +kernel
theorem dX0_leastLength_3 : decode cX0_leastLength 3 = .ok (.invokevirtual 117, 3) := by decide +kernel
theorem dX0_leastLength_6 : decode cX0_leastLength 6 = .ok (.istore_n 3, 1) := by decide +kernel
theorem dX0_leastLength_7 : decode cX0_leastLength 7 = .ok (.iload_n 3, 1) := by decide +kernel
theorem dX0_leastLength_8 : decode cX0_leastLength 8 = .ok (.ldc 121, 2) := by decide +kernel
theorem dX0_leastLength_10 : decode cX0_leastLength 10 = .ok (.if_icmp .ne 8, 3) := by decide +kernel
theorem dX0_leastLength_13 : decode cX0_leastLength 13 = .ok (.bipush (-99), 2) := by decide +kernel
theorem dX0_leastLength_15 : decode cX0_leastLength 15 = .ok (.goto 10, 3) := by decide +kernel
theorem dX0_leastLength_18 : decode cX0_leastLength 18 = .ok (.bipush (-99), 2) := by decide +kernel
theorem dX0_leastLength_20 : decode cX0_leastLength 20 = .ok (.iload_n 3, 1) := by decide +kernel
theorem dX0_leastLength_21 : decode cX0_leastLength 21 = .ok (.ineg, 1) := by decide +kernel
theorem dX0_leastLength_22 : decode cX0_leastLength 22 = .ok (.invokestatic 180, 3) := by decide +kernel
theorem dX0_leastLength_25 : decode cX0_leastLength 25 = .ok (.ireturn, 1) := by decide +kernel
set_option maxRecDepth 20000 in
theorem ggX0_shortRingLength_X0_shortRingFrom : GoodIn wsX0_shortRingLength wsX0_shortRingFrom := goodIn_r _ [6, 1, 7, 8, 9, 10, 11, 5, 12, 13, 14, 15, 16, 17, 18, 19, 20, 21, 22, 23, 24, 25, 26, 27, 28, 29, 30, 31, 32, 33, 34] (by decide +kernel) (by decide +kernel)
set_option maxRecDepth 20000 in
theorem gX0_shortRingLength_X0_shortRingFrom : GoodIn wsX0_shortRingLength (wsV RX0 193 RX0 yX0_shortRingFrom wsX0_shortRingFrom) := goodIn_app (goodIn_of _ (by decide +kernel)) ggX0_shortRingLength_X0_shortRingFrom
theorem dX0_shortRingLength_0 : decode cX0_shortRingLength 0 = .ok (.iconst 0, 1) := by decide +kernel
theorem dX0_shortRingLength_1 : decode cX0_shortRingLength 1 = .ok (.istore_n 1, 1) := by decide +kernel
theorem dX0_shortRingLength_2 : decode cX0_shortRingLength 2 = .ok (.iconst 0, 1) := by decide +kernel
theorem dX0_shortRingLength_3 : decode cX0_shortRingLength 3 = .ok (.istore_n 2, 1) := by decide +kernel
theorem dX0_shortRingLength_4 : decode cX0_shortRingLength 4 = .ok (.iload_n 2, 1) := by decide +kernel
theorem dX0_shortRingLength_5 : decode cX0_shortRingLength 5 = .ok (.aload_n 0, 1) := by decide +kernel
theorem dX0_shortRingLength_6 : decode cX0_shortRingLength 6 = .ok (.getfield 41, 3) := by decide +kernel
theorem dX0_shortRingLength_9 : decode cX0_shortRingLength 9 = .ok (.if_icmp .ge 30, 3) := by decide +kernel
theorem dX0_shortRingLength_12 : decode cX0_shortRingLength 12 = .ok (.aload_n 0, 1) := by decide +kernel
theorem dX0_shortRingLength_13 : decode cX0_shortRingLength 13 = .ok (.iload_n 2, 1) := by decide +kernel
theorem dX0_shortRingLength_14 : decode cX0_shortRingLength 14 = .ok (.invokevirtual 193, 3) := by decide +kernel
theorem dX0_shortRingLength_17 : decode cX0_shortRingLength 17 = .ok (.istore_n 3, 1) := by decide +kernel
theorem dX0_shortRingLength_18 : decode cX0_shortRingLength 18 = .ok (.iload_n 3, 1) := by decide +kernel
theorem dX0_shortRingLength_19 : decode cX0_shortRingLength 19 = .ok (.ifCond .eq 14, 3) := by decide +kernel
theorem dX0_shortRingLength_22 : decode cX0_shortRingLength 22 = .ok (.iload_n 1, 1) := by decide +kernel
theorem dX0_shortRingLength_23 : decode cX0_shortRingLength 23 = .ok (.ifCond .eq 8, 3) := by decide +kernel
theorem dX0_shortRingLength_26 : decode cX0_shortRingLength 26 = .ok (.iload_n 3, 1) := by decide +kernel
theorem dX0_shortRingLength_27 : decode cX0_shortRingLength 27 = .ok (.iload_n 1, 1) := by decide +kernel
theorem dX0_shortRingLength_28 : decode cX0_shortRingLength 28 = .ok (.if_icmp .ge 5, 3) := by decide +kernel
theorem dX0_shortRingLength_31 : decode cX0_shortRingLength 31 = .ok (.iload_n 3, 1) := by decide +kernel
theorem dX0_shortRingLength_32 : decode cX0_shortRingLength 32 = .ok (.istore_n 1, 1) := by decide +kernel
theorem dX0_shortRingLength_33 : decode cX0_shortRingLength 33 = .ok (.iinc 2 1, 3) := by decide +kernel
theorem dX0_shortRingLength_36 : decode cX0_shortRingLength 36 = .ok (.goto (-32), 3) := by decide +kernel
theorem dX0_shortRingLength_39 : decode cX0_shortRingLength 39 = .ok (.iload_n 1, 1) := by decide +kernel
theorem dX0_shortRingLength_40 : decode cX0_shortRingLength 40 = .ok (.ireturn, 1) := by decide +kernel
set_option maxRecDepth 20000 in
theorem ggX0_shortRingFrom_X0_goOneRope : GoodIn wsX0_shortRingFrom wsX0_goOneRope := goodIn_r _ [8, 1, 9, 3, 10, 11, 2, 12, 13, 14, 15, 16, 17, 18, 19, 20, 21, 22, 23, 24, 25, 26, 27, 28, 29, 30] (by decide +kernel) (by decide +kernel)
set_option maxRecDepth 20000 in
theorem gX0_shortRingFrom_X0_goOneRope : GoodIn wsX0_shortRingFrom (wsV RX0 196 RX0 yX0_goOneRope wsX0_goOneRope) := goodIn_app (goodIn_of _ (by decide +kernel)) ggX0_shortRingFrom_X0_goOneRope
theorem dX0_shortRingFrom_0 : decode cX0_shortRingFrom 0 = .ok (.iconst 0, 1) := by decide +kernel
theorem dX0_shortRingFrom_1 : decode cX0_shortRingFrom 1 = .ok (.istore_n 2, 1) := by decide +kernel
theorem dX0_shortRingFrom_2 : decode cX0_shortRingFrom 2 = .ok (.iload_n 2, 1) := by decide +kernel
theorem dX0_shortRingFrom_3 : decode cX0_shortRingFrom 3 = .ok (.aload_n 0, 1) := by decide +kernel
theorem dX0_shortRingFrom_4 : decode cX0_shortRingFrom 4 = .ok (.getfield 41, 3) := by decide +kernel
theorem dX0_shortRingFrom_7 : decode cX0_shortRingFrom 7 = .ok (.if_icmp .ge 17, 3) := by decide +kernel
theorem dX0_shortRingFrom_10 : decode cX0_shortRingFrom 10 = .ok (.aload_n 0, 1) := by decide +kernel
theorem dX0_shortRingFrom_11 : decode cX0_shortRingFrom 11 = .ok (.getfield 32, 3) := by decide +kernel
theorem dX0_shortRingFrom_14 : decode cX0_shortRingFrom 14 = .ok (.iload_n 2, 1) := by decide +kernel
theorem dX0_shortRingFrom_15 : decode cX0_shortRingFrom 15 = .ok (.ldc 121, 2) := by decide +kernel
theorem dX0_shortRingFrom_17 : decode cX0_shortRingFrom 17 = .ok (.iastore, 1) := by decide +kernel
theorem dX0_shortRingFrom_18 : decode cX0_shortRingFrom 18 = .ok (.iinc 2 1, 3) := by decide +kernel
theorem dX0_shortRingFrom_21 : decode cX0_shortRingFrom 21 = .ok (.goto (-19), 3) := by decide +kernel
theorem dX0_shortRingFrom_24 : decode cX0_shortRingFrom 24 = .ok (.aload_n 0, 1) := by decide +kernel
theorem dX0_shortRingFrom_25 : decode cX0_shortRingFrom 25 = .ok (.getfield 32, 3) := by decide +kernel
theorem dX0_shortRingFrom_28 : decode cX0_shortRingFrom 28 = .ok (.iload_n 1, 1) := by decide +kernel
theorem dX0_shortRingFrom_29 : decode cX0_shortRingFrom 29 = .ok (.iconst 0, 1) := by decide +kernel
theorem dX0_shortRingFrom_30 : decode cX0_shortRingFrom 30 = .ok (.iastore, 1) := by decide +kernel
theorem dX0_shortRingFrom_31 : decode cX0_shortRingFrom 31 = .ok (.iconst 1, 1) := by decide +kernel
theorem dX0_shortRingFrom_32 : decode cX0_shortRingFrom 32 = .ok (.istore_n 2, 1) := by decide +kernel
theorem dX0_shortRingFrom_33 : decode cX0_shortRingFrom 33 = .ok (.iload_n 2, 1) := by decide +kernel
theorem dX0_shortRingFrom_34 : decode cX0_shortRingFrom 34 = .ok (.aload_n 0, 1) := by decide +kernel
theorem dX0_shortRingFrom_35 : decode cX0_shortRingFrom 35 = .ok (.getfield 41, 3) := by decide +kernel
theorem dX0_shortRingFrom_38 : decode cX0_shortRingFrom 38 = .ok (.if_icmp .gt 24, 3) := by decide +kernel
theorem dX0_shortRingFrom_41 : decode cX0_shortRingFrom 41 = .ok (.aload_n 0, 1) := by decide +kernel
theorem dX0_shortRingFrom_42 : decode cX0_shortRingFrom 42 = .ok (.invokevirtual 196, 3) := by decide +kernel
theorem dX0_shortRingFrom_45 : decode cX0_shortRingFrom 45 = .ok (.aload_n 0, 1) := by decide +kernel
theorem dX0_shortRingFrom_46 : decode cX0_shortRingFrom 46 = .ok (.getfield 32, 3) := by decide +kernel
theorem dX0_shortRingFrom_49 : decode cX0_shortRingFrom 49 = .ok (.iload_n 1, 1) := by decide +kernel
theorem dX0_shortRingFrom_50 : decode cX0_shortRingFrom 50 = .ok (.iaload, 1) := by decide +kernel
theorem dX0_shortRingFrom_51 : decode cX0_shortRingFrom 51 = .ok (.ifCond .ge 5, 3) := by decide +kernel
theorem dX0_shortRingFrom_54 : decode cX0_shortRingFrom 54 = .ok (.iload_n 2, 1) := by decide +kernel
theorem dX0_shortRingFrom_55 : decode cX0_shortRingFrom 55 = .ok (.ireturn, 1) := by decide +kernel
theorem dX0_shortRingFrom_56 : decode cX0_shortRingFrom 56 = .ok (.iinc 2 1, 3) := by decide +kernel
theorem dX0_shortRingFrom_59 : decode cX0_shortRingFrom 59 = .ok (.goto (-26), 3) := by decide +kernel
theorem dX0_shortRingFrom_62 : decode cX0_shortRingFrom 62 = .ok (.iconst 0, 1) := by decide +kernel
theorem dX0_shortRingFrom_63 : decode cX0_shortRingFrom 63 = .ok (.ireturn, 1) := by decide +kernel
theorem dX0_goOneRope_0 : decode cX0_goOneRope 0 = .ok (.iconst 0, 1) := by decide +kernel
theorem dX0_goOneRope_1 : decode cX0_goOneRope 1 = .ok (.istore_n 1, 1) := by decide +kernel
theorem dX0_goOneRope_2 : decode cX0_goOneRope 2 = .ok (.iload_n 1, 1) := by decide +kernel
theorem dX0_goOneRope_3 : decode cX0_goOneRope 3 = .ok (.aload_n 0, 1) := by decide +kernel
theorem dX0_goOneRope_4 : decode cX0_goOneRope 4 = .ok (.getfield 41, 3) := by decide +kernel
theorem dX0_goOneRope_7 : decode cX0_goOneRope 7 = .ok (.if_icmp .ge 17, 3) := by decide +kernel
theorem dX0_goOneRope_10 : decode cX0_goOneRope 10 = .ok (.aload_n 0, 1) := by decide +kernel
theorem dX0_goOneRope_11 : decode cX0_goOneRope 11 = .ok (.getfield 35, 3) := by decide +kernel
theorem dX0_goOneRope_14 : decode cX0_goOneRope 14 = .ok (.iload_n 1, 1) := by decide +kernel
theorem dX0_goOneRope_15 : decode cX0_goOneRope 15 = .ok (.ldc 121, 2) := by decide +kernel
theorem dX0_goOneRope_17 : decode cX0_goOneRope 17 = .ok (.iastore, 1) := by decide +kernel
theorem dX0_goOneRope_18 : decode cX0_goOneRope 18 = .ok (.iinc 1 1, 3) := by decide +kernel
theorem dX0_goOneRope_21 : decode cX0_goOneRope 21 = .ok (.goto (-19), 3) := by decide +kernel
theorem dX0_goOneRope_24 : decode cX0_goOneRope 24 = .ok (.iconst 0, 1) := by decide +kernel
theorem dX0_goOneRope_25 : decode cX0_goOneRope 25 = .ok (.istore_n 1, 1) := by decide +kernel
theorem dX0_goOneRope_26 : decode cX0_goOneRope 26 = .ok (.iload_n 1, 1) := by decide +kernel
theorem dX0_goOneRope_27 : decode cX0_goOneRope 27 = .ok (.aload_n 0, 1) := by decide +kernel
theorem dX0_goOneRope_28 : decode cX0_goOneRope 28 = .ok (.getfield 63, 3) := by decide +kernel
theorem dX0_goOneRope_31 : decode cX0_goOneRope 31 = .ok (.if_icmp .ge 79, 3) := by decide +kernel
theorem dX0_goOneRope_34 : decode cX0_goOneRope 34 = .ok (.aload_n 0, 1) := by decide +kernel
theorem dX0_goOneRope_35 : decode cX0_goOneRope 35 = .ok (.getfield 19, 3) := by decide +kernel
theorem dX0_goOneRope_38 : decode cX0_goOneRope 38 = .ok (.iload_n 1, 1) := by decide +kernel
theorem dX0_goOneRope_39 : decode cX0_goOneRope 39 = .ok (.baload, 1) := by decide +kernel
theorem dX0_goOneRope_40 : decode cX0_goOneRope 40 = .ok (.ifCond .eq 64, 3) := by decide +kernel
theorem dX0_goOneRope_43 : decode cX0_goOneRope 43 = .ok (.aload_n 0, 1) := by decide +kernel
theorem dX0_goOneRope_44 : decode cX0_goOneRope 44 = .ok (.getfield 32, 3) := by decide +kernel
theorem dX0_goOneRope_47 : decode cX0_goOneRope 47 = .ok (.aload_n 0, 1) := by decide +kernel
theorem dX0_goOneRope_48 : decode cX0_goOneRope 48 = .ok (.getfield 9, 3) := by decide +kernel
theorem dX0_goOneRope_51 : decode cX0_goOneRope 51 = .ok (.iload_n 1, 1) := by decide +kernel
theorem dX0_goOneRope_52 : decode cX0_goOneRope 52 = .ok (.iaload, 1) := by decide +kernel
theorem dX0_goOneRope_53 : decode cX0_goOneRope 53 = .ok (.iaload, 1) := by decide +kernel
theorem dX0_goOneRope_54 : decode cX0_goOneRope 54 = .ok (.ldc 121, 2) := by decide +kernel
theorem dX0_goOneRope_56 : decode cX0_goOneRope 56 = .ok (.if_icmp .eq 48, 3) := by decide +kernel
theorem dX0_goOneRope_59 : decode cX0_goOneRope 59 = .ok (.aload_n 0, 1) := by decide +kernel
theorem dX0_goOneRope_60 : decode cX0_goOneRope 60 = .ok (.getfield 32, 3) := by decide +kernel
theorem dX0_goOneRope_63 : decode cX0_goOneRope 63 = .ok (.aload_n 0, 1) := by decide +kernel
theorem dX0_goOneRope_64 : decode cX0_goOneRope 64 = .ok (.getfield 9, 3) := by decide +kernel
theorem dX0_goOneRope_67 : decode cX0_goOneRope 67 = .ok (.iload_n 1, 1) := by decide +kernel
theorem dX0_goOneRope_68 : decode cX0_goOneRope 68 = .ok (.iaload, 1) := by decide +kernel
theorem dX0_goOneRope_69 : decode cX0_goOneRope 69 = .ok (.iaload, 1) := by decide +kernel
theorem dX0_goOneRope_70 : decode cX0_goOneRope 70 = .ok (.aload_n 0, 1) := by decide +kernel
theorem dX0_goOneRope_71 : decode cX0_goOneRope 71 = .ok (.getfield 16, 3) := by decide +kernel
theorem dX0_goOneRope_74 : decode cX0_goOneRope 74 = .ok (.iload_n 1, 1) := by decide +kernel
theorem dX0_goOneRope_75 : decode cX0_goOneRope 75 = .ok (.iaload, 1) := by decide +kernel
theorem dX0_goOneRope_76 : decode cX0_goOneRope 76 = .ok (.iadd, 1) := by decide +kernel
theorem dX0_goOneRope_77 : decode cX0_goOneRope 77 = .ok (.istore_n 2, 1) := by decide +kernel
theorem dX0_goOneRope_78 : decode cX0_goOneRope 78 = .ok (.aload_n 0, 1) := by decide +kernel
theorem dX0_goOneRope_79 : decode cX0_goOneRope 79 = .ok (.getfield 35, 3) := by decide +kernel
theorem dX0_goOneRope_82 : decode cX0_goOneRope 82 = .ok (.aload_n 0, 1) := by decide +kernel
theorem dX0_goOneRope_83 : decode cX0_goOneRope 83 = .ok (.getfield 13, 3) := by decide +kernel
theorem dX0_goOneRope_86 : decode cX0_goOneRope 86 = .ok (.iload_n 1, 1) := by decide +kernel
theorem dX0_goOneRope_87 : decode cX0_goOneRope 87 = .ok (.iaload, 1) := by decide +kernel
theorem dX0_goOneRope_88 : decode cX0_goOneRope 88 = .ok (.aload_n 0, 1) := by decide +kernel
theorem dX0_goOneRope_89 : decode cX0_goOneRope 89 = .ok (.getfield 35, 3) := by decide +kernel
theorem dX0_goOneRope_92 : decode cX0_goOneRope 92 = .ok (.aload_n 0, 1) := by decide +kernel
theorem dX0_goOneRope_93 : decode cX0_goOneRope 93 = .ok (.getfield 13, 3) := by decide +kernel
theorem dX0_goOneRope_96 : decode cX0_goOneRope 96 = .ok (.iload_n 1, 1) := by decide +kernel
theorem dX0_goOneRope_97 : decode cX0_goOneRope 97 = .ok (.iaload, 1) := by decide +kernel
theorem dX0_goOneRope_98 : decode cX0_goOneRope 98 = .ok (.iaload, 1) := by decide +kernel
theorem dX0_goOneRope_99 : decode cX0_goOneRope 99 = .ok (.iload_n 2, 1) := by decide +kernel
theorem dX0_goOneRope_100 : decode cX0_goOneRope 100 = .ok (.invokestatic 122, 3) := by decide +kernel
theorem dX0_goOneRope_103 : decode cX0_goOneRope 103 = .ok (.iastore, 1) := by decide +kernel
theorem dX0_goOneRope_104 : decode cX0_goOneRope 104 = .ok (.iinc 1 1, 3) := by decide +kernel
theorem dX0_goOneRope_107 : decode cX0_goOneRope 107 = .ok (.goto (-81), 3) := by decide +kernel
theorem dX0_goOneRope_110 : decode cX0_goOneRope 110 = .ok (.iconst 0, 1) := by decide +kernel
theorem dX0_goOneRope_111 : decode cX0_goOneRope 111 = .ok (.istore_n 1, 1) := by decide +kernel
theorem dX0_goOneRope_112 : decode cX0_goOneRope 112 = .ok (.iload_n 1, 1) := by decide +kernel
theorem dX0_goOneRope_113 : decode cX0_goOneRope 113 = .ok (.aload_n 0, 1) := by decide +kernel
theorem dX0_goOneRope_114 : decode cX0_goOneRope 114 = .ok (.getfield 41, 3) := by decide +kernel
theorem dX0_goOneRope_117 : decode cX0_goOneRope 117 = .ok (.if_icmp .ge 21, 3) := by decide +kernel
theorem dX0_goOneRope_120 : decode cX0_goOneRope 120 = .ok (.aload_n 0, 1) := by decide +kernel
theorem dX0_goOneRope_121 : decode cX0_goOneRope 121 = .ok (.getfield 32, 3) := by decide +kernel
theorem dX0_goOneRope_124 : decode cX0_goOneRope 124 = .ok (.iload_n 1, 1) := by decide +kernel
theorem dX0_goOneRope_125 : decode cX0_goOneRope 125 = .ok (.aload_n 0, 1) := by decide +kernel
theorem dX0_goOneRope_126 : decode cX0_goOneRope 126 = .ok (.getfield 35, 3) := by decide +kernel
theorem dX0_goOneRope_129 : decode cX0_goOneRope 129 = .ok (.iload_n 1, 1) := by decide +kernel
theorem dX0_goOneRope_130 : decode cX0_goOneRope 130 = .ok (.iaload, 1) := by decide +kernel
theorem dX0_goOneRope_131 : decode cX0_goOneRope 131 = .ok (.iastore, 1) := by decide +kernel
theorem dX0_goOneRope_132 : decode cX0_goOneRope 132 = .ok (.iinc 1 1, 3) := by decide +kernel
theorem dX0_goOneRope_135 : decode cX0_goOneRope 135 = .ok (.goto (-23), 3) := by decide +kernel
theorem dX0_goOneRope_138 : decode cX0_goOneRope 138 = .ok (.return_, 1) := by decide +kernel
end
section
theorem dX1_init_0 : decode cX1_init 0 = .ok (.aload_n 0, 1) := by decide +kernel
theorem dX1_init_1 : decode cX1_init 1 = .ok (.invokespecial 1, 3) := by decide +kernel
theorem dX1_init_4 : decode cX1_init 4 = .ok (.aload_n 0, 1) := by decide +kernel
theorem dX1_init_5 : decode cX1_init 5 = .ok (.bipush 120, 2) := by decide +kernel
theorem dX1_init_7 : decode cX1_init 7 = .ok (.newarray .int, 2) := by decide +kernel
theorem dX1_init_9 : decode cX1_init 9 = .ok (.putfield 9, 3) := by decide +kernel
theorem dX1_init_12 : decode cX1_init 12 = .ok (.return_, 1) := by decide +kernel
theorem dX1_thrown_0 : decode cX1_thrown 0 = .ok (.aload_n 0, 1) := by decide +kernel
theorem dX1_thrown_1 : decode cX1_thrown 1 = .ok (.getfield 13, 3) := by decide +kernel
theorem dX1_thrown_4 : decode cX1_thrown 4 = .ok (.ireturn, 1) := by decide +kernel
theorem dX1_fail_0 : decode cX1_fail 0 = .ok (.aload_n 0, 1) := by decide +kernel
theorem dX1_fail_1 : decode cX1_fail 1 = .ok (.iload_n 1, 1) := by decide +kernel
theorem dX1_fail_2 : decode cX1_fail 2 = .ok (.putfield 13, 3) := by decide +kernel
theorem dX1_fail_5 : decode cX1_fail 5 = .ok (.iconst 0, 1) := by decide +kernel
theorem dX1_fail_6 : decode cX1_fail 6 = .ok (.ireturn, 1) := by decide +kernel
theorem dX1_isIn_0 : decode cX1_isIn 0 = .ok (.iload_n 0, 1) := by decide +kernel
theorem dX1_isIn_1 : decode cX1_isIn 1 = .ok (.iload_n 1, 1) := by decide +kernel
theorem dX1_isIn_2 : decode cX1_isIn 2 = .ok (.if_icmp .lt 12, 3) := by decide +kernel
theorem dX1_isIn_5 : decode cX1_isIn 5 = .ok (.iload_n 0, 1) := by decide +kernel
theorem dX1_isIn_6 : decode cX1_isIn 6 = .ok (.iload_n 2, 1) := by decide +kernel
theorem dX1_isIn_7 : decode cX1_isIn 7 = .ok (.if_icmp .gt 7, 3) := by decide +kernel
theorem dX1_isIn_10 : decode cX1_isIn 10 = .ok (.iconst 1, 1) := by decide +kernel
theorem dX1_isIn_11 : decode cX1_isIn 11 = .ok (.goto 4, 3) := by decide +kernel
theorem dX1_isIn_14 : decode cX1_isIn 14 = .ok (.iconst 0, 1) := by decide +kernel
theorem dX1_isIn_15 : decode cX1_isIn 15 = .ok (.ireturn, 1) := by decide +kernel
set_option maxRecDepth 20000 in
theorem ggX1_isTurn_X1_isIn : GoodIn wsX1_isTurn wsX1_isIn := goodIn_r _ [5] (by decide +kernel) (by decide +kernel)
set_option maxRecDepth 20000 in
theorem gX1_isTurn_X1_isIn : GoodIn wsX1_isTurn (va_wsS RX1 20 yX1_isIn wsX1_isIn) := goodIn_app (goodIn_of _ (by decide +kernel)) ggX1_isTurn_X1_isIn
theorem dX1_isTurn_0 : decode cX1_isTurn 0 = .ok (.iload_n 1, 1) := by decide +kernel
theorem dX1_isTurn_1 : decode cX1_isTurn 1 = .ok (.iconst 0, 1) := by decide +kernel
theorem dX1_isTurn_2 : decode cX1_isTurn 2 = .ok (.aload_n 0, 1) := by decide +kernel
theorem dX1_isTurn_3 : decode cX1_isTurn 3 = .ok (.getfield 17, 3) := by decide +kernel
theorem dX1_isTurn_6 : decode cX1_isTurn 6 = .ok (.iconst 1, 1) := by decide +kernel
theorem dX1_isTurn_7 : decode cX1_isTurn 7 = .ok (.isub, 1) := by decide +kernel
theorem dX1_isTurn_8 : decode cX1_isTurn 8 = .ok (.invokestatic 20, 3) := by decide +kernel
theorem dX1_isTurn_11 : decode cX1_isTurn 11 = .ok (.ireturn, 1) := by decide +kernel
set_option maxRecDepth 20000 in
theorem ggX1_isRope_X1_isIn : GoodIn wsX1_isRope wsX1_isIn := goodIn_r _ [5] (by decide +kernel) (by decide +kernel)
set_option maxRecDepth 20000 in
theorem gX1_isRope_X1_isIn : GoodIn wsX1_isRope (va_wsS RX1 20 yX1_isIn wsX1_isIn) := goodIn_app (goodIn_of _ (by decide +kernel)) ggX1_isRope_X1_isIn
theorem dX1_isRope_0 : decode cX1_isRope 0 = .ok (.iload_n 1, 1) := by decide +kernel
theorem dX1_isRope_1 : decode cX1_isRope 1 = .ok (.iconst 0, 1) := by decide +kernel
theorem dX1_isRope_2 : decode cX1_isRope 2 = .ok (.aload_n 0, 1) := by decide +kernel
theorem dX1_isRope_3 : decode cX1_isRope 3 = .ok (.getfield 24, 3) := by decide +kernel
theorem dX1_isRope_6 : decode cX1_isRope 6 = .ok (.iconst 1, 1) := by decide +kernel
theorem dX1_isRope_7 : decode cX1_isRope 7 = .ok (.isub, 1) := by decide +kernel
theorem dX1_isRope_8 : decode cX1_isRope 8 = .ok (.invokestatic 20, 3) := by decide +kernel
theorem dX1_isRope_11 : decode cX1_isRope 11 = .ok (.ireturn, 1) := by decide +kernel
set_option maxRecDepth 20000 in
theorem ggX1_isLong_X1_isIn : GoodIn wsX1_isLong wsX1_isIn := goodIn_r _ [4] (by decide +kernel) (by decide +kernel)
set_option maxRecDepth 20000 in
theorem gX1_isLong_X1_isIn : GoodIn wsX1_isLong (va_wsS RX1 20 yX1_isIn wsX1_isIn) := goodIn_app (goodIn_of _ (by decide +kernel)) ggX1_isLong_X1_isIn
theorem dX1_isLong_0 : decode cX1_isLong 0 = .ok (.iload_n 0, 1) := by decide +kernel
theorem dX1_isLong_1 : decode cX1_isLong 1 = .ok (.bipush (-99), 2) := by decide +kernel
theorem dX1_isLong_3 : decode cX1_isLong 3 = .ok (.bipush 99, 2) := by decide +kernel
theorem dX1_isLong_5 : decode cX1_isLong 5 = .ok (.invokestatic 20, 3) := by decide +kernel
theorem dX1_isLong_8 : decode cX1_isLong 8 = .ok (.ireturn, 1) := by decide +kernel
theorem dX1_ro_0 : decode cX1_ro 0 = .ok (.aload_n 0, 1) := by decide +kernel
theorem dX1_ro_1 : decode cX1_ro 1 = .ok (.getfield 9, 3) := by decide +kernel
theorem dX1_ro_4 : decode cX1_ro 4 = .ok (.iconst 4, 1) := by decide +kernel
theorem dX1_ro_5 : decode cX1_ro 5 = .ok (.iload_n 1, 1) := by decide +kernel
theorem dX1_ro_6 : decode cX1_ro 6 = .ok (.imul, 1) := by decide +kernel
theorem dX1_ro_7 : decode cX1_ro 7 = .ok (.iload_n 2, 1) := by decide +kernel
theorem dX1_ro_8 : decode cX1_ro 8 = .ok (.iadd, 1) := by decide +kernel
theorem dX1_ro_9 : decode cX1_ro 9 = .ok (.iaload, 1) := by decide +kernel
theorem dX1_ro_10 : decode cX1_ro 10 = .ok (.ireturn, 1) := by decide +kernel
set_option maxRecDepth 20000 in
theorem ggX1_isTied_X1_ro : GoodIn wsX1_isTied wsX1_ro := goodIn_r _ [5, 6, 7, 8, 9, 10] (by decide +kernel) (by decide +kernel)
set_option maxRecDepth 20000 in
theorem gX1_isTied_X1_ro : GoodIn wsX1_isTied (wsV RX1 27 RX1 yX1_ro wsX1_ro) := goodIn_app (goodIn_of _ (by decide +kernel)) ggX1_isTied_X1_ro
theorem dX1_isTied_0 : decode cX1_isTied 0 = .ok (.aload_n 0, 1) := by decide +kernel
theorem dX1_isTied_1 : decode cX1_isTied 1 = .ok (.iload_n 1, 1) := by decide +kernel
theorem dX1_isTied_2 : decode cX1_isTied 2 = .ok (.iconst 3, 1) := by decide +kernel
theorem dX1_isTied_3 : decode cX1_isTied 3 = .ok (.invokevirtual 27, 3) := by decide +kernel
theorem dX1_isTied_6 : decode cX1_isTied 6 = .ok (.iconst 1, 1) := by decide +kernel
theorem dX1_isTied_7 : decode cX1_isTied 7 = .ok (.if_icmp .ne 7, 3) := by decide +kernel
theorem dX1_isTied_10 : decode cX1_isTied 10 = .ok (.iconst 1, 1) := by decide +kernel
theorem dX1_isTied_11 : decode cX1_isTied 11 = .ok (.goto 4, 3) := by decide +kernel
theorem dX1_isTied_14 : decode cX1_isTied 14 = .ok (.iconst 0, 1) := by decide +kernel
theorem dX1_isTied_15 : decode cX1_isTied 15 = .ok (.ireturn, 1) := by decide +kernel
set_option maxRecDepth 20000 in
theorem ggX1_earliest_X1_ro : GoodIn wsX1_earliest wsX1_ro := goodIn_r _ [8, 9, 14, 15, 16, 17] (by decide +kernel) (by decide +kernel)
set_option maxRecDepth 20000 in
theorem gX1_earliest_X1_ro : GoodIn wsX1_earliest (wsV RX1 27 RX1 yX1_ro wsX1_ro) := goodIn_app (goodIn_of _ (by decide +kernel)) ggX1_earliest_X1_ro
set_option maxRecDepth 20000 in
theorem ggX1_earliest_X1_isTied : GoodIn wsX1_earliest wsX1_isTied := goodIn_r _ [13, 4, 5, 6, 7, 8, 9, 14, 15, 16, 17] (by decide +kernel) (by decide +kernel)
set_option maxRecDepth 20000 in
theorem gX1_earliest_X1_isTied : GoodIn wsX1_earliest (wsV RX1 31 RX1 yX1_isTied wsX1_isTied) := goodIn_app (goodIn_of _ (by decide +kernel)) ggX1_earliest_X1_isTied
theorem dX1_earliest_0 : decode cX1_earliest 0 = .ok (.bipush 13, 2) := by decide +kernel
theorem dX1_earliest_2 : decode cX1_earliest 2 = .ok (.newarray .int, 2) := by decide +kernel
theorem dX1_earliest_4 : decode cX1_earliest 4 = .ok (.astore_n 1, 1) := by decide +kernel
theorem dX1_earliest_5 : decode cX1_earliest 5 = .ok (.aload_n 1, 1) := by decide +kernel
theorem dX1_earliest_6 : decode cX1_earliest 6 = .ok (.bipush 12, 2) := by decide +kernel
theorem dX1_earliest_8 : decode cX1_earliest 8 = .ok (.iconst (-1), 1) := by decide +kernel
theorem dX1_earliest_9 : decode cX1_earliest 9 = .ok (.iastore, 1) := by decide +kernel
theorem dX1_earliest_10 : decode cX1_earliest 10 = .ok (.iconst 0, 1) := by decide +kernel
theorem dX1_earliest_11 : decode cX1_earliest 11 = .ok (.istore_n 2, 1) := by decide +kernel
theorem dX1_earliest_12 : decode cX1_earliest 12 = .ok (.iload_n 2, 1) := by decide +kernel
theorem dX1_earliest_13 : decode cX1_earliest 13 = .ok (.aload_n 0, 1) := by decide +kernel
theorem dX1_earliest_14 : decode cX1_earliest 14 = .ok (.getfield 17, 3) := by decide +kernel
theorem dX1_earliest_17 : decode cX1_earliest 17 = .ok (.if_icmp .gt 103, 3) := by decide +kernel
theorem dX1_earliest_20 : decode cX1_earliest 20 = .ok (.iconst 0, 1) := by decide +kernel
theorem dX1_earliest_21 : decode cX1_earliest 21 = .ok (.istore_n 3, 1) := by decide +kernel
theorem dX1_earliest_22 : decode cX1_earliest 22 = .ok (.iconst 0, 1) := by decide +kernel
theorem dX1_earliest_23 : decode cX1_earliest 23 = .ok (.istore 4, 2) := by decide +kernel
theorem dX1_earliest_25 : decode cX1_earliest 25 = .ok (.iload 4, 2) := by decide +kernel
theorem dX1_earliest_27 : decode cX1_earliest 27 = .ok (.aload_n 0, 1) := by decide +kernel
theorem dX1_earliest_28 : decode cX1_earliest 28 = .ok (.getfield 24, 3) := by decide +kernel
theorem dX1_earliest_31 : decode cX1_earliest 31 = .ok (.if_icmp .ge 67, 3) := by decide +kernel
theorem dX1_earliest_34 : decode cX1_earliest 34 = .ok (.aload_n 1, 1) := by decide +kernel
theorem dX1_earliest_35 : decode cX1_earliest 35 = .ok (.aload_n 0, 1) := by decide +kernel
theorem dX1_earliest_36 : decode cX1_earliest 36 = .ok (.iload 4, 2) := by decide +kernel
theorem dX1_earliest_38 : decode cX1_earliest 38 = .ok (.iconst 1, 1) := by decide +kernel
theorem dX1_earliest_39 : decode cX1_earliest 39 = .ok (.invokevirtual 27, 3) := by decide +kernel
theorem dX1_earliest_42 : decode cX1_earliest 42 = .ok (.iaload, 1) := by decide +kernel
theorem dX1_earliest_43 : decode cX1_earliest 43 = .ok (.aload_n 0, 1) := by decide +kernel
theorem dX1_earliest_44 : decode cX1_earliest 44 = .ok (.iload 4, 2) := by decide +kernel
theorem dX1_earliest_46 : decode cX1_earliest 46 = .ok (.iconst 2, 1) := by decide +kernel
theorem dX1_earliest_47 : decode cX1_earliest 47 = .ok (.invokevirtual 27, 3) := by decide +kernel
theorem dX1_earliest_50 : decode cX1_earliest 50 = .ok (.isub, 1) := by decide +kernel
theorem dX1_earliest_51 : decode cX1_earliest 51 = .ok (.istore 5, 2) := by decide +kernel
theorem dX1_earliest_53 : decode cX1_earliest 53 = .ok (.aload_n 0, 1) := by decide +kernel
theorem dX1_earliest_54 : decode cX1_earliest 54 = .ok (.iload 4, 2) := by decide +kernel
theorem dX1_earliest_56 : decode cX1_earliest 56 = .ok (.invokevirtual 31, 3) := by decide +kernel
theorem dX1_earliest_59 : decode cX1_earliest 59 = .ok (.ifCond .eq 33, 3) := by decide +kernel
theorem dX1_earliest_62 : decode cX1_earliest 62 = .ok (.aload_n 1, 1) := by decide +kernel
theorem dX1_earliest_63 : decode cX1_earliest 63 = .ok (.aload_n 0, 1) := by decide +kernel
theorem dX1_earliest_64 : decode cX1_earliest 64 = .ok (.iload 4, 2) := by decide +kernel
theorem dX1_earliest_66 : decode cX1_earliest 66 = .ok (.iconst 0, 1) := by decide +kernel
theorem dX1_earliest_67 : decode cX1_earliest 67 = .ok (.invokevirtual 27, 3) := by decide +kernel
theorem dX1_earliest_70 : decode cX1_earliest 70 = .ok (.iaload, 1) := by decide +kernel
theorem dX1_earliest_71 : decode cX1_earliest 71 = .ok (.iload 5, 2) := by decide +kernel
theorem dX1_earliest_73 : decode cX1_earliest 73 = .ok (.if_icmp .lt 6, 3) := by decide +kernel
theorem dX1_earliest_76 : decode cX1_earliest 76 = .ok (.goto 16, 3) := by decide +kernel
theorem dX1_earliest_79 : decode cX1_earliest 79 = .ok (.aload_n 1, 1) := by decide +kernel
theorem dX1_earliest_80 : decode cX1_earliest 80 = .ok (.aload_n 0, 1) := by decide +kernel
theorem dX1_earliest_81 : decode cX1_earliest 81 = .ok (.iload 4, 2) := by decide +kernel
theorem dX1_earliest_83 : decode cX1_earliest 83 = .ok (.iconst 0, 1) := by decide +kernel
theorem dX1_earliest_84 : decode cX1_earliest 84 = .ok (.invokevirtual 27, 3) := by decide +kernel
theorem dX1_earliest_87 : decode cX1_earliest 87 = .ok (.iload 5, 2) := by decide +kernel
theorem dX1_earliest_89 : decode cX1_earliest 89 = .ok (.iastore, 1) := by decide +kernel
theorem dX1_earliest_90 : decode cX1_earliest 90 = .ok (.iconst 1, 1) := by decide +kernel
theorem dX1_earliest_91 : decode cX1_earliest 91 = .ok (.istore_n 3, 1) := by decide +kernel
theorem dX1_earliest_92 : decode cX1_earliest 92 = .ok (.iinc 4 1, 3) := by decide +kernel
theorem dX1_earliest_95 : decode cX1_earliest 95 = .ok (.goto (-70), 3) := by decide +kernel
theorem dX1_earliest_98 : decode cX1_earliest 98 = .ok (.iload_n 3, 1) := by decide +kernel
theorem dX1_earliest_99 : decode cX1_earliest 99 = .ok (.ifCond .eq 6, 3) := by decide +kernel
theorem dX1_earliest_102 : decode cX1_earliest 102 = .ok (.goto 12, 3) := by decide +kernel
theorem dX1_earliest_105 : decode cX1_earliest 105 = .ok (.aload_n 1, 1) := by decide +kernel
theorem dX1_earliest_106 : decode cX1_earliest 106 = .ok (.bipush 12, 2) := by decide +kernel
theorem dX1_earliest_108 : decode cX1_earliest 108 = .ok (.iload_n 2, 1) := by decide +kernel
theorem dX1_earliest_109 : decode cX1_earliest 109 = .ok (.iconst 1, 1) := by decide +kernel
theorem dX1_earliest_110 : decode cX1_earliest 110 = .ok (.iadd, 1) := by decide +kernel
theorem dX1_earliest_111 : decode cX1_earliest 111 = .ok (.iastore, 1) := by decide +kernel
theorem dX1_earliest_112 : decode cX1_earliest 112 = .ok (.aload_n 1, 1) := by decide +kernel
theorem dX1_earliest_113 : decode cX1_earliest 113 = .ok (.areturn, 1) := by decide +kernel
theorem dX1_earliest_114 : decode cX1_earliest 114 = .ok (.iinc 2 1, 3) := by decide +kernel
theorem dX1_earliest_117 : decode cX1_earliest 117 = .ok (.goto (-105), 3) := by decide +kernel
theorem dX1_earliest_120 : decode cX1_earliest 120 = .ok (.aload_n 1, 1) := by decide +kernel
theorem dX1_earliest_121 : decode cX1_earliest 121 = .ok (.areturn, 1) := by decide +kernel
theorem dX1_isFound_0 : decode cX1_isFound 0 = .ok (.aload_n 1, 1) := by decide +kernel
theorem dX1_isFound_1 : decode cX1_isFound 1 = .ok (.bipush 12, 2) := by decide +kernel
theorem dX1_isFound_3 : decode cX1_isFound 3 = .ok (.iaload, 1) := by decide +kernel
theorem dX1_isFound_4 : decode cX1_isFound 4 = .ok (.iconst (-1), 1) := by decide +kernel
theorem dX1_isFound_5 : decode cX1_isFound 5 = .ok (.if_icmp .eq 7, 3) := by decide +kernel
theorem dX1_isFound_8 : decode cX1_isFound 8 = .ok (.iconst 1, 1) := by decide +kernel
theorem dX1_isFound_9 : decode cX1_isFound 9 = .ok (.goto 4, 3) := by decide +kernel
theorem dX1_isFound_12 : decode cX1_isFound 12 = .ok (.iconst 0, 1) := by decide +kernel
theorem dX1_isFound_13 : decode cX1_isFound 13 = .ok (.ireturn, 1) := by decide +kernel
set_option maxRecDepth 20000 in
theorem ggX1_isHeld_X1_earliest : GoodIn wsX1_isHeld wsX1_earliest := goodIn_r _ [5, 6, 7, 8, 9, 10, 11, 4, 12, 13, 14, 15, 16, 17, 22, 23, 24, 25] (by decide +kernel) (by decide +kernel)
set_option maxRecDepth 20000 in
theorem gX1_isHeld_X1_earliest : GoodIn wsX1_isHeld (wsV RX1 35 RX1 yX1_earliest wsX1_earliest) := goodIn_app (goodIn_of _ (by decide +kernel)) ggX1_isHeld_X1_earliest
set_option maxRecDepth 20000 in
theorem ggX1_isHeld_X1_isFound : GoodIn wsX1_isHeld wsX1_isFound := goodIn_r _ [21] (by decide +kernel) (by decide +kernel)
set_option maxRecDepth 20000 in
theorem gX1_isHeld_X1_isFound : GoodIn wsX1_isHeld (wsV RX1 39 RX1 yX1_isFound wsX1_isFound) := goodIn_app (goodIn_of _ (by decide +kernel)) ggX1_isHeld_X1_isFound
theorem dX1_isHeld_0 : decode cX1_isHeld 0 = .ok (.aload_n 0, 1) := by decide +kernel
theorem dX1_isHeld_1 : decode cX1_isHeld 1 = .ok (.aload_n 0, 1) := by decide +kernel
theorem dX1_isHeld_2 : decode cX1_isHeld 2 = .ok (.invokevirtual 35, 3) := by decide +kernel
theorem dX1_isHeld_5 : decode cX1_isHeld 5 = .ok (.invokevirtual 39, 3) := by decide +kernel
theorem dX1_isHeld_8 : decode cX1_isHeld 8 = .ok (.ireturn, 1) := by decide +kernel
theorem dX1_last_0 : decode cX1_last 0 = .ok (.iconst 0, 1) := by decide +kernel
theorem dX1_last_1 : decode cX1_last 1 = .ok (.istore_n 2, 1) := by decide +kernel
theorem dX1_last_2 : decode cX1_last 2 = .ok (.iconst 0, 1) := by decide +kernel
theorem dX1_last_3 : decode cX1_last 3 = .ok (.istore_n 3, 1) := by decide +kernel
theorem dX1_last_4 : decode cX1_last 4 = .ok (.iload_n 3, 1) := by decide +kernel
theorem dX1_last_5 : decode cX1_last 5 = .ok (.aload_n 0, 1) := by decide +kernel
theorem dX1_last_6 : decode cX1_last 6 = .ok (.getfield 17, 3) := by decide +kernel
theorem dX1_last_9 : decode cX1_last 9 = .ok (.if_icmp .ge 17, 3) := by decide +kernel
theorem dX1_last_12 : decode cX1_last 12 = .ok (.iload_n 2, 1) := by decide +kernel
theorem dX1_last_13 : decode cX1_last 13 = .ok (.aload_n 1, 1) := by decide +kernel
theorem dX1_last_14 : decode cX1_last 14 = .ok (.iload_n 3, 1) := by decide +kernel
theorem dX1_last_15 : decode cX1_last 15 = .ok (.iaload, 1) := by decide +kernel
theorem dX1_last_16 : decode cX1_last 16 = .ok (.invokestatic 43, 3) := by decide +kernel
theorem dX1_last_19 : decode cX1_last 19 = .ok (.istore_n 2, 1) := by decide +kernel
theorem dX1_last_20 : decode cX1_last 20 = .ok (.iinc 3 1, 3) := by decide +kernel
theorem dX1_last_23 : decode cX1_last 23 = .ok (.goto (-19), 3) := by decide +kernel
theorem dX1_last_26 : decode cX1_last 26 = .ok (.iload_n 2, 1) := by decide +kernel
theorem dX1_last_27 : decode cX1_last 27 = .ok (.ireturn, 1) := by decide +kernel
set_option maxRecDepth 20000 in
theorem ggX1_ways_X1_isTied : GoodIn wsX1_ways wsX1_isTied := goodIn_r _ [14, 15, 16, 17, 13, 18, 19, 20, 21, 22, 23] (by decide +kernel) (by decide +kernel)
set_option maxRecDepth 20000 in
theorem gX1_ways_X1_isTied : GoodIn wsX1_ways (wsV RX1 31 RX1 yX1_isTied wsX1_isTied) := goodIn_app (goodIn_of _ (by decide +kernel)) ggX1_ways_X1_isTied
set_option maxRecDepth 20000 in
theorem ggX1_ways_X1_ro : GoodIn wsX1_ways wsX1_ro := goodIn_r _ [18, 19, 20, 21, 22, 23] (by decide +kernel) (by decide +kernel)
set_option maxRecDepth 20000 in
theorem gX1_ways_X1_ro : GoodIn wsX1_ways (wsV RX1 27 RX1 yX1_ro wsX1_ro) := goodIn_app (goodIn_of _ (by decide +kernel)) ggX1_ways_X1_ro
theorem dX1_ways_0 : decode cX1_ways 0 = .ok (.bipush 12, 2) := by decide +kernel
theorem dX1_ways_2 : decode cX1_ways 2 = .ok (.bipush 12, 2) := by decide +kernel
theorem dX1_ways_4 : decode cX1_ways 4 = .ok (.multianewarray 48 2, 4) := by decide +kernel
theorem dX1_ways_8 : decode cX1_ways 8 = .ok (.astore_n 1, 1) := by decide +kernel
theorem dX1_ways_9 : decode cX1_ways 9 = .ok (.iconst 0, 1) := by decide +kernel
theorem dX1_ways_10 : decode cX1_ways 10 = .ok (.istore_n 2, 1) := by decide +kernel
theorem dX1_ways_11 : decode cX1_ways 11 = .ok (.iload_n 2, 1) := by decide +kernel
theorem dX1_ways_12 : decode cX1_ways 12 = .ok (.bipush 12, 2) := by decide +kernel
theorem dX1_ways_14 : decode cX1_ways 14 = .ok (.if_icmp .ge 39, 3) := by decide +kernel
theorem dX1_ways_17 : decode cX1_ways 17 = .ok (.iconst 0, 1) := by decide +kernel
theorem dX1_ways_18 : decode cX1_ways 18 = .ok (.istore_n 3, 1) := by decide +kernel
theorem dX1_ways_19 : decode cX1_ways 19 = .ok (.iload_n 3, 1) := by decide +kernel
theorem dX1_ways_20 : decode cX1_ways 20 = .ok (.bipush 12, 2) := by decide +kernel
theorem dX1_ways_22 : decode cX1_ways 22 = .ok (.if_icmp .ge 25, 3) := by decide +kernel
theorem dX1_ways_25 : decode cX1_ways 25 = .ok (.aload_n 1, 1) := by decide +kernel
theorem dX1_ways_26 : decode cX1_ways 26 = .ok (.iload_n 2, 1) := by decide +kernel
theorem dX1_ways_27 : decode cX1_ways 27 = .ok (.aaload, 1) := by decide +kernel
theorem dX1_ways_28 : decode cX1_ways 28 = .ok (.iload_n 3, 1) := by decide +kernel
theorem dX1_ways_29 : decode cX1_ways 29 = .ok (.iload_n 2, 1) := by decide +kernel
theorem dX1_ways_30 : decode cX1_ways 30 = .ok (.iload_n 3, 1) := by decide +kernel
theorem dX1_ways_31 : decode cX1_ways 31 = .ok (.if_icmp .ne 7, 3) := by decide +kernel
theorem dX1_ways_34 : decode cX1_ways 34 = .ok (.iconst 0, 1) := by decide +kernel
theorem dX1_ways_35 : decode cX1_ways 35 = .ok (.goto 5, 3) := by decide +kernel
theorem dX1_ways_38 : decode cX1_ways 38 = .ok (.ldc 50, 2) := by decide +kernel
theorem dX1_ways_40 : decode cX1_ways 40 = .ok (.iastore, 1) := by decide +kernel
theorem dX1_ways_41 : decode cX1_ways 41 = .ok (.iinc 3 1, 3) := by decide +kernel
theorem dX1_ways_44 : decode cX1_ways 44 = .ok (.goto (-25), 3) := by decide +kernel
theorem dX1_ways_47 : decode cX1_ways 47 = .ok (.iinc 2 1, 3) := by decide +kernel
theorem dX1_ways_50 : decode cX1_ways 50 = .ok (.goto (-39), 3) := by decide +kernel
theorem dX1_ways_53 : decode cX1_ways 53 = .ok (.iconst 0, 1) := by decide +kernel
theorem dX1_ways_54 : decode cX1_ways 54 = .ok (.istore_n 2, 1) := by decide +kernel
theorem dX1_ways_55 : decode cX1_ways 55 = .ok (.iload_n 2, 1) := by decide +kernel
theorem dX1_ways_56 : decode cX1_ways 56 = .ok (.aload_n 0, 1) := by decide +kernel
theorem dX1_ways_57 : decode cX1_ways 57 = .ok (.getfield 24, 3) := by decide +kernel
theorem dX1_ways_60 : decode cX1_ways 60 = .ok (.if_icmp .ge 56, 3) := by decide +kernel
theorem dX1_ways_63 : decode cX1_ways 63 = .ok (.aload_n 0, 1) := by decide +kernel
theorem dX1_ways_64 : decode cX1_ways 64 = .ok (.iload_n 2, 1) := by decide +kernel
theorem dX1_ways_65 : decode cX1_ways 65 = .ok (.invokevirtual 31, 3) := by decide +kernel
theorem dX1_ways_68 : decode cX1_ways 68 = .ok (.ifCond .eq 42, 3) := by decide +kernel
theorem dX1_ways_71 : decode cX1_ways 71 = .ok (.aload_n 1, 1) := by decide +kernel
theorem dX1_ways_72 : decode cX1_ways 72 = .ok (.aload_n 0, 1) := by decide +kernel
theorem dX1_ways_73 : decode cX1_ways 73 = .ok (.iload_n 2, 1) := by decide +kernel
theorem dX1_ways_74 : decode cX1_ways 74 = .ok (.iconst 0, 1) := by decide +kernel
theorem dX1_ways_75 : decode cX1_ways 75 = .ok (.invokevirtual 27, 3) := by decide +kernel
theorem dX1_ways_78 : decode cX1_ways 78 = .ok (.aaload, 1) := by decide +kernel
theorem dX1_ways_79 : decode cX1_ways 79 = .ok (.aload_n 0, 1) := by decide +kernel
theorem dX1_ways_80 : decode cX1_ways 80 = .ok (.iload_n 2, 1) := by decide +kernel
theorem dX1_ways_81 : decode cX1_ways 81 = .ok (.iconst 1, 1) := by decide +kernel
theorem dX1_ways_82 : decode cX1_ways 82 = .ok (.invokevirtual 27, 3) := by decide +kernel
theorem dX1_ways_85 : decode cX1_ways 85 = .ok (.aload_n 1, 1) := by decide +kernel
theorem dX1_ways_86 : decode cX1_ways 86 = .ok (.aload_n 0, 1) := by decide +kernel
theorem dX1_ways_87 : decode cX1_ways 87 = .ok (.iload_n 2, 1) := by decide +kernel
theorem dX1_ways_88 : decode cX1_ways 88 = .ok (.iconst 0, 1) := by decide +kernel
theorem dX1_ways_89 : decode cX1_ways 89 = .ok (.invokevirtual 27, 3) := by decide +kernel
theorem dX1_ways_92 : decode cX1_ways 92 = .ok (.aaload, 1) := by decide +kernel
theorem dX1_ways_93 : decode cX1_ways 93 = .ok (.aload_n 0, 1) := by decide +kernel
theorem dX1_ways_94 : decode cX1_ways 94 = .ok (.iload_n 2, 1) := by decide +kernel
theorem dX1_ways_95 : decode cX1_ways 95 = .ok (.iconst 1, 1) := by decide +kernel
theorem dX1_ways_96 : decode cX1_ways 96 = .ok (.invokevirtual 27, 3) := by decide +kernel
theorem dX1_ways_99 : decode cX1_ways 99 = .ok (.iaload, 1) := by decide +kernel
theorem dX1_ways_100 : decode cX1_ways 100 = .ok (.aload_n 0, 1) := by decide +kernel
theorem dX1_ways_101 : decode cX1_ways 101 = .ok (.iload_n 2, 1) := by decide +kernel
theorem dX1_ways_102 : decode cX1_ways 102 = .ok (.iconst 2, 1) := by decide +kernel
theorem dX1_ways_103 : decode cX1_ways 103 = .ok (.invokevirtual 27, 3) := by decide +kernel
theorem dX1_ways_106 : decode cX1_ways 106 = .ok (.invokestatic 51, 3) := by decide +kernel
theorem dX1_ways_109 : decode cX1_ways 109 = .ok (.iastore, 1) := by decide +kernel
theorem dX1_ways_110 : decode cX1_ways 110 = .ok (.iinc 2 1, 3) := by decide +kernel
theorem dX1_ways_113 : decode cX1_ways 113 = .ok (.goto (-58), 3) := by decide +kernel
theorem dX1_ways_116 : decode cX1_ways 116 = .ok (.iconst 0, 1) := by decide +kernel
theorem dX1_ways_117 : decode cX1_ways 117 = .ok (.istore_n 2, 1) := by decide +kernel
theorem dX1_ways_118 : decode cX1_ways 118 = .ok (.iload_n 2, 1) := by decide +kernel
theorem dX1_ways_119 : decode cX1_ways 119 = .ok (.aload_n 0, 1) := by decide +kernel
theorem dX1_ways_120 : decode cX1_ways 120 = .ok (.getfield 17, 3) := by decide +kernel
theorem dX1_ways_123 : decode cX1_ways 123 = .ok (.if_icmp .ge 91, 3) := by decide +kernel
theorem dX1_ways_126 : decode cX1_ways 126 = .ok (.iconst 0, 1) := by decide +kernel
theorem dX1_ways_127 : decode cX1_ways 127 = .ok (.istore_n 3, 1) := by decide +kernel
theorem dX1_ways_128 : decode cX1_ways 128 = .ok (.iload_n 3, 1) := by decide +kernel
theorem dX1_ways_129 : decode cX1_ways 129 = .ok (.aload_n 0, 1) := by decide +kernel
theorem dX1_ways_130 : decode cX1_ways 130 = .ok (.getfield 17, 3) := by decide +kernel
theorem dX1_ways_133 : decode cX1_ways 133 = .ok (.if_icmp .ge 75, 3) := by decide +kernel
theorem dX1_ways_136 : decode cX1_ways 136 = .ok (.iconst 0, 1) := by decide +kernel
theorem dX1_ways_137 : decode cX1_ways 137 = .ok (.istore 4, 2) := by decide +kernel
theorem dX1_ways_139 : decode cX1_ways 139 = .ok (.iload 4, 2) := by decide +kernel
theorem dX1_ways_141 : decode cX1_ways 141 = .ok (.aload_n 0, 1) := by decide +kernel
theorem dX1_ways_142 : decode cX1_ways 142 = .ok (.getfield 17, 3) := by decide +kernel
theorem dX1_ways_145 : decode cX1_ways 145 = .ok (.if_icmp .ge 57, 3) := by decide +kernel
theorem dX1_ways_148 : decode cX1_ways 148 = .ok (.aload_n 1, 1) := by decide +kernel
theorem dX1_ways_149 : decode cX1_ways 149 = .ok (.iload_n 3, 1) := by decide +kernel
theorem dX1_ways_150 : decode cX1_ways 150 = .ok (.aaload, 1) := by decide +kernel
theorem dX1_ways_151 : decode cX1_ways 151 = .ok (.iload_n 2, 1) := by decide +kernel
theorem dX1_ways_152 : decode cX1_ways 152 = .ok (.iaload, 1) := by decide +kernel
theorem dX1_ways_153 : decode cX1_ways 153 = .ok (.ldc 50, 2) := by decide +kernel
theorem dX1_ways_155 : decode cX1_ways 155 = .ok (.if_icmp .eq 41, 3) := by decide +kernel
theorem dX1_ways_158 : decode cX1_ways 158 = .ok (.aload_n 1, 1) := by decide +kernel
theorem dX1_ways_159 : decode cX1_ways 159 = .ok (.iload_n 2, 1) := by decide +kernel
theorem dX1_ways_160 : decode cX1_ways 160 = .ok (.aaload, 1) := by decide +kernel
theorem dX1_ways_161 : decode cX1_ways 161 = .ok (.iload 4, 2) := by decide +kernel
theorem dX1_ways_163 : decode cX1_ways 163 = .ok (.iaload, 1) := by decide +kernel
theorem dX1_ways_164 : decode cX1_ways 164 = .ok (.ldc 50, 2) := by decide +kernel
theorem dX1_ways_166 : decode cX1_ways 166 = .ok (.if_icmp .eq 30, 3) := by decide +kernel
theorem dX1_ways_169 : decode cX1_ways 169 = .ok (.aload_n 1, 1) := by decide +kernel
theorem dX1_ways_170 : decode cX1_ways 170 = .ok (.iload_n 3, 1) := by decide +kernel
theorem dX1_ways_171 : decode cX1_ways 171 = .ok (.aaload, 1) := by decide +kernel
theorem dX1_ways_172 : decode cX1_ways 172 = .ok (.iload 4, 2) := by decide +kernel
theorem dX1_ways_174 : decode cX1_ways 174 = .ok (.aload_n 1, 1) := by decide +kernel
theorem dX1_ways_175 : decode cX1_ways 175 = .ok (.iload_n 3, 1) := by decide +kernel
theorem dX1_ways_176 : decode cX1_ways 176 = .ok (.aaload, 1) := by decide +kernel
theorem dX1_ways_177 : decode cX1_ways 177 = .ok (.iload 4, 2) := by decide +kernel
theorem dX1_ways_179 : decode cX1_ways 179 = .ok (.iaload, 1) := by decide +kernel
theorem dX1_ways_180 : decode cX1_ways 180 = .ok (.aload_n 1, 1) := by decide +kernel
theorem dX1_ways_181 : decode cX1_ways 181 = .ok (.iload_n 3, 1) := by decide +kernel
theorem dX1_ways_182 : decode cX1_ways 182 = .ok (.aaload, 1) := by decide +kernel
theorem dX1_ways_183 : decode cX1_ways 183 = .ok (.iload_n 2, 1) := by decide +kernel
theorem dX1_ways_184 : decode cX1_ways 184 = .ok (.iaload, 1) := by decide +kernel
theorem dX1_ways_185 : decode cX1_ways 185 = .ok (.aload_n 1, 1) := by decide +kernel
theorem dX1_ways_186 : decode cX1_ways 186 = .ok (.iload_n 2, 1) := by decide +kernel
theorem dX1_ways_187 : decode cX1_ways 187 = .ok (.aaload, 1) := by decide +kernel
theorem dX1_ways_188 : decode cX1_ways 188 = .ok (.iload 4, 2) := by decide +kernel
theorem dX1_ways_190 : decode cX1_ways 190 = .ok (.iaload, 1) := by decide +kernel
theorem dX1_ways_191 : decode cX1_ways 191 = .ok (.iadd, 1) := by decide +kernel
theorem dX1_ways_192 : decode cX1_ways 192 = .ok (.invokestatic 51, 3) := by decide +kernel
theorem dX1_ways_195 : decode cX1_ways 195 = .ok (.iastore, 1) := by decide +kernel
theorem dX1_ways_196 : decode cX1_ways 196 = .ok (.iinc 4 1, 3) := by decide +kernel
theorem dX1_ways_199 : decode cX1_ways 199 = .ok (.goto (-60), 3) := by decide +kernel
theorem dX1_ways_202 : decode cX1_ways 202 = .ok (.iinc 3 1, 3) := by decide +kernel
theorem dX1_ways_205 : decode cX1_ways 205 = .ok (.goto (-77), 3) := by decide +kernel
theorem dX1_ways_208 : decode cX1_ways 208 = .ok (.iinc 2 1, 3) := by decide +kernel
theorem dX1_ways_211 : decode cX1_ways 211 = .ok (.goto (-93), 3) := by decide +kernel
theorem dX1_ways_214 : decode cX1_ways 214 = .ok (.aload_n 1, 1) := by decide +kernel
theorem dX1_ways_215 : decode cX1_ways 215 = .ok (.areturn, 1) := by decide +kernel
set_option maxRecDepth 20000 in
theorem ggX1_ring_X1_isTied : GoodIn wsX1_ring wsX1_isTied := goodIn_r _ [13, 14, 15, 16, 12, 17, 18, 19, 20, 21, 22] (by decide +kernel) (by decide +kernel)
set_option maxRecDepth 20000 in
theorem gX1_ring_X1_isTied : GoodIn wsX1_ring (wsV RX1 31 RX1 yX1_isTied wsX1_isTied) := goodIn_app (goodIn_of _ (by decide +kernel)) ggX1_ring_X1_isTied
set_option maxRecDepth 20000 in
theorem ggX1_ring_X1_ro : GoodIn wsX1_ring wsX1_ro := goodIn_r _ [17, 18, 19, 20, 21, 22] (by decide +kernel) (by decide +kernel)
set_option maxRecDepth 20000 in
theorem gX1_ring_X1_ro : GoodIn wsX1_ring (wsV RX1 27 RX1 yX1_ro wsX1_ro) := goodIn_app (goodIn_of _ (by decide +kernel)) ggX1_ring_X1_ro
theorem dX1_ring_0 : decode cX1_ring 0 = .ok (.iconst 0, 1) := by decide +kernel
theorem dX1_ring_1 : decode cX1_ring 1 = .ok (.istore_n 1, 1) := by decide +kernel
theorem dX1_ring_2 : decode cX1_ring 2 = .ok (.iconst 0, 1) := by decide +kernel
theorem dX1_ring_3 : decode cX1_ring 3 = .ok (.istore_n 2, 1) := by decide +kernel
theorem dX1_ring_4 : decode cX1_ring 4 = .ok (.iload_n 2, 1) := by decide +kernel
theorem dX1_ring_5 : decode cX1_ring 5 = .ok (.aload_n 0, 1) := by decide +kernel
theorem dX1_ring_6 : decode cX1_ring 6 = .ok (.getfield 17, 3) := by decide +kernel
theorem dX1_ring_9 : decode cX1_ring 9 = .ok (.if_icmp .ge 196, 3) := by decide +kernel
theorem dX1_ring_12 : decode cX1_ring 12 = .ok (.bipush 12, 2) := by decide +kernel
theorem dX1_ring_14 : decode cX1_ring 14 = .ok (.newarray .int, 2) := by decide +kernel
theorem dX1_ring_16 : decode cX1_ring 16 = .ok (.astore_n 3, 1) := by decide +kernel
theorem dX1_ring_17 : decode cX1_ring 17 = .ok (.iconst 0, 1) := by decide +kernel
theorem dX1_ring_18 : decode cX1_ring 18 = .ok (.istore 4, 2) := by decide +kernel
theorem dX1_ring_20 : decode cX1_ring 20 = .ok (.iload 4, 2) := by decide +kernel
theorem dX1_ring_22 : decode cX1_ring 22 = .ok (.bipush 12, 2) := by decide +kernel
theorem dX1_ring_24 : decode cX1_ring 24 = .ok (.if_icmp .ge 25, 3) := by decide +kernel
theorem dX1_ring_27 : decode cX1_ring 27 = .ok (.aload_n 3, 1) := by decide +kernel
theorem dX1_ring_28 : decode cX1_ring 28 = .ok (.iload 4, 2) := by decide +kernel
theorem dX1_ring_30 : decode cX1_ring 30 = .ok (.iload 4, 2) := by decide +kernel
theorem dX1_ring_32 : decode cX1_ring 32 = .ok (.iload_n 2, 1) := by decide +kernel
theorem dX1_ring_33 : decode cX1_ring 33 = .ok (.if_icmp .ne 7, 3) := by decide +kernel
theorem dX1_ring_36 : decode cX1_ring 36 = .ok (.iconst 0, 1) := by decide +kernel
theorem dX1_ring_37 : decode cX1_ring 37 = .ok (.goto 5, 3) := by decide +kernel
theorem dX1_ring_40 : decode cX1_ring 40 = .ok (.ldc 50, 2) := by decide +kernel
theorem dX1_ring_42 : decode cX1_ring 42 = .ok (.iastore, 1) := by decide +kernel
theorem dX1_ring_43 : decode cX1_ring 43 = .ok (.iinc 4 1, 3) := by decide +kernel
theorem dX1_ring_46 : decode cX1_ring 46 = .ok (.goto (-26), 3) := by decide +kernel
theorem dX1_ring_49 : decode cX1_ring 49 = .ok (.iconst 1, 1) := by decide +kernel
theorem dX1_ring_50 : decode cX1_ring 50 = .ok (.istore 4, 2) := by decide +kernel
theorem dX1_ring_52 : decode cX1_ring 52 = .ok (.iload 4, 2) := by decide +kernel
theorem dX1_ring_54 : decode cX1_ring 54 = .ok (.aload_n 0, 1) := by decide +kernel
theorem dX1_ring_55 : decode cX1_ring 55 = .ok (.getfield 17, 3) := by decide +kernel
theorem dX1_ring_58 : decode cX1_ring 58 = .ok (.if_icmp .gt 141, 3) := by decide +kernel
theorem dX1_ring_61 : decode cX1_ring 61 = .ok (.iload_n 1, 1) := by decide +kernel
theorem dX1_ring_62 : decode cX1_ring 62 = .ok (.ifCond .eq 9, 3) := by decide +kernel
theorem dX1_ring_65 : decode cX1_ring 65 = .ok (.iload 4, 2) := by decide +kernel
theorem dX1_ring_67 : decode cX1_ring 67 = .ok (.iload_n 1, 1) := by decide +kernel
theorem dX1_ring_68 : decode cX1_ring 68 = .ok (.if_icmp .ge 131, 3) := by decide +kernel
theorem dX1_ring_71 : decode cX1_ring 71 = .ok (.bipush 12, 2) := by decide +kernel
theorem dX1_ring_73 : decode cX1_ring 73 = .ok (.newarray .int, 2) := by decide +kernel
theorem dX1_ring_75 : decode cX1_ring 75 = .ok (.astore 5, 2) := by decide +kernel
theorem dX1_ring_77 : decode cX1_ring 77 = .ok (.iconst 0, 1) := by decide +kernel
theorem dX1_ring_78 : decode cX1_ring 78 = .ok (.istore 6, 2) := by decide +kernel
theorem dX1_ring_80 : decode cX1_ring 80 = .ok (.iload 6, 2) := by decide +kernel
theorem dX1_ring_82 : decode cX1_ring 82 = .ok (.bipush 12, 2) := by decide +kernel
theorem dX1_ring_84 : decode cX1_ring 84 = .ok (.if_icmp .ge 16, 3) := by decide +kernel
theorem dX1_ring_87 : decode cX1_ring 87 = .ok (.aload 5, 2) := by decide +kernel
theorem dX1_ring_89 : decode cX1_ring 89 = .ok (.iload 6, 2) := by decide +kernel
theorem dX1_ring_91 : decode cX1_ring 91 = .ok (.ldc 50, 2) := by decide +kernel
theorem dX1_ring_93 : decode cX1_ring 93 = .ok (.iastore, 1) := by decide +kernel
theorem dX1_ring_94 : decode cX1_ring 94 = .ok (.iinc 6 1, 3) := by decide +kernel
theorem dX1_ring_97 : decode cX1_ring 97 = .ok (.goto (-17), 3) := by decide +kernel
theorem dX1_ring_100 : decode cX1_ring 100 = .ok (.iconst 0, 1) := by decide +kernel
theorem dX1_ring_101 : decode cX1_ring 101 = .ok (.istore 6, 2) := by decide +kernel
theorem dX1_ring_103 : decode cX1_ring 103 = .ok (.iload 6, 2) := by decide +kernel
theorem dX1_ring_105 : decode cX1_ring 105 = .ok (.aload_n 0, 1) := by decide +kernel
theorem dX1_ring_106 : decode cX1_ring 106 = .ok (.getfield 24, 3) := by decide +kernel
theorem dX1_ring_109 : decode cX1_ring 109 = .ok (.if_icmp .ge 72, 3) := by decide +kernel
theorem dX1_ring_112 : decode cX1_ring 112 = .ok (.aload_n 0, 1) := by decide +kernel
theorem dX1_ring_113 : decode cX1_ring 113 = .ok (.iload 6, 2) := by decide +kernel
theorem dX1_ring_115 : decode cX1_ring 115 = .ok (.invokevirtual 31, 3) := by decide +kernel
theorem dX1_ring_118 : decode cX1_ring 118 = .ok (.ifCond .eq 57, 3) := by decide +kernel
theorem dX1_ring_121 : decode cX1_ring 121 = .ok (.aload_n 3, 1) := by decide +kernel
theorem dX1_ring_122 : decode cX1_ring 122 = .ok (.aload_n 0, 1) := by decide +kernel
theorem dX1_ring_123 : decode cX1_ring 123 = .ok (.iload 6, 2) := by decide +kernel
theorem dX1_ring_125 : decode cX1_ring 125 = .ok (.iconst 0, 1) := by decide +kernel
theorem dX1_ring_126 : decode cX1_ring 126 = .ok (.invokevirtual 27, 3) := by decide +kernel
theorem dX1_ring_129 : decode cX1_ring 129 = .ok (.iaload, 1) := by decide +kernel
theorem dX1_ring_130 : decode cX1_ring 130 = .ok (.ldc 50, 2) := by decide +kernel
theorem dX1_ring_132 : decode cX1_ring 132 = .ok (.if_icmp .eq 43, 3) := by decide +kernel
theorem dX1_ring_135 : decode cX1_ring 135 = .ok (.aload 5, 2) := by decide +kernel
theorem dX1_ring_137 : decode cX1_ring 137 = .ok (.aload_n 0, 1) := by decide +kernel
theorem dX1_ring_138 : decode cX1_ring 138 = .ok (.iload 6, 2) := by decide +kernel
theorem dX1_ring_140 : decode cX1_ring 140 = .ok (.iconst 1, 1) := by decide +kernel
theorem dX1_ring_141 : decode cX1_ring 141 = .ok (.invokevirtual 27, 3) := by decide +kernel
theorem dX1_ring_144 : decode cX1_ring 144 = .ok (.aload 5, 2) := by decide +kernel
theorem dX1_ring_146 : decode cX1_ring 146 = .ok (.aload_n 0, 1) := by decide +kernel
theorem dX1_ring_147 : decode cX1_ring 147 = .ok (.iload 6, 2) := by decide +kernel
theorem dX1_ring_149 : decode cX1_ring 149 = .ok (.iconst 1, 1) := by decide +kernel
theorem dX1_ring_150 : decode cX1_ring 150 = .ok (.invokevirtual 27, 3) := by decide +kernel
theorem dX1_ring_153 : decode cX1_ring 153 = .ok (.iaload, 1) := by decide +kernel
theorem dX1_ring_154 : decode cX1_ring 154 = .ok (.aload_n 3, 1) := by decide +kernel
theorem dX1_ring_155 : decode cX1_ring 155 = .ok (.aload_n 0, 1) := by decide +kernel
theorem dX1_ring_156 : decode cX1_ring 156 = .ok (.iload 6, 2) := by decide +kernel
theorem dX1_ring_158 : decode cX1_ring 158 = .ok (.iconst 0, 1) := by decide +kernel
theorem dX1_ring_159 : decode cX1_ring 159 = .ok (.invokevirtual 27, 3) := by decide +kernel
theorem dX1_ring_162 : decode cX1_ring 162 = .ok (.iaload, 1) := by decide +kernel
theorem dX1_ring_163 : decode cX1_ring 163 = .ok (.aload_n 0, 1) := by decide +kernel
theorem dX1_ring_164 : decode cX1_ring 164 = .ok (.iload 6, 2) := by decide +kernel
theorem dX1_ring_166 : decode cX1_ring 166 = .ok (.iconst 2, 1) := by decide +kernel
theorem dX1_ring_167 : decode cX1_ring 167 = .ok (.invokevirtual 27, 3) := by decide +kernel
theorem dX1_ring_170 : decode cX1_ring 170 = .ok (.iadd, 1) := by decide +kernel
theorem dX1_ring_171 : decode cX1_ring 171 = .ok (.invokestatic 51, 3) := by decide +kernel
theorem dX1_ring_174 : decode cX1_ring 174 = .ok (.iastore, 1) := by decide +kernel
theorem dX1_ring_175 : decode cX1_ring 175 = .ok (.iinc 6 1, 3) := by decide +kernel
theorem dX1_ring_178 : decode cX1_ring 178 = .ok (.goto (-75), 3) := by decide +kernel
theorem dX1_ring_181 : decode cX1_ring 181 = .ok (.aload 5, 2) := by decide +kernel
theorem dX1_ring_183 : decode cX1_ring 183 = .ok (.astore_n 3, 1) := by decide +kernel
theorem dX1_ring_184 : decode cX1_ring 184 = .ok (.aload_n 3, 1) := by decide +kernel
theorem dX1_ring_185 : decode cX1_ring 185 = .ok (.iload_n 2, 1) := by decide +kernel
theorem dX1_ring_186 : decode cX1_ring 186 = .ok (.iaload, 1) := by decide +kernel
theorem dX1_ring_187 : decode cX1_ring 187 = .ok (.ifCond .ge 6, 3) := by decide +kernel
theorem dX1_ring_190 : decode cX1_ring 190 = .ok (.iload 4, 2) := by decide +kernel
theorem dX1_ring_192 : decode cX1_ring 192 = .ok (.istore_n 1, 1) := by decide +kernel
theorem dX1_ring_193 : decode cX1_ring 193 = .ok (.iinc 4 1, 3) := by decide +kernel
theorem dX1_ring_196 : decode cX1_ring 196 = .ok (.goto (-144), 3) := by decide +kernel
theorem dX1_ring_199 : decode cX1_ring 199 = .ok (.iinc 2 1, 3) := by decide +kernel
theorem dX1_ring_202 : decode cX1_ring 202 = .ok (.goto (-198), 3) := by decide +kernel
theorem dX1_ring_205 : decode cX1_ring 205 = .ok (.iload_n 1, 1) := by decide +kernel
theorem dX1_ring_206 : decode cX1_ring 206 = .ok (.ireturn, 1) := by decide +kernel
set_option maxRecDepth 20000 in
theorem ggX1_isTight_X1_isTied : GoodIn wsX1_isTight wsX1_isTied := goodIn_r _ [5, 6, 7, 8, 4, 9, 10, 15, 16, 17, 18] (by decide +kernel) (by decide +kernel)
set_option maxRecDepth 20000 in
theorem gX1_isTight_X1_isTied : GoodIn wsX1_isTight (wsV RX1 31 RX1 yX1_isTied wsX1_isTied) := goodIn_app (goodIn_of _ (by decide +kernel)) ggX1_isTight_X1_isTied
set_option maxRecDepth 20000 in
theorem ggX1_isTight_X1_isFound : GoodIn wsX1_isTight wsX1_isFound := goodIn_r _ [14] (by decide +kernel) (by decide +kernel)
set_option maxRecDepth 20000 in
theorem gX1_isTight_X1_isFound : GoodIn wsX1_isTight (wsV RX1 39 RX1 yX1_isFound wsX1_isFound) := goodIn_app (goodIn_of _ (by decide +kernel)) ggX1_isTight_X1_isFound
set_option maxRecDepth 20000 in
theorem ggX1_isTight_X1_ro : GoodIn wsX1_isTight wsX1_ro := goodIn_r _ [9, 10, 15, 16, 17, 18] (by decide +kernel) (by decide +kernel)
set_option maxRecDepth 20000 in
theorem gX1_isTight_X1_ro : GoodIn wsX1_isTight (wsV RX1 27 RX1 yX1_ro wsX1_ro) := goodIn_app (goodIn_of _ (by decide +kernel)) ggX1_isTight_X1_ro
theorem dX1_isTight_0 : decode cX1_isTight 0 = .ok (.aload_n 0, 1) := by decide +kernel
theorem dX1_isTight_1 : decode cX1_isTight 1 = .ok (.iload_n 1, 1) := by decide +kernel
theorem dX1_isTight_2 : decode cX1_isTight 2 = .ok (.invokevirtual 31, 3) := by decide +kernel
theorem dX1_isTight_5 : decode cX1_isTight 5 = .ok (.ifCond .eq 41, 3) := by decide +kernel
theorem dX1_isTight_8 : decode cX1_isTight 8 = .ok (.aload_n 0, 1) := by decide +kernel
theorem dX1_isTight_9 : decode cX1_isTight 9 = .ok (.aload_n 2, 1) := by decide +kernel
theorem dX1_isTight_10 : decode cX1_isTight 10 = .ok (.invokevirtual 39, 3) := by decide +kernel
theorem dX1_isTight_13 : decode cX1_isTight 13 = .ok (.ifCond .eq 33, 3) := by decide +kernel
theorem dX1_isTight_16 : decode cX1_isTight 16 = .ok (.aload_n 2, 1) := by decide +kernel
theorem dX1_isTight_17 : decode cX1_isTight 17 = .ok (.aload_n 0, 1) := by decide +kernel
theorem dX1_isTight_18 : decode cX1_isTight 18 = .ok (.iload_n 1, 1) := by decide +kernel
theorem dX1_isTight_19 : decode cX1_isTight 19 = .ok (.iconst 1, 1) := by decide +kernel
theorem dX1_isTight_20 : decode cX1_isTight 20 = .ok (.invokevirtual 27, 3) := by decide +kernel
theorem dX1_isTight_23 : decode cX1_isTight 23 = .ok (.iaload, 1) := by decide +kernel
theorem dX1_isTight_24 : decode cX1_isTight 24 = .ok (.aload_n 2, 1) := by decide +kernel
theorem dX1_isTight_25 : decode cX1_isTight 25 = .ok (.aload_n 0, 1) := by decide +kernel
theorem dX1_isTight_26 : decode cX1_isTight 26 = .ok (.iload_n 1, 1) := by decide +kernel
theorem dX1_isTight_27 : decode cX1_isTight 27 = .ok (.iconst 0, 1) := by decide +kernel
theorem dX1_isTight_28 : decode cX1_isTight 28 = .ok (.invokevirtual 27, 3) := by decide +kernel
theorem dX1_isTight_31 : decode cX1_isTight 31 = .ok (.iaload, 1) := by decide +kernel
theorem dX1_isTight_32 : decode cX1_isTight 32 = .ok (.aload_n 0, 1) := by decide +kernel
theorem dX1_isTight_33 : decode cX1_isTight 33 = .ok (.iload_n 1, 1) := by decide +kernel
theorem dX1_isTight_34 : decode cX1_isTight 34 = .ok (.iconst 2, 1) := by decide +kernel
theorem dX1_isTight_35 : decode cX1_isTight 35 = .ok (.invokevirtual 27, 3) := by decide +kernel
theorem dX1_isTight_38 : decode cX1_isTight 38 = .ok (.iadd, 1) := by decide +kernel
theorem dX1_isTight_39 : decode cX1_isTight 39 = .ok (.if_icmp .ne 7, 3) := by decide +kernel
theorem dX1_isTight_42 : decode cX1_isTight 42 = .ok (.iconst 1, 1) := by decide +kernel
theorem dX1_isTight_43 : decode cX1_isTight 43 = .ok (.goto 4, 3) := by decide +kernel
theorem dX1_isTight_46 : decode cX1_isTight 46 = .ok (.iconst 0, 1) := by decide +kernel
theorem dX1_isTight_47 : decode cX1_isTight 47 = .ok (.ireturn, 1) := by decide +kernel
set_option maxRecDepth 20000 in
theorem ggX1_shortest_X1_ways : GoodIn wsX1_shortest wsX1_ways := goodIn_r _ [10, 11, 12, 1, 13, 14, 15, 4, 16, 17, 18, 19, 20, 9, 21, 22, 23, 24, 25, 26, 27, 28, 29, 30] (by decide +kernel) (by decide +kernel)
set_option maxRecDepth 20000 in
theorem gX1_shortest_X1_ways : GoodIn wsX1_shortest (wsV RX1 54 RX1 yX1_ways wsX1_ways) := goodIn_app (goodIn_of _ (by decide +kernel)) ggX1_shortest_X1_ways
set_option maxRecDepth 20000 in
theorem ggX1_shortest_X1_ro : GoodIn wsX1_shortest wsX1_ro := goodIn_r _ [25, 26, 27, 28, 29, 30] (by decide +kernel) (by decide +kernel)
set_option maxRecDepth 20000 in
theorem gX1_shortest_X1_ro : GoodIn wsX1_shortest (wsV RX1 27 RX1 yX1_ro wsX1_ro) := goodIn_app (goodIn_of _ (by decide +kernel)) ggX1_shortest_X1_ro
theorem dX1_shortest_0 : decode cX1_shortest 0 = .ok (.aload_n 0, 1) := by decide +kernel
theorem dX1_shortest_1 : decode cX1_shortest 1 = .ok (.invokevirtual 54, 3) := by decide +kernel
theorem dX1_shortest_4 : decode cX1_shortest 4 = .ok (.aload_n 0, 1) := by decide +kernel
theorem dX1_shortest_5 : decode cX1_shortest 5 = .ok (.iload_n 1, 1) := by decide +kernel
theorem dX1_shortest_6 : decode cX1_shortest 6 = .ok (.iconst 1, 1) := by decide +kernel
theorem dX1_shortest_7 : decode cX1_shortest 7 = .ok (.invokevirtual 27, 3) := by decide +kernel
theorem dX1_shortest_10 : decode cX1_shortest 10 = .ok (.aaload, 1) := by decide +kernel
theorem dX1_shortest_11 : decode cX1_shortest 11 = .ok (.aload_n 0, 1) := by decide +kernel
theorem dX1_shortest_12 : decode cX1_shortest 12 = .ok (.iload_n 1, 1) := by decide +kernel
theorem dX1_shortest_13 : decode cX1_shortest 13 = .ok (.iconst 0, 1) := by decide +kernel
theorem dX1_shortest_14 : decode cX1_shortest 14 = .ok (.invokevirtual 27, 3) := by decide +kernel
theorem dX1_shortest_17 : decode cX1_shortest 17 = .ok (.iaload, 1) := by decide +kernel
theorem dX1_shortest_18 : decode cX1_shortest 18 = .ok (.istore_n 2, 1) := by decide +kernel
theorem dX1_shortest_19 : decode cX1_shortest 19 = .ok (.iload_n 2, 1) := by decide +kernel
theorem dX1_shortest_20 : decode cX1_shortest 20 = .ok (.ldc 50, 2) := by decide +kernel
theorem dX1_shortest_22 : decode cX1_shortest 22 = .ok (.if_icmp .ne 8, 3) := by decide +kernel
theorem dX1_shortest_25 : decode cX1_shortest 25 = .ok (.bipush (-99), 2) := by decide +kernel
theorem dX1_shortest_27 : decode cX1_shortest 27 = .ok (.goto 10, 3) := by decide +kernel
theorem dX1_shortest_30 : decode cX1_shortest 30 = .ok (.bipush (-99), 2) := by decide +kernel
theorem dX1_shortest_32 : decode cX1_shortest 32 = .ok (.iload_n 2, 1) := by decide +kernel
theorem dX1_shortest_33 : decode cX1_shortest 33 = .ok (.ineg, 1) := by decide +kernel
theorem dX1_shortest_34 : decode cX1_shortest 34 = .ok (.invokestatic 43, 3) := by decide +kernel
theorem dX1_shortest_37 : decode cX1_shortest 37 = .ok (.ireturn, 1) := by decide +kernel
set_option maxRecDepth 20000 in
theorem ggX1_turn_X1_fail : GoodIn wsX1_turn wsX1_fail := goodIn_r _ [7, 1, 8, 9, 10, 11] (by decide +kernel) (by decide +kernel)
set_option maxRecDepth 20000 in
theorem gX1_turn_X1_fail : GoodIn wsX1_turn (wsV RX1 58 RX1 yX1_fail wsX1_fail) := goodIn_app (goodIn_of _ (by decide +kernel)) ggX1_turn_X1_fail
theorem dX1_turn_0 : decode cX1_turn 0 = .ok (.aload_n 0, 1) := by decide +kernel
theorem dX1_turn_1 : decode cX1_turn 1 = .ok (.iconst 0, 1) := by decide +kernel
theorem dX1_turn_2 : decode cX1_turn 2 = .ok (.putfield 13, 3) := by decide +kernel
theorem dX1_turn_5 : decode cX1_turn 5 = .ok (.aload_n 0, 1) := by decide +kernel
theorem dX1_turn_6 : decode cX1_turn 6 = .ok (.getfield 17, 3) := by decide +kernel
theorem dX1_turn_9 : decode cX1_turn 9 = .ok (.bipush 12, 2) := by decide +kernel
theorem dX1_turn_11 : decode cX1_turn 11 = .ok (.if_icmp .ne 9, 3) := by decide +kernel
theorem dX1_turn_14 : decode cX1_turn 14 = .ok (.aload_n 0, 1) := by decide +kernel
theorem dX1_turn_15 : decode cX1_turn 15 = .ok (.iconst 1, 1) := by decide +kernel
theorem dX1_turn_16 : decode cX1_turn 16 = .ok (.invokevirtual 58, 3) := by decide +kernel
theorem dX1_turn_19 : decode cX1_turn 19 = .ok (.ireturn, 1) := by decide +kernel
theorem dX1_turn_20 : decode cX1_turn 20 = .ok (.aload_n 0, 1) := by decide +kernel
theorem dX1_turn_21 : decode cX1_turn 21 = .ok (.dup, 1) := by decide +kernel
theorem dX1_turn_22 : decode cX1_turn 22 = .ok (.getfield 17, 3) := by decide +kernel
theorem dX1_turn_25 : decode cX1_turn 25 = .ok (.iconst 1, 1) := by decide +kernel
theorem dX1_turn_26 : decode cX1_turn 26 = .ok (.iadd, 1) := by decide +kernel
theorem dX1_turn_27 : decode cX1_turn 27 = .ok (.putfield 17, 3) := by decide +kernel
theorem dX1_turn_30 : decode cX1_turn 30 = .ok (.aload_n 0, 1) := by decide +kernel
theorem dX1_turn_31 : decode cX1_turn 31 = .ok (.getfield 17, 3) := by decide +kernel
theorem dX1_turn_34 : decode cX1_turn 34 = .ok (.iconst 1, 1) := by decide +kernel
theorem dX1_turn_35 : decode cX1_turn 35 = .ok (.isub, 1) := by decide +kernel
theorem dX1_turn_36 : decode cX1_turn 36 = .ok (.ireturn, 1) := by decide +kernel
set_option maxRecDepth 20000 in
theorem ggX1_tie_X1_isTurn : GoodIn wsX1_tie wsX1_isTurn := goodIn_r _ [13, 14, 15, 16, 12, 17, 25, 26, 27, 28] (by decide +kernel) (by decide +kernel)
set_option maxRecDepth 20000 in
theorem gX1_tie_X1_isTurn : GoodIn wsX1_tie (wsV RX1 62 RX1 yX1_isTurn wsX1_isTurn) := goodIn_app (goodIn_of _ (by decide +kernel)) ggX1_tie_X1_isTurn
set_option maxRecDepth 20000 in
theorem ggX1_tie_X1_fail : GoodIn wsX1_tie wsX1_fail := goodIn_r _ [21, 1, 25, 26, 27, 28] (by decide +kernel) (by decide +kernel)
set_option maxRecDepth 20000 in
theorem gX1_tie_X1_fail : GoodIn wsX1_tie (wsV RX1 58 RX1 yX1_fail wsX1_fail) := goodIn_app (goodIn_of _ (by decide +kernel)) ggX1_tie_X1_fail
set_option maxRecDepth 20000 in
theorem ggX1_tie_X1_isLong : GoodIn wsX1_tie wsX1_isLong := goodIn_r _ [24, 15, 16, 12, 17] (by decide +kernel) (by decide +kernel)
set_option maxRecDepth 20000 in
theorem gX1_tie_X1_isLong : GoodIn wsX1_tie (va_wsS RX1 65 yX1_isLong wsX1_isLong) := goodIn_app (goodIn_of _ (by decide +kernel)) ggX1_tie_X1_isLong
theorem dX1_tie_0 : decode cX1_tie 0 = .ok (.aload_n 0, 1) := by decide +kernel
theorem dX1_tie_1 : decode cX1_tie 1 = .ok (.iconst 0, 1) := by decide +kernel
theorem dX1_tie_2 : decode cX1_tie 2 = .ok (.putfield 13, 3) := by decide +kernel
theorem dX1_tie_5 : decode cX1_tie 5 = .ok (.aload_n 0, 1) := by decide +kernel
theorem dX1_tie_6 : decode cX1_tie 6 = .ok (.iload_n 1, 1) := by decide +kernel
theorem dX1_tie_7 : decode cX1_tie 7 = .ok (.invokevirtual 62, 3) := by decide +kernel
theorem dX1_tie_10 : decode cX1_tie 10 = .ok (.ifCond .eq 11, 3) := by decide +kernel
theorem dX1_tie_13 : decode cX1_tie 13 = .ok (.aload_n 0, 1) := by decide +kernel
theorem dX1_tie_14 : decode cX1_tie 14 = .ok (.iload_n 2, 1) := by decide +kernel
theorem dX1_tie_15 : decode cX1_tie 15 = .ok (.invokevirtual 62, 3) := by decide +kernel
theorem dX1_tie_18 : decode cX1_tie 18 = .ok (.ifCond .ne 9, 3) := by decide +kernel
theorem dX1_tie_21 : decode cX1_tie 21 = .ok (.aload_n 0, 1) := by decide +kernel
theorem dX1_tie_22 : decode cX1_tie 22 = .ok (.iconst 1, 1) := by decide +kernel
theorem dX1_tie_23 : decode cX1_tie 23 = .ok (.invokevirtual 58, 3) := by decide +kernel
theorem dX1_tie_26 : decode cX1_tie 26 = .ok (.ireturn, 1) := by decide +kernel
theorem dX1_tie_27 : decode cX1_tie 27 = .ok (.iload_n 1, 1) := by decide +kernel
theorem dX1_tie_28 : decode cX1_tie 28 = .ok (.iload_n 2, 1) := by decide +kernel
theorem dX1_tie_29 : decode cX1_tie 29 = .ok (.if_icmp .eq 10, 3) := by decide +kernel
theorem dX1_tie_32 : decode cX1_tie 32 = .ok (.iload_n 3, 1) := by decide +kernel
theorem dX1_tie_33 : decode cX1_tie 33 = .ok (.invokestatic 65, 3) := by decide +kernel
theorem dX1_tie_36 : decode cX1_tie 36 = .ok (.ifCond .ne 9, 3) := by decide +kernel
theorem dX1_tie_39 : decode cX1_tie 39 = .ok (.aload_n 0, 1) := by decide +kernel
theorem dX1_tie_40 : decode cX1_tie 40 = .ok (.iconst 2, 1) := by decide +kernel
theorem dX1_tie_41 : decode cX1_tie 41 = .ok (.invokevirtual 58, 3) := by decide +kernel
theorem dX1_tie_44 : decode cX1_tie 44 = .ok (.ireturn, 1) := by decide +kernel
theorem dX1_tie_45 : decode cX1_tie 45 = .ok (.aload_n 0, 1) := by decide +kernel
theorem dX1_tie_46 : decode cX1_tie 46 = .ok (.getfield 24, 3) := by decide +kernel
theorem dX1_tie_49 : decode cX1_tie 49 = .ok (.bipush 30, 2) := by decide +kernel
theorem dX1_tie_51 : decode cX1_tie 51 = .ok (.if_icmp .ne 9, 3) := by decide +kernel
theorem dX1_tie_54 : decode cX1_tie 54 = .ok (.aload_n 0, 1) := by decide +kernel
theorem dX1_tie_55 : decode cX1_tie 55 = .ok (.iconst 3, 1) := by decide +kernel
theorem dX1_tie_56 : decode cX1_tie 56 = .ok (.invokevirtual 58, 3) := by decide +kernel
theorem dX1_tie_59 : decode cX1_tie 59 = .ok (.ireturn, 1) := by decide +kernel
theorem dX1_tie_60 : decode cX1_tie 60 = .ok (.iconst 4, 1) := by decide +kernel
theorem dX1_tie_61 : decode cX1_tie 61 = .ok (.newarray .int, 2) := by decide +kernel
theorem dX1_tie_63 : decode cX1_tie 63 = .ok (.dup, 1) := by decide +kernel
theorem dX1_tie_64 : decode cX1_tie 64 = .ok (.iconst 0, 1) := by decide +kernel
theorem dX1_tie_65 : decode cX1_tie 65 = .ok (.iload_n 1, 1) := by decide +kernel
theorem dX1_tie_66 : decode cX1_tie 66 = .ok (.iastore, 1) := by decide +kernel
theorem dX1_tie_67 : decode cX1_tie 67 = .ok (.dup, 1) := by decide +kernel
theorem dX1_tie_68 : decode cX1_tie 68 = .ok (.iconst 1, 1) := by decide +kernel
theorem dX1_tie_69 : decode cX1_tie 69 = .ok (.iload_n 2, 1) := by decide +kernel
theorem dX1_tie_70 : decode cX1_tie 70 = .ok (.iastore, 1) := by decide +kernel
theorem dX1_tie_71 : decode cX1_tie 71 = .ok (.dup, 1) := by decide +kernel
theorem dX1_tie_72 : decode cX1_tie 72 = .ok (.iconst 2, 1) := by decide +kernel
theorem dX1_tie_73 : decode cX1_tie 73 = .ok (.iload_n 3, 1) := by decide +kernel
theorem dX1_tie_74 : decode cX1_tie 74 = .ok (.iastore, 1) := by decide +kernel
theorem dX1_tie_75 : decode cX1_tie 75 = .ok (.dup, 1) := by decide +kernel
theorem dX1_tie_76 : decode cX1_tie 76 = .ok (.iconst 3, 1) := by decide +kernel
theorem dX1_tie_77 : decode cX1_tie 77 = .ok (.iconst 1, 1) := by decide +kernel
theorem dX1_tie_78 : decode cX1_tie 78 = .ok (.iastore, 1) := by decide +kernel
theorem dX1_tie_79 : decode cX1_tie 79 = .ok (.astore 4, 2) := by decide +kernel
theorem dX1_tie_81 : decode cX1_tie 81 = .ok (.aload 4, 2) := by decide +kernel
theorem dX1_tie_83 : decode cX1_tie 83 = .ok (.iconst 0, 1) := by decide +kernel
theorem dX1_tie_84 : decode cX1_tie 84 = .ok (.aload_n 0, 1) := by decide +kernel
theorem dX1_tie_85 : decode cX1_tie 85 = .ok (.getfield 9, 3) := by decide +kernel
theorem dX1_tie_88 : decode cX1_tie 88 = .ok (.iconst 4, 1) := by decide +kernel
theorem dX1_tie_89 : decode cX1_tie 89 = .ok (.aload_n 0, 1) := by decide +kernel
theorem dX1_tie_90 : decode cX1_tie 90 = .ok (.getfield 24, 3) := by decide +kernel
theorem dX1_tie_93 : decode cX1_tie 93 = .ok (.imul, 1) := by decide +kernel
theorem dX1_tie_94 : decode cX1_tie 94 = .ok (.iconst 4, 1) := by decide +kernel
theorem dX1_tie_95 : decode cX1_tie 95 = .ok (.invokestatic 68, 3) := by decide +kernel
theorem dX1_tie_98 : decode cX1_tie 98 = .ok (.aload_n 0, 1) := by decide +kernel
theorem dX1_tie_99 : decode cX1_tie 99 = .ok (.dup, 1) := by decide +kernel
theorem dX1_tie_100 : decode cX1_tie 100 = .ok (.getfield 24, 3) := by decide +kernel
theorem dX1_tie_103 : decode cX1_tie 103 = .ok (.iconst 1, 1) := by decide +kernel
theorem dX1_tie_104 : decode cX1_tie 104 = .ok (.iadd, 1) := by decide +kernel
theorem dX1_tie_105 : decode cX1_tie 105 = .ok (.putfield 24, 3) := by decide +kernel
theorem dX1_tie_108 : decode cX1_tie 108 = .ok (.aload_n 0, 1) := by decide +kernel
theorem dX1_tie_109 : decode cX1_tie 109 = .ok (.getfield 24, 3) := by decide +kernel
theorem dX1_tie_112 : decode cX1_tie 112 = .ok (.iconst 1, 1) := by decide +kernel
theorem dX1_tie_113 : decode cX1_tie 113 = .ok (.isub, 1) := by decide +kernel
theorem dX1_tie_114 : decode cX1_tie 114 = .ok (.ireturn, 1) := by decide +kernel
set_option maxRecDepth 20000 in
theorem ggX1_cut_X1_isRope : GoodIn wsX1_cut wsX1_isRope := goodIn_r _ [7, 8, 9, 10, 6, 11, 23, 24, 25, 26] (by decide +kernel) (by decide +kernel)
set_option maxRecDepth 20000 in
theorem gX1_cut_X1_isRope : GoodIn wsX1_cut (wsV RX1 74 RX1 yX1_isRope wsX1_isRope) := goodIn_app (goodIn_of _ (by decide +kernel)) ggX1_cut_X1_isRope
set_option maxRecDepth 20000 in
theorem ggX1_cut_X1_fail : GoodIn wsX1_cut wsX1_fail := goodIn_r _ [15, 1, 23, 24, 25, 26] (by decide +kernel) (by decide +kernel)
set_option maxRecDepth 20000 in
theorem gX1_cut_X1_fail : GoodIn wsX1_cut (wsV RX1 58 RX1 yX1_fail wsX1_fail) := goodIn_app (goodIn_of _ (by decide +kernel)) ggX1_cut_X1_fail
set_option maxRecDepth 20000 in
theorem ggX1_cut_X1_isLong : GoodIn wsX1_cut wsX1_isLong := goodIn_r _ [18, 9, 10, 6, 11] (by decide +kernel) (by decide +kernel)
set_option maxRecDepth 20000 in
theorem gX1_cut_X1_isLong : GoodIn wsX1_cut (va_wsS RX1 65 yX1_isLong wsX1_isLong) := goodIn_app (goodIn_of _ (by decide +kernel)) ggX1_cut_X1_isLong
set_option maxRecDepth 20000 in
theorem ggX1_cut_X1_ro : GoodIn wsX1_cut wsX1_ro := goodIn_r _ [22, 2, 23, 24, 25, 26] (by decide +kernel) (by decide +kernel)
set_option maxRecDepth 20000 in
theorem gX1_cut_X1_ro : GoodIn wsX1_cut (wsV RX1 27 RX1 yX1_ro wsX1_ro) := goodIn_app (goodIn_of _ (by decide +kernel)) ggX1_cut_X1_ro
theorem dX1_cut_0 : decode cX1_cut 0 = .ok (.aload_n 0, 1) := by decide +kernel
theorem dX1_cut_1 : decode cX1_cut 1 = .ok (.iconst 0, 1) := by decide +kernel
theorem dX1_cut_2 : decode cX1_cut 2 = .ok (.putfield 13, 3) := by decide +kernel
theorem dX1_cut_5 : decode cX1_cut 5 = .ok (.aload_n 0, 1) := by decide +kernel
theorem dX1_cut_6 : decode cX1_cut 6 = .ok (.iload_n 1, 1) := by decide +kernel
theorem dX1_cut_7 : decode cX1_cut 7 = .ok (.invokevirtual 74, 3) := by decide +kernel
theorem dX1_cut_10 : decode cX1_cut 10 = .ok (.ifCond .ne 9, 3) := by decide +kernel
theorem dX1_cut_13 : decode cX1_cut 13 = .ok (.aload_n 0, 1) := by decide +kernel
theorem dX1_cut_14 : decode cX1_cut 14 = .ok (.iconst 1, 1) := by decide +kernel
theorem dX1_cut_15 : decode cX1_cut 15 = .ok (.invokevirtual 58, 3) := by decide +kernel
theorem dX1_cut_18 : decode cX1_cut 18 = .ok (.ireturn, 1) := by decide +kernel
theorem dX1_cut_19 : decode cX1_cut 19 = .ok (.iload_n 2, 1) := by decide +kernel
theorem dX1_cut_20 : decode cX1_cut 20 = .ok (.invokestatic 65, 3) := by decide +kernel
theorem dX1_cut_23 : decode cX1_cut 23 = .ok (.ifCond .ne 9, 3) := by decide +kernel
theorem dX1_cut_26 : decode cX1_cut 26 = .ok (.aload_n 0, 1) := by decide +kernel
theorem dX1_cut_27 : decode cX1_cut 27 = .ok (.iconst 2, 1) := by decide +kernel
theorem dX1_cut_28 : decode cX1_cut 28 = .ok (.invokevirtual 58, 3) := by decide +kernel
theorem dX1_cut_31 : decode cX1_cut 31 = .ok (.ireturn, 1) := by decide +kernel
theorem dX1_cut_32 : decode cX1_cut 32 = .ok (.aload_n 0, 1) := by decide +kernel
theorem dX1_cut_33 : decode cX1_cut 33 = .ok (.iload_n 1, 1) := by decide +kernel
theorem dX1_cut_34 : decode cX1_cut 34 = .ok (.iconst 2, 1) := by decide +kernel
theorem dX1_cut_35 : decode cX1_cut 35 = .ok (.invokevirtual 27, 3) := by decide +kernel
theorem dX1_cut_38 : decode cX1_cut 38 = .ok (.istore_n 3, 1) := by decide +kernel
theorem dX1_cut_39 : decode cX1_cut 39 = .ok (.aload_n 0, 1) := by decide +kernel
theorem dX1_cut_40 : decode cX1_cut 40 = .ok (.getfield 9, 3) := by decide +kernel
theorem dX1_cut_43 : decode cX1_cut 43 = .ok (.iconst 4, 1) := by decide +kernel
theorem dX1_cut_44 : decode cX1_cut 44 = .ok (.iload_n 1, 1) := by decide +kernel
theorem dX1_cut_45 : decode cX1_cut 45 = .ok (.imul, 1) := by decide +kernel
theorem dX1_cut_46 : decode cX1_cut 46 = .ok (.iconst 2, 1) := by decide +kernel
theorem dX1_cut_47 : decode cX1_cut 47 = .ok (.iadd, 1) := by decide +kernel
theorem dX1_cut_48 : decode cX1_cut 48 = .ok (.iload_n 2, 1) := by decide +kernel
theorem dX1_cut_49 : decode cX1_cut 49 = .ok (.iastore, 1) := by decide +kernel
theorem dX1_cut_50 : decode cX1_cut 50 = .ok (.iload_n 3, 1) := by decide +kernel
theorem dX1_cut_51 : decode cX1_cut 51 = .ok (.ireturn, 1) := by decide +kernel
set_option maxRecDepth 20000 in
theorem ggX1_knot_X1_isRope : GoodIn wsX1_knot wsX1_isRope := goodIn_r _ [7, 8, 9, 10, 6, 11, 20, 21, 22, 23] (by decide +kernel) (by decide +kernel)
set_option maxRecDepth 20000 in
theorem gX1_knot_X1_isRope : GoodIn wsX1_knot (wsV RX1 74 RX1 yX1_isRope wsX1_isRope) := goodIn_app (goodIn_of _ (by decide +kernel)) ggX1_knot_X1_isRope
set_option maxRecDepth 20000 in
theorem ggX1_knot_X1_ro : GoodIn wsX1_knot wsX1_ro := goodIn_r _ [15, 2, 20, 21, 22, 23] (by decide +kernel) (by decide +kernel)
set_option maxRecDepth 20000 in
theorem gX1_knot_X1_ro : GoodIn wsX1_knot (wsV RX1 27 RX1 yX1_ro wsX1_ro) := goodIn_app (goodIn_of _ (by decide +kernel)) ggX1_knot_X1_ro
set_option maxRecDepth 20000 in
theorem ggX1_knot_X1_isTied : GoodIn wsX1_knot wsX1_isTied := goodIn_r _ [19, 12, 13, 14, 6, 15, 2, 20, 21, 22, 23] (by decide +kernel) (by decide +kernel)
set_option maxRecDepth 20000 in
theorem gX1_knot_X1_isTied : GoodIn wsX1_knot (wsV RX1 31 RX1 yX1_isTied wsX1_isTied) := goodIn_app (goodIn_of _ (by decide +kernel)) ggX1_knot_X1_isTied
theorem dX1_knot_0 : decode cX1_knot 0 = .ok (.aload_n 0, 1) := by decide +kernel
theorem dX1_knot_1 : decode cX1_knot 1 = .ok (.aload_n 0, 1) := by decide +kernel
theorem dX1_knot_2 : decode cX1_knot 2 = .ok (.iload_n 1, 1) := by decide +kernel
theorem dX1_knot_3 : decode cX1_knot 3 = .ok (.invokevirtual 74, 3) := by decide +kernel
theorem dX1_knot_6 : decode cX1_knot 6 = .ok (.ifCond .eq 7, 3) := by decide +kernel
theorem dX1_knot_9 : decode cX1_knot 9 = .ok (.iconst 0, 1) := by decide +kernel
theorem dX1_knot_10 : decode cX1_knot 10 = .ok (.goto 4, 3) := by decide +kernel
theorem dX1_knot_13 : decode cX1_knot 13 = .ok (.iconst 1, 1) := by decide +kernel
theorem dX1_knot_14 : decode cX1_knot 14 = .ok (.putfield 13, 3) := by decide +kernel
theorem dX1_knot_17 : decode cX1_knot 17 = .ok (.aload_n 0, 1) := by decide +kernel
theorem dX1_knot_18 : decode cX1_knot 18 = .ok (.getfield 13, 3) := by decide +kernel
theorem dX1_knot_21 : decode cX1_knot 21 = .ok (.ifCond .eq 5, 3) := by decide +kernel
theorem dX1_knot_24 : decode cX1_knot 24 = .ok (.iconst 0, 1) := by decide +kernel
theorem dX1_knot_25 : decode cX1_knot 25 = .ok (.ireturn, 1) := by decide +kernel
theorem dX1_knot_26 : decode cX1_knot 26 = .ok (.aload_n 0, 1) := by decide +kernel
theorem dX1_knot_27 : decode cX1_knot 27 = .ok (.getfield 9, 3) := by decide +kernel
theorem dX1_knot_30 : decode cX1_knot 30 = .ok (.iconst 4, 1) := by decide +kernel
theorem dX1_knot_31 : decode cX1_knot 31 = .ok (.iload_n 1, 1) := by decide +kernel
theorem dX1_knot_32 : decode cX1_knot 32 = .ok (.imul, 1) := by decide +kernel
theorem dX1_knot_33 : decode cX1_knot 33 = .ok (.iconst 3, 1) := by decide +kernel
theorem dX1_knot_34 : decode cX1_knot 34 = .ok (.iadd, 1) := by decide +kernel
theorem dX1_knot_35 : decode cX1_knot 35 = .ok (.iconst 1, 1) := by decide +kernel
theorem dX1_knot_36 : decode cX1_knot 36 = .ok (.aload_n 0, 1) := by decide +kernel
theorem dX1_knot_37 : decode cX1_knot 37 = .ok (.iload_n 1, 1) := by decide +kernel
theorem dX1_knot_38 : decode cX1_knot 38 = .ok (.iconst 3, 1) := by decide +kernel
theorem dX1_knot_39 : decode cX1_knot 39 = .ok (.invokevirtual 27, 3) := by decide +kernel
theorem dX1_knot_42 : decode cX1_knot 42 = .ok (.isub, 1) := by decide +kernel
theorem dX1_knot_43 : decode cX1_knot 43 = .ok (.iastore, 1) := by decide +kernel
theorem dX1_knot_44 : decode cX1_knot 44 = .ok (.aload_n 0, 1) := by decide +kernel
theorem dX1_knot_45 : decode cX1_knot 45 = .ok (.iload_n 1, 1) := by decide +kernel
theorem dX1_knot_46 : decode cX1_knot 46 = .ok (.invokevirtual 31, 3) := by decide +kernel
theorem dX1_knot_49 : decode cX1_knot 49 = .ok (.ireturn, 1) := by decide +kernel
set_option maxRecDepth 20000 in
theorem ggX1_tighten_X1_isHeld : GoodIn wsX1_tighten wsX1_isHeld := goodIn_r _ [8, 9, 10, 11, 7, 12, 13, 14, 2, 15, 16, 17, 18, 3, 19, 20, 21, 22, 23, 24, 25, 26, 44, 45, 46, 47] (by decide +kernel) (by decide +kernel)
set_option maxRecDepth 20000 in
theorem gX1_tighten_X1_isHeld : GoodIn wsX1_tighten (wsV RX1 77 RX1 yX1_isHeld wsX1_isHeld) := goodIn_app (goodIn_of _ (by decide +kernel)) ggX1_tighten_X1_isHeld
set_option maxRecDepth 20000 in
theorem ggX1_tighten_X1_isTied : GoodIn wsX1_tighten wsX1_isTied := goodIn_r _ [22, 15, 16, 17, 7, 18, 3, 44, 45, 46, 47] (by decide +kernel) (by decide +kernel)
set_option maxRecDepth 20000 in
theorem gX1_tighten_X1_isTied : GoodIn wsX1_tighten (wsV RX1 31 RX1 yX1_isTied wsX1_isTied) := goodIn_app (goodIn_of _ (by decide +kernel)) ggX1_tighten_X1_isTied
set_option maxRecDepth 20000 in
theorem ggX1_tighten_X1_shortest : GoodIn wsX1_tighten wsX1_shortest := goodIn_r _ [30, 31, 32, 33, 34, 35, 36, 37, 38, 7, 39, 40, 13, 2, 41, 42, 43, 14, 19, 20, 21, 22, 15, 16, 17, 18, 3, 44, 45, 46, 47] (by decide +kernel) (by decide +kernel)
set_option maxRecDepth 20000 in
theorem gX1_tighten_X1_shortest : GoodIn wsX1_tighten (wsV RX1 81 RX1 yX1_shortest wsX1_shortest) := goodIn_app (goodIn_of _ (by decide +kernel)) ggX1_tighten_X1_shortest
set_option maxRecDepth 20000 in
theorem ggX1_tighten_X1_ro : GoodIn wsX1_tighten wsX1_ro := goodIn_r _ [18, 3, 44, 45, 46, 47] (by decide +kernel) (by decide +kernel)
set_option maxRecDepth 20000 in
theorem gX1_tighten_X1_ro : GoodIn wsX1_tighten (wsV RX1 27 RX1 yX1_ro wsX1_ro) := goodIn_app (goodIn_of _ (by decide +kernel)) ggX1_tighten_X1_ro
theorem dX1_tighten_0 : decode cX1_tighten 0 = .ok (.aload_n 0, 1) := by decide +kernel
theorem dX1_tighten_1 : decode cX1_tighten 1 = .ok (.iconst 0, 1) := by decide +kernel
theorem dX1_tighten_2 : decode cX1_tighten 2 = .ok (.putfield 13, 3) := by decide +kernel
theorem dX1_tighten_5 : decode cX1_tighten 5 = .ok (.aload_n 0, 1) := by decide +kernel
theorem dX1_tighten_6 : decode cX1_tighten 6 = .ok (.invokevirtual 77, 3) := by decide +kernel
theorem dX1_tighten_9 : decode cX1_tighten 9 = .ok (.ifCond .ne 5, 3) := by decide +kernel
theorem dX1_tighten_12 : decode cX1_tighten 12 = .ok (.iconst 0, 1) := by decide +kernel
theorem dX1_tighten_13 : decode cX1_tighten 13 = .ok (.ireturn, 1) := by decide +kernel
theorem dX1_tighten_14 : decode cX1_tighten 14 = .ok (.iconst 0, 1) := by decide +kernel
theorem dX1_tighten_15 : decode cX1_tighten 15 = .ok (.istore_n 1, 1) := by decide +kernel
theorem dX1_tighten_16 : decode cX1_tighten 16 = .ok (.iconst 0, 1) := by decide +kernel
theorem dX1_tighten_17 : decode cX1_tighten 17 = .ok (.istore_n 2, 1) := by decide +kernel
theorem dX1_tighten_18 : decode cX1_tighten 18 = .ok (.iload_n 2, 1) := by decide +kernel
theorem dX1_tighten_19 : decode cX1_tighten 19 = .ok (.aload_n 0, 1) := by decide +kernel
theorem dX1_tighten_20 : decode cX1_tighten 20 = .ok (.getfield 24, 3) := by decide +kernel
theorem dX1_tighten_23 : decode cX1_tighten 23 = .ok (.if_icmp .ge 48, 3) := by decide +kernel
theorem dX1_tighten_26 : decode cX1_tighten 26 = .ok (.aload_n 0, 1) := by decide +kernel
theorem dX1_tighten_27 : decode cX1_tighten 27 = .ok (.iload_n 2, 1) := by decide +kernel
theorem dX1_tighten_28 : decode cX1_tighten 28 = .ok (.invokevirtual 31, 3) := by decide +kernel
theorem dX1_tighten_31 : decode cX1_tighten 31 = .ok (.ifCond .ne 6, 3) := by decide +kernel
theorem dX1_tighten_34 : decode cX1_tighten 34 = .ok (.goto 31, 3) := by decide +kernel
theorem dX1_tighten_37 : decode cX1_tighten 37 = .ok (.aload_n 0, 1) := by decide +kernel
theorem dX1_tighten_38 : decode cX1_tighten 38 = .ok (.iload_n 2, 1) := by decide +kernel
theorem dX1_tighten_39 : decode cX1_tighten 39 = .ok (.invokevirtual 81, 3) := by decide +kernel
theorem dX1_tighten_42 : decode cX1_tighten 42 = .ok (.istore_n 3, 1) := by decide +kernel
theorem dX1_tighten_43 : decode cX1_tighten 43 = .ok (.iload_n 1, 1) := by decide +kernel
theorem dX1_tighten_44 : decode cX1_tighten 44 = .ok (.aload_n 0, 1) := by decide +kernel
theorem dX1_tighten_45 : decode cX1_tighten 45 = .ok (.iload_n 2, 1) := by decide +kernel
theorem dX1_tighten_46 : decode cX1_tighten 46 = .ok (.iconst 2, 1) := by decide +kernel
theorem dX1_tighten_47 : decode cX1_tighten 47 = .ok (.invokevirtual 27, 3) := by decide +kernel
theorem dX1_tighten_50 : decode cX1_tighten 50 = .ok (.iload_n 3, 1) := by decide +kernel
theorem dX1_tighten_51 : decode cX1_tighten 51 = .ok (.isub, 1) := by decide +kernel
theorem dX1_tighten_52 : decode cX1_tighten 52 = .ok (.iadd, 1) := by decide +kernel
theorem dX1_tighten_53 : decode cX1_tighten 53 = .ok (.istore_n 1, 1) := by decide +kernel
theorem dX1_tighten_54 : decode cX1_tighten 54 = .ok (.aload_n 0, 1) := by decide +kernel
theorem dX1_tighten_55 : decode cX1_tighten 55 = .ok (.getfield 9, 3) := by decide +kernel
theorem dX1_tighten_58 : decode cX1_tighten 58 = .ok (.iconst 4, 1) := by decide +kernel
theorem dX1_tighten_59 : decode cX1_tighten 59 = .ok (.iload_n 2, 1) := by decide +kernel
theorem dX1_tighten_60 : decode cX1_tighten 60 = .ok (.imul, 1) := by decide +kernel
theorem dX1_tighten_61 : decode cX1_tighten 61 = .ok (.iconst 2, 1) := by decide +kernel
theorem dX1_tighten_62 : decode cX1_tighten 62 = .ok (.iadd, 1) := by decide +kernel
theorem dX1_tighten_63 : decode cX1_tighten 63 = .ok (.iload_n 3, 1) := by decide +kernel
theorem dX1_tighten_64 : decode cX1_tighten 64 = .ok (.iastore, 1) := by decide +kernel
theorem dX1_tighten_65 : decode cX1_tighten 65 = .ok (.iinc 2 1, 3) := by decide +kernel
theorem dX1_tighten_68 : decode cX1_tighten 68 = .ok (.goto (-50), 3) := by decide +kernel
theorem dX1_tighten_71 : decode cX1_tighten 71 = .ok (.iload_n 1, 1) := by decide +kernel
theorem dX1_tighten_72 : decode cX1_tighten 72 = .ok (.ireturn, 1) := by decide +kernel
set_option maxRecDepth 20000 in
theorem ggX1_ropeTold_X1_ro : GoodIn wsX1_ropeTold wsX1_ro := goodIn_r _ [5, 6, 19, 20, 21, 22] (by decide +kernel) (by decide +kernel)
set_option maxRecDepth 20000 in
theorem gX1_ropeTold_X1_ro : GoodIn wsX1_ropeTold (wsV RX1 27 RX1 yX1_ro wsX1_ro) := goodIn_app (goodIn_of _ (by decide +kernel)) ggX1_ropeTold_X1_ro
set_option maxRecDepth 20000 in
theorem ggX1_ropeTold_X1_isTight : GoodIn wsX1_ropeTold wsX1_isTight := goodIn_r _ [10, 11, 12, 13, 4, 14, 1, 2, 3, 5, 6, 15, 16, 17, 18, 19, 20, 21, 22] (by decide +kernel) (by decide +kernel)
set_option maxRecDepth 20000 in
theorem gX1_ropeTold_X1_isTight : GoodIn wsX1_ropeTold (wsV RX1 84 RX1 yX1_isTight wsX1_isTight) := goodIn_app (goodIn_of _ (by decide +kernel)) ggX1_ropeTold_X1_isTight
theorem dX1_ropeTold_0 : decode cX1_ropeTold 0 = .ok (.iload_n 2, 1) := by decide +kernel
theorem dX1_ropeTold_1 : decode cX1_ropeTold 1 = .ok (.iconst 4, 1) := by decide +kernel
theorem dX1_ropeTold_2 : decode cX1_ropeTold 2 = .ok (.if_icmp .ge 12, 3) := by decide +kernel
theorem dX1_ropeTold_5 : decode cX1_ropeTold 5 = .ok (.aload_n 0, 1) := by decide +kernel
theorem dX1_ropeTold_6 : decode cX1_ropeTold 6 = .ok (.iload_n 1, 1) := by decide +kernel
theorem dX1_ropeTold_7 : decode cX1_ropeTold 7 = .ok (.iload_n 2, 1) := by decide +kernel
theorem dX1_ropeTold_8 : decode cX1_ropeTold 8 = .ok (.invokevirtual 27, 3) := by decide +kernel
theorem dX1_ropeTold_11 : decode cX1_ropeTold 11 = .ok (.goto 17, 3) := by decide +kernel
theorem dX1_ropeTold_14 : decode cX1_ropeTold 14 = .ok (.aload_n 0, 1) := by decide +kernel
theorem dX1_ropeTold_15 : decode cX1_ropeTold 15 = .ok (.iload_n 1, 1) := by decide +kernel
theorem dX1_ropeTold_16 : decode cX1_ropeTold 16 = .ok (.aload_n 3, 1) := by decide +kernel
theorem dX1_ropeTold_17 : decode cX1_ropeTold 17 = .ok (.invokevirtual 84, 3) := by decide +kernel
theorem dX1_ropeTold_20 : decode cX1_ropeTold 20 = .ok (.ifCond .eq 7, 3) := by decide +kernel
theorem dX1_ropeTold_23 : decode cX1_ropeTold 23 = .ok (.iconst 1, 1) := by decide +kernel
theorem dX1_ropeTold_24 : decode cX1_ropeTold 24 = .ok (.goto 4, 3) := by decide +kernel
theorem dX1_ropeTold_27 : decode cX1_ropeTold 27 = .ok (.iconst 0, 1) := by decide +kernel
theorem dX1_ropeTold_28 : decode cX1_ropeTold 28 = .ok (.ireturn, 1) := by decide +kernel
set_option maxRecDepth 20000 in
theorem ggX1_told_X1_isRope : GoodIn wsX1_told wsX1_isRope := goodIn_r _ [6, 7, 8, 9, 5, 10, 42, 43, 44, 45] (by decide +kernel) (by decide +kernel)
set_option maxRecDepth 20000 in
theorem gX1_told_X1_isRope : GoodIn wsX1_told (wsV RX1 74 RX1 yX1_isRope wsX1_isRope) := goodIn_app (goodIn_of _ (by decide +kernel)) ggX1_told_X1_isRope
set_option maxRecDepth 20000 in
theorem ggX1_told_X1_isIn : GoodIn wsX1_told wsX1_isIn := goodIn_r _ [10] (by decide +kernel) (by decide +kernel)
set_option maxRecDepth 20000 in
theorem gX1_told_X1_isIn : GoodIn wsX1_told (va_wsS RX1 20 yX1_isIn wsX1_isIn) := goodIn_app (goodIn_of _ (by decide +kernel)) ggX1_told_X1_isIn
set_option maxRecDepth 20000 in
theorem ggX1_told_X1_earliest : GoodIn wsX1_told wsX1_earliest := goodIn_r _ [14, 15, 16, 7, 17, 18, 19, 5, 20, 21, 22, 23, 24, 25, 42, 43, 44, 45] (by decide +kernel) (by decide +kernel)
set_option maxRecDepth 20000 in
theorem gX1_told_X1_earliest : GoodIn wsX1_told (wsV RX1 35 RX1 yX1_earliest wsX1_earliest) := goodIn_app (goodIn_of _ (by decide +kernel)) ggX1_told_X1_earliest
set_option maxRecDepth 20000 in
theorem ggX1_told_X1_ropeTold : GoodIn wsX1_told wsX1_ropeTold := goodIn_r _ [29, 17, 18, 19, 5, 20, 21, 30, 31, 32, 33, 22, 23, 24, 25, 34, 35, 36, 37, 42, 43, 44, 45] (by decide +kernel) (by decide +kernel)
set_option maxRecDepth 20000 in
theorem gX1_told_X1_ropeTold : GoodIn wsX1_told (wsV RX1 88 RX1 yX1_ropeTold wsX1_ropeTold) := goodIn_app (goodIn_of _ (by decide +kernel)) ggX1_told_X1_ropeTold
set_option maxRecDepth 20000 in
theorem ggX1_told_X1_fail : GoodIn wsX1_told wsX1_fail := goodIn_r _ [41, 1, 42, 43, 44, 45] (by decide +kernel) (by decide +kernel)
set_option maxRecDepth 20000 in
theorem gX1_told_X1_fail : GoodIn wsX1_told (wsV RX1 58 RX1 yX1_fail wsX1_fail) := goodIn_app (goodIn_of _ (by decide +kernel)) ggX1_told_X1_fail
theorem dX1_told_0 : decode cX1_told 0 = .ok (.aload_n 0, 1) := by decide +kernel
theorem dX1_told_1 : decode cX1_told 1 = .ok (.iconst 0, 1) := by decide +kernel
theorem dX1_told_2 : decode cX1_told 2 = .ok (.putfield 13, 3) := by decide +kernel
theorem dX1_told_5 : decode cX1_told 5 = .ok (.aload_n 0, 1) := by decide +kernel
theorem dX1_told_6 : decode cX1_told 6 = .ok (.iload_n 1, 1) := by decide +kernel
theorem dX1_told_7 : decode cX1_told 7 = .ok (.invokevirtual 74, 3) := by decide +kernel
theorem dX1_told_10 : decode cX1_told 10 = .ok (.ifCond .eq 25, 3) := by decide +kernel
theorem dX1_told_13 : decode cX1_told 13 = .ok (.iload_n 2, 1) := by decide +kernel
theorem dX1_told_14 : decode cX1_told 14 = .ok (.iconst 0, 1) := by decide +kernel
theorem dX1_told_15 : decode cX1_told 15 = .ok (.iconst 4, 1) := by decide +kernel
theorem dX1_told_16 : decode cX1_told 16 = .ok (.invokestatic 20, 3) := by decide +kernel
theorem dX1_told_19 : decode cX1_told 19 = .ok (.ifCond .eq 16, 3) := by decide +kernel
theorem dX1_told_22 : decode cX1_told 22 = .ok (.aload_n 0, 1) := by decide +kernel
theorem dX1_told_23 : decode cX1_told 23 = .ok (.iload_n 1, 1) := by decide +kernel
theorem dX1_told_24 : decode cX1_told 24 = .ok (.iload_n 2, 1) := by decide +kernel
theorem dX1_told_25 : decode cX1_told 25 = .ok (.aload_n 0, 1) := by decide +kernel
theorem dX1_told_26 : decode cX1_told 26 = .ok (.invokevirtual 35, 3) := by decide +kernel
theorem dX1_told_29 : decode cX1_told 29 = .ok (.invokevirtual 88, 3) := by decide +kernel
theorem dX1_told_32 : decode cX1_told 32 = .ok (.goto 8, 3) := by decide +kernel
theorem dX1_told_35 : decode cX1_told 35 = .ok (.aload_n 0, 1) := by decide +kernel
theorem dX1_told_36 : decode cX1_told 36 = .ok (.iconst 1, 1) := by decide +kernel
theorem dX1_told_37 : decode cX1_told 37 = .ok (.invokevirtual 58, 3) := by decide +kernel
theorem dX1_told_40 : decode cX1_told 40 = .ok (.ireturn, 1) := by decide +kernel
set_option maxRecDepth 20000 in
theorem ggX1_turnTold_X1_isFound : GoodIn wsX1_turnTold wsX1_isFound := goodIn_r _ [6] (by decide +kernel) (by decide +kernel)
set_option maxRecDepth 20000 in
theorem gX1_turnTold_X1_isFound : GoodIn wsX1_turnTold (wsV RX1 39 RX1 yX1_isFound wsX1_isFound) := goodIn_app (goodIn_of _ (by decide +kernel)) ggX1_turnTold_X1_isFound
set_option maxRecDepth 20000 in
theorem ggX1_turnTold_X1_isTied : GoodIn wsX1_turnTold wsX1_isTied := goodIn_r _ [10, 11, 12, 13, 5, 14, 15, 16, 17, 18, 19] (by decide +kernel) (by decide +kernel)
set_option maxRecDepth 20000 in
theorem gX1_turnTold_X1_isTied : GoodIn wsX1_turnTold (wsV RX1 31 RX1 yX1_isTied wsX1_isTied) := goodIn_app (goodIn_of _ (by decide +kernel)) ggX1_turnTold_X1_isTied
set_option maxRecDepth 20000 in
theorem ggX1_turnTold_X1_ro : GoodIn wsX1_turnTold wsX1_ro := goodIn_r _ [14, 15, 16, 17, 18, 19] (by decide +kernel) (by decide +kernel)
set_option maxRecDepth 20000 in
theorem gX1_turnTold_X1_ro : GoodIn wsX1_turnTold (wsV RX1 27 RX1 yX1_ro wsX1_ro) := goodIn_app (goodIn_of _ (by decide +kernel)) ggX1_turnTold_X1_ro
theorem dX1_turnTold_0 : decode cX1_turnTold 0 = .ok (.iload_n 2, 1) := by decide +kernel
theorem dX1_turnTold_1 : decode cX1_turnTold 1 = .ok (.iconst 2, 1) := by decide +kernel
theorem dX1_turnTold_2 : decode cX1_turnTold 2 = .ok (.if_icmp .ne 19, 3) := by decide +kernel
theorem dX1_turnTold_5 : decode cX1_turnTold 5 = .ok (.aload_n 0, 1) := by decide +kernel
theorem dX1_turnTold_6 : decode cX1_turnTold 6 = .ok (.aload_n 3, 1) := by decide +kernel
theorem dX1_turnTold_7 : decode cX1_turnTold 7 = .ok (.invokevirtual 39, 3) := by decide +kernel
theorem dX1_turnTold_10 : decode cX1_turnTold 10 = .ok (.ifCond .eq 9, 3) := by decide +kernel
theorem dX1_turnTold_13 : decode cX1_turnTold 13 = .ok (.aload_n 3, 1) := by decide +kernel
theorem dX1_turnTold_14 : decode cX1_turnTold 14 = .ok (.iload_n 1, 1) := by decide +kernel
theorem dX1_turnTold_15 : decode cX1_turnTold 15 = .ok (.iaload, 1) := by decide +kernel
theorem dX1_turnTold_16 : decode cX1_turnTold 16 = .ok (.goto 4, 3) := by decide +kernel
theorem dX1_turnTold_19 : decode cX1_turnTold 19 = .ok (.iconst (-1), 1) := by decide +kernel
theorem dX1_turnTold_20 : decode cX1_turnTold 20 = .ok (.ireturn, 1) := by decide +kernel
theorem dX1_turnTold_21 : decode cX1_turnTold 21 = .ok (.iconst 0, 1) := by decide +kernel
theorem dX1_turnTold_22 : decode cX1_turnTold 22 = .ok (.istore 4, 2) := by decide +kernel
theorem dX1_turnTold_24 : decode cX1_turnTold 24 = .ok (.iconst 0, 1) := by decide +kernel
theorem dX1_turnTold_25 : decode cX1_turnTold 25 = .ok (.istore 5, 2) := by decide +kernel
theorem dX1_turnTold_27 : decode cX1_turnTold 27 = .ok (.iload 5, 2) := by decide +kernel
theorem dX1_turnTold_29 : decode cX1_turnTold 29 = .ok (.aload_n 0, 1) := by decide +kernel
theorem dX1_turnTold_30 : decode cX1_turnTold 30 = .ok (.getfield 24, 3) := by decide +kernel
theorem dX1_turnTold_33 : decode cX1_turnTold 33 = .ok (.if_icmp .ge 39, 3) := by decide +kernel
theorem dX1_turnTold_36 : decode cX1_turnTold 36 = .ok (.iload 4, 2) := by decide +kernel
theorem dX1_turnTold_38 : decode cX1_turnTold 38 = .ok (.aload_n 0, 1) := by decide +kernel
theorem dX1_turnTold_39 : decode cX1_turnTold 39 = .ok (.iload 5, 2) := by decide +kernel
theorem dX1_turnTold_41 : decode cX1_turnTold 41 = .ok (.invokevirtual 31, 3) := by decide +kernel
theorem dX1_turnTold_44 : decode cX1_turnTold 44 = .ok (.ifCond .eq 18, 3) := by decide +kernel
theorem dX1_turnTold_47 : decode cX1_turnTold 47 = .ok (.aload_n 0, 1) := by decide +kernel
theorem dX1_turnTold_48 : decode cX1_turnTold 48 = .ok (.iload 5, 2) := by decide +kernel
theorem dX1_turnTold_50 : decode cX1_turnTold 50 = .ok (.iload_n 2, 1) := by decide +kernel
theorem dX1_turnTold_51 : decode cX1_turnTold 51 = .ok (.invokevirtual 27, 3) := by decide +kernel
theorem dX1_turnTold_54 : decode cX1_turnTold 54 = .ok (.iload_n 1, 1) := by decide +kernel
theorem dX1_turnTold_55 : decode cX1_turnTold 55 = .ok (.if_icmp .ne 7, 3) := by decide +kernel
theorem dX1_turnTold_58 : decode cX1_turnTold 58 = .ok (.iconst 1, 1) := by decide +kernel
theorem dX1_turnTold_59 : decode cX1_turnTold 59 = .ok (.goto 4, 3) := by decide +kernel
theorem dX1_turnTold_62 : decode cX1_turnTold 62 = .ok (.iconst 0, 1) := by decide +kernel
theorem dX1_turnTold_63 : decode cX1_turnTold 63 = .ok (.iadd, 1) := by decide +kernel
theorem dX1_turnTold_64 : decode cX1_turnTold 64 = .ok (.istore 4, 2) := by decide +kernel
theorem dX1_turnTold_66 : decode cX1_turnTold 66 = .ok (.iinc 5 1, 3) := by decide +kernel
theorem dX1_turnTold_69 : decode cX1_turnTold 69 = .ok (.goto (-42), 3) := by decide +kernel
theorem dX1_turnTold_72 : decode cX1_turnTold 72 = .ok (.iload 4, 2) := by decide +kernel
theorem dX1_turnTold_74 : decode cX1_turnTold 74 = .ok (.ireturn, 1) := by decide +kernel
set_option maxRecDepth 20000 in
theorem ggX1_about_X1_isTurn : GoodIn wsX1_about wsX1_isTurn := goodIn_r _ [6, 7, 8, 9, 5, 10, 38, 39, 40, 41] (by decide +kernel) (by decide +kernel)
set_option maxRecDepth 20000 in
theorem gX1_about_X1_isTurn : GoodIn wsX1_about (wsV RX1 62 RX1 yX1_isTurn wsX1_isTurn) := goodIn_app (goodIn_of _ (by decide +kernel)) ggX1_about_X1_isTurn
set_option maxRecDepth 20000 in
theorem ggX1_about_X1_isIn : GoodIn wsX1_about wsX1_isIn := goodIn_r _ [10] (by decide +kernel) (by decide +kernel)
set_option maxRecDepth 20000 in
theorem gX1_about_X1_isIn : GoodIn wsX1_about (va_wsS RX1 20 yX1_isIn wsX1_isIn) := goodIn_app (goodIn_of _ (by decide +kernel)) ggX1_about_X1_isIn
set_option maxRecDepth 20000 in
theorem ggX1_about_X1_earliest : GoodIn wsX1_about wsX1_earliest := goodIn_r _ [14, 15, 7, 16, 17, 18, 19, 5, 20, 21, 22, 23, 24, 25, 38, 39, 40, 41] (by decide +kernel) (by decide +kernel)
set_option maxRecDepth 20000 in
theorem gX1_about_X1_earliest : GoodIn wsX1_about (wsV RX1 35 RX1 yX1_earliest wsX1_earliest) := goodIn_app (goodIn_of _ (by decide +kernel)) ggX1_about_X1_earliest
set_option maxRecDepth 20000 in
theorem ggX1_about_X1_turnTold : GoodIn wsX1_about wsX1_turnTold := goodIn_r _ [29, 16, 30, 31, 32, 5, 33, 22, 23, 24, 25, 17, 18, 19, 20, 21, 38, 39, 40, 41] (by decide +kernel) (by decide +kernel)
set_option maxRecDepth 20000 in
theorem gX1_about_X1_turnTold : GoodIn wsX1_about (wsV RX1 92 RX1 yX1_turnTold wsX1_turnTold) := goodIn_app (goodIn_of _ (by decide +kernel)) ggX1_about_X1_turnTold
set_option maxRecDepth 20000 in
theorem ggX1_about_X1_fail : GoodIn wsX1_about wsX1_fail := goodIn_r _ [37, 1, 38, 39, 40, 41] (by decide +kernel) (by decide +kernel)
set_option maxRecDepth 20000 in
theorem gX1_about_X1_fail : GoodIn wsX1_about (wsV RX1 58 RX1 yX1_fail wsX1_fail) := goodIn_app (goodIn_of _ (by decide +kernel)) ggX1_about_X1_fail
theorem dX1_about_0 : decode cX1_about 0 = .ok (.aload_n 0, 1) := by decide +kernel
theorem dX1_about_1 : decode cX1_about 1 = .ok (.iconst 0, 1) := by decide +kernel
theorem dX1_about_2 : decode cX1_about 2 = .ok (.putfield 13, 3) := by decide +kernel
theorem dX1_about_5 : decode cX1_about 5 = .ok (.aload_n 0, 1) := by decide +kernel
theorem dX1_about_6 : decode cX1_about 6 = .ok (.iload_n 1, 1) := by decide +kernel
theorem dX1_about_7 : decode cX1_about 7 = .ok (.invokevirtual 62, 3) := by decide +kernel
theorem dX1_about_10 : decode cX1_about 10 = .ok (.ifCond .eq 25, 3) := by decide +kernel
theorem dX1_about_13 : decode cX1_about 13 = .ok (.iload_n 2, 1) := by decide +kernel
theorem dX1_about_14 : decode cX1_about 14 = .ok (.iconst 0, 1) := by decide +kernel
theorem dX1_about_15 : decode cX1_about 15 = .ok (.iconst 2, 1) := by decide +kernel
theorem dX1_about_16 : decode cX1_about 16 = .ok (.invokestatic 20, 3) := by decide +kernel
theorem dX1_about_19 : decode cX1_about 19 = .ok (.ifCond .eq 16, 3) := by decide +kernel
theorem dX1_about_22 : decode cX1_about 22 = .ok (.aload_n 0, 1) := by decide +kernel
theorem dX1_about_23 : decode cX1_about 23 = .ok (.iload_n 1, 1) := by decide +kernel
theorem dX1_about_24 : decode cX1_about 24 = .ok (.iload_n 2, 1) := by decide +kernel
theorem dX1_about_25 : decode cX1_about 25 = .ok (.aload_n 0, 1) := by decide +kernel
theorem dX1_about_26 : decode cX1_about 26 = .ok (.invokevirtual 35, 3) := by decide +kernel
theorem dX1_about_29 : decode cX1_about 29 = .ok (.invokevirtual 92, 3) := by decide +kernel
theorem dX1_about_32 : decode cX1_about 32 = .ok (.goto 8, 3) := by decide +kernel
theorem dX1_about_35 : decode cX1_about 35 = .ok (.aload_n 0, 1) := by decide +kernel
theorem dX1_about_36 : decode cX1_about 36 = .ok (.iconst 1, 1) := by decide +kernel
theorem dX1_about_37 : decode cX1_about 37 = .ok (.invokevirtual 58, 3) := by decide +kernel
theorem dX1_about_40 : decode cX1_about 40 = .ok (.ireturn, 1) := by decide +kernel
set_option maxRecDepth 20000 in
theorem ggX1_counted_X1_ro : GoodIn wsX1_counted wsX1_ro := goodIn_r _ [7, 8, 38, 39, 40, 41] (by decide +kernel) (by decide +kernel)
set_option maxRecDepth 20000 in
theorem gX1_counted_X1_ro : GoodIn wsX1_counted (wsV RX1 27 RX1 yX1_ro wsX1_ro) := goodIn_app (goodIn_of _ (by decide +kernel)) ggX1_counted_X1_ro
set_option maxRecDepth 20000 in
theorem ggX1_counted_X1_isFound : GoodIn wsX1_counted wsX1_isFound := goodIn_r _ [12] (by decide +kernel) (by decide +kernel)
set_option maxRecDepth 20000 in
theorem gX1_counted_X1_isFound : GoodIn wsX1_counted (wsV RX1 39 RX1 yX1_isFound wsX1_isFound) := goodIn_app (goodIn_of _ (by decide +kernel)) ggX1_counted_X1_isFound
set_option maxRecDepth 20000 in
theorem ggX1_counted_X1_last : GoodIn wsX1_counted wsX1_last := goodIn_r _ [16, 1, 17, 18, 19, 20, 38, 39, 40, 41] (by decide +kernel) (by decide +kernel)
set_option maxRecDepth 20000 in
theorem gX1_counted_X1_last : GoodIn wsX1_counted (wsV RX1 95 RX1 yX1_last wsX1_last) := goodIn_app (goodIn_of _ (by decide +kernel)) ggX1_counted_X1_last
set_option maxRecDepth 20000 in
theorem ggX1_counted_X1_isTight : GoodIn wsX1_counted wsX1_isTight := goodIn_r _ [24, 25, 26, 27, 6, 28, 3, 4, 5, 7, 8, 9, 10, 11, 12, 38, 39, 40, 41] (by decide +kernel) (by decide +kernel)
set_option maxRecDepth 20000 in
theorem gX1_counted_X1_isTight : GoodIn wsX1_counted (wsV RX1 84 RX1 yX1_isTight wsX1_isTight) := goodIn_app (goodIn_of _ (by decide +kernel)) ggX1_counted_X1_isTight
set_option maxRecDepth 20000 in
theorem ggX1_counted_X1_ring : GoodIn wsX1_counted wsX1_ring := goodIn_r _ [32, 1, 33, 34, 2, 35, 36, 19, 37, 25, 26, 27, 6, 28, 3, 4, 5, 7, 8, 38, 39, 40, 41] (by decide +kernel) (by decide +kernel)
set_option maxRecDepth 20000 in
theorem gX1_counted_X1_ring : GoodIn wsX1_counted (wsV RX1 99 RX1 yX1_ring wsX1_ring) := goodIn_app (goodIn_of _ (by decide +kernel)) ggX1_counted_X1_ring
theorem dX1_counted_0 : decode cX1_counted 0 = .ok (.iconst 0, 1) := by decide +kernel
theorem dX1_counted_1 : decode cX1_counted 1 = .ok (.istore_n 3, 1) := by decide +kernel
theorem dX1_counted_2 : decode cX1_counted 2 = .ok (.iload_n 1, 1) := by decide +kernel
theorem dX1_counted_3 : decode cX1_counted 3 = .ok (.tableswitch 138 0 5 #[37, 42, 47, 77, 82, 100], 37) := by decide +kernel
theorem dX1_counted_40 : decode cX1_counted 40 = .ok (.aload_n 0, 1) := by decide +kernel
theorem dX1_counted_41 : decode cX1_counted 41 = .ok (.getfield 17, 3) := by decide +kernel
theorem dX1_counted_44 : decode cX1_counted 44 = .ok (.ireturn, 1) := by decide +kernel
theorem dX1_counted_45 : decode cX1_counted 45 = .ok (.aload_n 0, 1) := by decide +kernel
theorem dX1_counted_46 : decode cX1_counted 46 = .ok (.getfield 24, 3) := by decide +kernel
theorem dX1_counted_49 : decode cX1_counted 49 = .ok (.ireturn, 1) := by decide +kernel
theorem dX1_counted_50 : decode cX1_counted 50 = .ok (.iconst 0, 1) := by decide +kernel
theorem dX1_counted_51 : decode cX1_counted 51 = .ok (.istore 4, 2) := by decide +kernel
theorem dX1_counted_53 : decode cX1_counted 53 = .ok (.iload 4, 2) := by decide +kernel
theorem dX1_counted_55 : decode cX1_counted 55 = .ok (.aload_n 0, 1) := by decide +kernel
theorem dX1_counted_56 : decode cX1_counted 56 = .ok (.getfield 24, 3) := by decide +kernel
theorem dX1_counted_59 : decode cX1_counted 59 = .ok (.if_icmp .ge 19, 3) := by decide +kernel
theorem dX1_counted_62 : decode cX1_counted 62 = .ok (.iload_n 3, 1) := by decide +kernel
theorem dX1_counted_63 : decode cX1_counted 63 = .ok (.aload_n 0, 1) := by decide +kernel
theorem dX1_counted_64 : decode cX1_counted 64 = .ok (.iload 4, 2) := by decide +kernel
theorem dX1_counted_66 : decode cX1_counted 66 = .ok (.iconst 3, 1) := by decide +kernel
theorem dX1_counted_67 : decode cX1_counted 67 = .ok (.invokevirtual 27, 3) := by decide +kernel
theorem dX1_counted_70 : decode cX1_counted 70 = .ok (.iadd, 1) := by decide +kernel
theorem dX1_counted_71 : decode cX1_counted 71 = .ok (.istore_n 3, 1) := by decide +kernel
theorem dX1_counted_72 : decode cX1_counted 72 = .ok (.iinc 4 1, 3) := by decide +kernel
theorem dX1_counted_75 : decode cX1_counted 75 = .ok (.goto (-22), 3) := by decide +kernel
theorem dX1_counted_78 : decode cX1_counted 78 = .ok (.iload_n 3, 1) := by decide +kernel
theorem dX1_counted_79 : decode cX1_counted 79 = .ok (.ireturn, 1) := by decide +kernel
theorem dX1_counted_80 : decode cX1_counted 80 = .ok (.aload_n 2, 1) := by decide +kernel
theorem dX1_counted_81 : decode cX1_counted 81 = .ok (.bipush 12, 2) := by decide +kernel
theorem dX1_counted_83 : decode cX1_counted 83 = .ok (.iaload, 1) := by decide +kernel
theorem dX1_counted_84 : decode cX1_counted 84 = .ok (.ireturn, 1) := by decide +kernel
theorem dX1_counted_85 : decode cX1_counted 85 = .ok (.aload_n 0, 1) := by decide +kernel
theorem dX1_counted_86 : decode cX1_counted 86 = .ok (.aload_n 2, 1) := by decide +kernel
theorem dX1_counted_87 : decode cX1_counted 87 = .ok (.invokevirtual 39, 3) := by decide +kernel
theorem dX1_counted_90 : decode cX1_counted 90 = .ok (.ifCond .eq 11, 3) := by decide +kernel
theorem dX1_counted_93 : decode cX1_counted 93 = .ok (.aload_n 0, 1) := by decide +kernel
theorem dX1_counted_94 : decode cX1_counted 94 = .ok (.aload_n 2, 1) := by decide +kernel
theorem dX1_counted_95 : decode cX1_counted 95 = .ok (.invokevirtual 95, 3) := by decide +kernel
theorem dX1_counted_98 : decode cX1_counted 98 = .ok (.goto 4, 3) := by decide +kernel
theorem dX1_counted_101 : decode cX1_counted 101 = .ok (.iconst (-1), 1) := by decide +kernel
theorem dX1_counted_102 : decode cX1_counted 102 = .ok (.ireturn, 1) := by decide +kernel
theorem dX1_counted_103 : decode cX1_counted 103 = .ok (.iconst 0, 1) := by decide +kernel
theorem dX1_counted_104 : decode cX1_counted 104 = .ok (.istore 4, 2) := by decide +kernel
theorem dX1_counted_106 : decode cX1_counted 106 = .ok (.iload 4, 2) := by decide +kernel
theorem dX1_counted_108 : decode cX1_counted 108 = .ok (.aload_n 0, 1) := by decide +kernel
theorem dX1_counted_109 : decode cX1_counted 109 = .ok (.getfield 24, 3) := by decide +kernel
theorem dX1_counted_112 : decode cX1_counted 112 = .ok (.if_icmp .ge 27, 3) := by decide +kernel
theorem dX1_counted_115 : decode cX1_counted 115 = .ok (.iload_n 3, 1) := by decide +kernel
theorem dX1_counted_116 : decode cX1_counted 116 = .ok (.aload_n 0, 1) := by decide +kernel
theorem dX1_counted_117 : decode cX1_counted 117 = .ok (.iload 4, 2) := by decide +kernel
theorem dX1_counted_119 : decode cX1_counted 119 = .ok (.aload_n 2, 1) := by decide +kernel
theorem dX1_counted_120 : decode cX1_counted 120 = .ok (.invokevirtual 84, 3) := by decide +kernel
theorem dX1_counted_123 : decode cX1_counted 123 = .ok (.ifCond .eq 7, 3) := by decide +kernel
theorem dX1_counted_126 : decode cX1_counted 126 = .ok (.iconst 1, 1) := by decide +kernel
theorem dX1_counted_127 : decode cX1_counted 127 = .ok (.goto 4, 3) := by decide +kernel
theorem dX1_counted_130 : decode cX1_counted 130 = .ok (.iconst 0, 1) := by decide +kernel
theorem dX1_counted_131 : decode cX1_counted 131 = .ok (.iadd, 1) := by decide +kernel
theorem dX1_counted_132 : decode cX1_counted 132 = .ok (.istore_n 3, 1) := by decide +kernel
theorem dX1_counted_133 : decode cX1_counted 133 = .ok (.iinc 4 1, 3) := by decide +kernel
theorem dX1_counted_136 : decode cX1_counted 136 = .ok (.goto (-30), 3) := by decide +kernel
theorem dX1_counted_139 : decode cX1_counted 139 = .ok (.iload_n 3, 1) := by decide +kernel
theorem dX1_counted_140 : decode cX1_counted 140 = .ok (.ireturn, 1) := by decide +kernel
theorem dX1_counted_141 : decode cX1_counted 141 = .ok (.aload_n 0, 1) := by decide +kernel
theorem dX1_counted_142 : decode cX1_counted 142 = .ok (.invokevirtual 99, 3) := by decide +kernel
theorem dX1_counted_145 : decode cX1_counted 145 = .ok (.ireturn, 1) := by decide +kernel
set_option maxRecDepth 20000 in
theorem ggX1_count_X1_isIn : GoodIn wsX1_count wsX1_isIn := goodIn_r _ [5] (by decide +kernel) (by decide +kernel)
set_option maxRecDepth 20000 in
theorem gX1_count_X1_isIn : GoodIn wsX1_count (va_wsS RX1 20 yX1_isIn wsX1_isIn) := goodIn_app (goodIn_of _ (by decide +kernel)) ggX1_count_X1_isIn
set_option maxRecDepth 20000 in
theorem ggX1_count_X1_earliest : GoodIn wsX1_count wsX1_earliest := goodIn_r _ [9, 10, 11, 12, 13, 14, 15, 4, 16, 17, 18, 19, 20, 21, 54, 55, 56, 57] (by decide +kernel) (by decide +kernel)
set_option maxRecDepth 20000 in
theorem gX1_count_X1_earliest : GoodIn wsX1_count (wsV RX1 35 RX1 yX1_earliest wsX1_earliest) := goodIn_app (goodIn_of _ (by decide +kernel)) ggX1_count_X1_earliest
set_option maxRecDepth 20000 in
theorem ggX1_count_X1_counted : GoodIn wsX1_count wsX1_counted := goodIn_r _ [25, 11, 12, 13, 14, 15, 4, 16, 17, 26, 27, 28, 29, 30, 31, 32, 33, 34, 35, 36, 37, 38, 39, 40, 41, 18, 19, 20, 21, 42, 43, 44, 45, 10, 46, 47, 48, 49, 54, 55, 56, 57] (by decide +kernel) (by decide +kernel)
set_option maxRecDepth 20000 in
theorem gX1_count_X1_counted : GoodIn wsX1_count (wsV RX1 103 RX1 yX1_counted wsX1_counted) := goodIn_app (goodIn_of _ (by decide +kernel)) ggX1_count_X1_counted
set_option maxRecDepth 20000 in
theorem ggX1_count_X1_fail : GoodIn wsX1_count wsX1_fail := goodIn_r _ [53, 1, 54, 55, 56, 57] (by decide +kernel) (by decide +kernel)
set_option maxRecDepth 20000 in
theorem gX1_count_X1_fail : GoodIn wsX1_count (wsV RX1 58 RX1 yX1_fail wsX1_fail) := goodIn_app (goodIn_of _ (by decide +kernel)) ggX1_count_X1_fail
theorem dX1_count_0 : decode cX1_count 0 = .ok (.aload_n 0, 1) := by decide +kernel
theorem dX1_count_1 : decode cX1_count 1 = .ok (.iconst 0, 1) := by decide +kernel
theorem dX1_count_2 : decode cX1_count 2 = .ok (.putfield 13, 3) := by decide +kernel
theorem dX1_count_5 : decode cX1_count 5 = .ok (.iload_n 1, 1) := by decide +kernel
theorem dX1_count_6 : decode cX1_count 6 = .ok (.iconst 0, 1) := by decide +kernel
theorem dX1_count_7 : decode cX1_count 7 = .ok (.bipush 6, 2) := by decide +kernel
theorem dX1_count_9 : decode cX1_count 9 = .ok (.invokestatic 20, 3) := by decide +kernel
theorem dX1_count_12 : decode cX1_count 12 = .ok (.ifCond .eq 15, 3) := by decide +kernel
theorem dX1_count_15 : decode cX1_count 15 = .ok (.aload_n 0, 1) := by decide +kernel
theorem dX1_count_16 : decode cX1_count 16 = .ok (.iload_n 1, 1) := by decide +kernel
theorem dX1_count_17 : decode cX1_count 17 = .ok (.aload_n 0, 1) := by decide +kernel
theorem dX1_count_18 : decode cX1_count 18 = .ok (.invokevirtual 35, 3) := by decide +kernel
theorem dX1_count_21 : decode cX1_count 21 = .ok (.invokevirtual 103, 3) := by decide +kernel
theorem dX1_count_24 : decode cX1_count 24 = .ok (.goto 8, 3) := by decide +kernel
theorem dX1_count_27 : decode cX1_count 27 = .ok (.aload_n 0, 1) := by decide +kernel
theorem dX1_count_28 : decode cX1_count 28 = .ok (.iconst 1, 1) := by decide +kernel
theorem dX1_count_29 : decode cX1_count 29 = .ok (.invokevirtual 58, 3) := by decide +kernel
theorem dX1_count_32 : decode cX1_count 32 = .ok (.ireturn, 1) := by decide +kernel
set_option maxRecDepth 20000 in
theorem ggX1_holds_X1_isHeld : GoodIn wsX1_holds wsX1_isHeld := goodIn_r _ [6, 7, 8, 9, 5, 10, 11, 12, 13, 14, 15, 16, 17, 18, 19, 20, 21, 22, 23, 24, 25, 26, 27, 28, 29, 30] (by decide +kernel) (by decide +kernel)
set_option maxRecDepth 20000 in
theorem gX1_holds_X1_isHeld : GoodIn wsX1_holds (wsV RX1 77 RX1 yX1_isHeld wsX1_isHeld) := goodIn_app (goodIn_of _ (by decide +kernel)) ggX1_holds_X1_isHeld
theorem dX1_holds_0 : decode cX1_holds 0 = .ok (.aload_n 0, 1) := by decide +kernel
theorem dX1_holds_1 : decode cX1_holds 1 = .ok (.iconst 0, 1) := by decide +kernel
theorem dX1_holds_2 : decode cX1_holds 2 = .ok (.putfield 13, 3) := by decide +kernel
theorem dX1_holds_5 : decode cX1_holds 5 = .ok (.aload_n 0, 1) := by decide +kernel
theorem dX1_holds_6 : decode cX1_holds 6 = .ok (.invokevirtual 77, 3) := by decide +kernel
theorem dX1_holds_9 : decode cX1_holds 9 = .ok (.ireturn, 1) := by decide +kernel
set_option maxRecDepth 20000 in
theorem ggX1_late_X1_isTurn : GoodIn wsX1_late wsX1_isTurn := goodIn_r _ [11, 2, 12, 13, 10, 14, 51, 52, 53, 54] (by decide +kernel) (by decide +kernel)
set_option maxRecDepth 20000 in
theorem gX1_late_X1_isTurn : GoodIn wsX1_late (wsV RX1 62 RX1 yX1_isTurn wsX1_isTurn) := goodIn_app (goodIn_of _ (by decide +kernel)) ggX1_late_X1_isTurn
set_option maxRecDepth 20000 in
theorem ggX1_late_X1_fail : GoodIn wsX1_late wsX1_fail := goodIn_r _ [18, 1, 51, 52, 53, 54] (by decide +kernel) (by decide +kernel)
set_option maxRecDepth 20000 in
theorem gX1_late_X1_fail : GoodIn wsX1_late (wsV RX1 58 RX1 yX1_fail wsX1_fail) := goodIn_app (goodIn_of _ (by decide +kernel)) ggX1_late_X1_fail
set_option maxRecDepth 20000 in
theorem ggX1_late_X1_isIn : GoodIn wsX1_late wsX1_isIn := goodIn_r _ [14] (by decide +kernel) (by decide +kernel)
set_option maxRecDepth 20000 in
theorem gX1_late_X1_isIn : GoodIn wsX1_late (va_wsS RX1 20 yX1_isIn wsX1_isIn) := goodIn_app (goodIn_of _ (by decide +kernel)) ggX1_late_X1_isIn
set_option maxRecDepth 20000 in
theorem ggX1_late_X1_earliest : GoodIn wsX1_late wsX1_earliest := goodIn_r _ [22, 23, 2, 24, 25, 26, 27, 10, 28, 29, 30, 31, 32, 33, 51, 52, 53, 54] (by decide +kernel) (by decide +kernel)
set_option maxRecDepth 20000 in
theorem gX1_late_X1_earliest : GoodIn wsX1_late (wsV RX1 35 RX1 yX1_earliest wsX1_earliest) := goodIn_app (goodIn_of _ (by decide +kernel)) ggX1_late_X1_earliest
set_option maxRecDepth 20000 in
theorem ggX1_late_X1_isFound : GoodIn wsX1_late wsX1_isFound := goodIn_r _ [37] (by decide +kernel) (by decide +kernel)
set_option maxRecDepth 20000 in
theorem gX1_late_X1_isFound : GoodIn wsX1_late (wsV RX1 39 RX1 yX1_isFound wsX1_isFound) := goodIn_app (goodIn_of _ (by decide +kernel)) ggX1_late_X1_isFound
set_option maxRecDepth 20000 in
theorem ggX1_late_X1_last : GoodIn wsX1_late wsX1_last := goodIn_r _ [41, 2, 42, 43, 5, 44, 51, 52, 53, 54] (by decide +kernel) (by decide +kernel)
set_option maxRecDepth 20000 in
theorem gX1_late_X1_last : GoodIn wsX1_late (wsV RX1 95 RX1 yX1_last wsX1_last) := goodIn_app (goodIn_of _ (by decide +kernel)) ggX1_late_X1_last
set_option maxRecDepth 20000 in
theorem ggX1_late_X1_ways : GoodIn wsX1_late wsX1_ways := goodIn_r _ [48, 49, 23, 50, 24, 3, 4, 5, 6, 2, 30, 31, 32, 10, 33, 25, 26, 27, 28, 29, 51, 52, 53, 54] (by decide +kernel) (by decide +kernel)
set_option maxRecDepth 20000 in
theorem gX1_late_X1_ways : GoodIn wsX1_late (wsV RX1 54 RX1 yX1_ways wsX1_ways) := goodIn_app (goodIn_of _ (by decide +kernel)) ggX1_late_X1_ways
theorem dX1_late_0 : decode cX1_late 0 = .ok (.aload_n 0, 1) := by decide +kernel
theorem dX1_late_1 : decode cX1_late 1 = .ok (.iconst 0, 1) := by decide +kernel
theorem dX1_late_2 : decode cX1_late 2 = .ok (.putfield 13, 3) := by decide +kernel
theorem dX1_late_5 : decode cX1_late 5 = .ok (.aload_n 0, 1) := by decide +kernel
theorem dX1_late_6 : decode cX1_late 6 = .ok (.iload_n 1, 1) := by decide +kernel
theorem dX1_late_7 : decode cX1_late 7 = .ok (.invokevirtual 62, 3) := by decide +kernel
theorem dX1_late_10 : decode cX1_late 10 = .ok (.ifCond .ne 9, 3) := by decide +kernel
theorem dX1_late_13 : decode cX1_late 13 = .ok (.aload_n 0, 1) := by decide +kernel
theorem dX1_late_14 : decode cX1_late 14 = .ok (.iconst 1, 1) := by decide +kernel
theorem dX1_late_15 : decode cX1_late 15 = .ok (.invokevirtual 58, 3) := by decide +kernel
theorem dX1_late_18 : decode cX1_late 18 = .ok (.ireturn, 1) := by decide +kernel
theorem dX1_late_19 : decode cX1_late 19 = .ok (.iload_n 2, 1) := by decide +kernel
theorem dX1_late_20 : decode cX1_late 20 = .ok (.iconst 0, 1) := by decide +kernel
theorem dX1_late_21 : decode cX1_late 21 = .ok (.sipush 9999, 3) := by decide +kernel
theorem dX1_late_24 : decode cX1_late 24 = .ok (.invokestatic 20, 3) := by decide +kernel
theorem dX1_late_27 : decode cX1_late 27 = .ok (.ifCond .ne 9, 3) := by decide +kernel
theorem dX1_late_30 : decode cX1_late 30 = .ok (.aload_n 0, 1) := by decide +kernel
theorem dX1_late_31 : decode cX1_late 31 = .ok (.iconst 2, 1) := by decide +kernel
theorem dX1_late_32 : decode cX1_late 32 = .ok (.invokevirtual 58, 3) := by decide +kernel
theorem dX1_late_35 : decode cX1_late 35 = .ok (.ireturn, 1) := by decide +kernel
theorem dX1_late_36 : decode cX1_late 36 = .ok (.aload_n 0, 1) := by decide +kernel
theorem dX1_late_37 : decode cX1_late 37 = .ok (.invokevirtual 35, 3) := by decide +kernel
theorem dX1_late_40 : decode cX1_late 40 = .ok (.astore_n 3, 1) := by decide +kernel
theorem dX1_late_41 : decode cX1_late 41 = .ok (.aload_n 0, 1) := by decide +kernel
theorem dX1_late_42 : decode cX1_late 42 = .ok (.aload_n 3, 1) := by decide +kernel
theorem dX1_late_43 : decode cX1_late 43 = .ok (.invokevirtual 39, 3) := by decide +kernel
theorem dX1_late_46 : decode cX1_late 46 = .ok (.ifCond .eq 12, 3) := by decide +kernel
theorem dX1_late_49 : decode cX1_late 49 = .ok (.aload_n 0, 1) := by decide +kernel
theorem dX1_late_50 : decode cX1_late 50 = .ok (.aload_n 3, 1) := by decide +kernel
theorem dX1_late_51 : decode cX1_late 51 = .ok (.invokevirtual 95, 3) := by decide +kernel
theorem dX1_late_54 : decode cX1_late 54 = .ok (.iload_n 2, 1) := by decide +kernel
theorem dX1_late_55 : decode cX1_late 55 = .ok (.if_icmp .le 9, 3) := by decide +kernel
theorem dX1_late_58 : decode cX1_late 58 = .ok (.aload_n 0, 1) := by decide +kernel
theorem dX1_late_59 : decode cX1_late 59 = .ok (.iconst 3, 1) := by decide +kernel
theorem dX1_late_60 : decode cX1_late 60 = .ok (.invokevirtual 58, 3) := by decide +kernel
theorem dX1_late_63 : decode cX1_late 63 = .ok (.ireturn, 1) := by decide +kernel
theorem dX1_late_64 : decode cX1_late 64 = .ok (.aload_n 0, 1) := by decide +kernel
theorem dX1_late_65 : decode cX1_late 65 = .ok (.invokevirtual 54, 3) := by decide +kernel
theorem dX1_late_68 : decode cX1_late 68 = .ok (.astore 4, 2) := by decide +kernel
theorem dX1_late_70 : decode cX1_late 70 = .ok (.iconst 0, 1) := by decide +kernel
theorem dX1_late_71 : decode cX1_late 71 = .ok (.istore 5, 2) := by decide +kernel
theorem dX1_late_73 : decode cX1_late 73 = .ok (.iconst 0, 1) := by decide +kernel
theorem dX1_late_74 : decode cX1_late 74 = .ok (.istore 6, 2) := by decide +kernel
theorem dX1_late_76 : decode cX1_late 76 = .ok (.iload 6, 2) := by decide +kernel
theorem dX1_late_78 : decode cX1_late 78 = .ok (.aload_n 0, 1) := by decide +kernel
theorem dX1_late_79 : decode cX1_late 79 = .ok (.getfield 17, 3) := by decide +kernel
theorem dX1_late_82 : decode cX1_late 82 = .ok (.if_icmp .ge 23, 3) := by decide +kernel
theorem dX1_late_85 : decode cX1_late 85 = .ok (.iload 5, 2) := by decide +kernel
theorem dX1_late_87 : decode cX1_late 87 = .ok (.aload 4, 2) := by decide +kernel
theorem dX1_late_89 : decode cX1_late 89 = .ok (.iload 6, 2) := by decide +kernel
theorem dX1_late_91 : decode cX1_late 91 = .ok (.aaload, 1) := by decide +kernel
theorem dX1_late_92 : decode cX1_late 92 = .ok (.iload_n 1, 1) := by decide +kernel
theorem dX1_late_93 : decode cX1_late 93 = .ok (.iaload, 1) := by decide +kernel
theorem dX1_late_94 : decode cX1_late 94 = .ok (.invokestatic 51, 3) := by decide +kernel
theorem dX1_late_97 : decode cX1_late 97 = .ok (.istore 5, 2) := by decide +kernel
theorem dX1_late_99 : decode cX1_late 99 = .ok (.iinc 6 1, 3) := by decide +kernel
theorem dX1_late_102 : decode cX1_late 102 = .ok (.goto (-26), 3) := by decide +kernel
theorem dX1_late_105 : decode cX1_late 105 = .ok (.iload_n 2, 1) := by decide +kernel
theorem dX1_late_106 : decode cX1_late 106 = .ok (.iload 5, 2) := by decide +kernel
theorem dX1_late_108 : decode cX1_late 108 = .ok (.iadd, 1) := by decide +kernel
theorem dX1_late_109 : decode cX1_late 109 = .ok (.ireturn, 1) := by decide +kernel
set_option maxRecDepth 20000 in
theorem ggX1_most_X1_isTurn : GoodIn wsX1_most wsX1_isTurn := goodIn_r _ [6, 7, 8, 9, 5, 10, 48, 49, 50, 51] (by decide +kernel) (by decide +kernel)
set_option maxRecDepth 20000 in
theorem gX1_most_X1_isTurn : GoodIn wsX1_most (wsV RX1 62 RX1 yX1_isTurn wsX1_isTurn) := goodIn_app (goodIn_of _ (by decide +kernel)) ggX1_most_X1_isTurn
set_option maxRecDepth 20000 in
theorem ggX1_most_X1_fail : GoodIn wsX1_most wsX1_fail := goodIn_r _ [14, 1, 48, 49, 50, 51] (by decide +kernel) (by decide +kernel)
set_option maxRecDepth 20000 in
theorem gX1_most_X1_fail : GoodIn wsX1_most (wsV RX1 58 RX1 yX1_fail wsX1_fail) := goodIn_app (goodIn_of _ (by decide +kernel)) ggX1_most_X1_fail
set_option maxRecDepth 20000 in
theorem ggX1_most_X1_isHeld : GoodIn wsX1_most wsX1_isHeld := goodIn_r _ [18, 19, 20, 21, 5, 22, 23, 7, 24, 25, 26, 27, 28, 29, 30, 31, 32, 33, 34, 35, 36, 37, 48, 49, 50, 51] (by decide +kernel) (by decide +kernel)
set_option maxRecDepth 20000 in
theorem gX1_most_X1_isHeld : GoodIn wsX1_most (wsV RX1 77 RX1 yX1_isHeld wsX1_isHeld) := goodIn_app (goodIn_of _ (by decide +kernel)) ggX1_most_X1_isHeld
set_option maxRecDepth 20000 in
theorem ggX1_most_X1_ways : GoodIn wsX1_most wsX1_ways := goodIn_r _ [41, 42, 23, 43, 24, 44, 45, 46, 47, 7, 30, 31, 32, 5, 33, 25, 26, 27, 28, 29, 48, 49, 50, 51] (by decide +kernel) (by decide +kernel)
set_option maxRecDepth 20000 in
theorem gX1_most_X1_ways : GoodIn wsX1_most (wsV RX1 54 RX1 yX1_ways wsX1_ways) := goodIn_app (goodIn_of _ (by decide +kernel)) ggX1_most_X1_ways
theorem dX1_most_0 : decode cX1_most 0 = .ok (.aload_n 0, 1) := by decide +kernel
theorem dX1_most_1 : decode cX1_most 1 = .ok (.iconst 0, 1) := by decide +kernel
theorem dX1_most_2 : decode cX1_most 2 = .ok (.putfield 13, 3) := by decide +kernel
theorem dX1_most_5 : decode cX1_most 5 = .ok (.aload_n 0, 1) := by decide +kernel
theorem dX1_most_6 : decode cX1_most 6 = .ok (.iload_n 1, 1) := by decide +kernel
theorem dX1_most_7 : decode cX1_most 7 = .ok (.invokevirtual 62, 3) := by decide +kernel
theorem dX1_most_10 : decode cX1_most 10 = .ok (.ifCond .eq 11, 3) := by decide +kernel
theorem dX1_most_13 : decode cX1_most 13 = .ok (.aload_n 0, 1) := by decide +kernel
theorem dX1_most_14 : decode cX1_most 14 = .ok (.iload_n 2, 1) := by decide +kernel
theorem dX1_most_15 : decode cX1_most 15 = .ok (.invokevirtual 62, 3) := by decide +kernel
theorem dX1_most_18 : decode cX1_most 18 = .ok (.ifCond .ne 9, 3) := by decide +kernel
theorem dX1_most_21 : decode cX1_most 21 = .ok (.aload_n 0, 1) := by decide +kernel
theorem dX1_most_22 : decode cX1_most 22 = .ok (.iconst 1, 1) := by decide +kernel
theorem dX1_most_23 : decode cX1_most 23 = .ok (.invokevirtual 58, 3) := by decide +kernel
theorem dX1_most_26 : decode cX1_most 26 = .ok (.ireturn, 1) := by decide +kernel
theorem dX1_most_27 : decode cX1_most 27 = .ok (.aload_n 0, 1) := by decide +kernel
theorem dX1_most_28 : decode cX1_most 28 = .ok (.invokevirtual 77, 3) := by decide +kernel
theorem dX1_most_31 : decode cX1_most 31 = .ok (.ifCond .eq 14, 3) := by decide +kernel
theorem dX1_most_34 : decode cX1_most 34 = .ok (.aload_n 0, 1) := by decide +kernel
theorem dX1_most_35 : decode cX1_most 35 = .ok (.invokevirtual 54, 3) := by decide +kernel
theorem dX1_most_38 : decode cX1_most 38 = .ok (.iload_n 1, 1) := by decide +kernel
theorem dX1_most_39 : decode cX1_most 39 = .ok (.aaload, 1) := by decide +kernel
theorem dX1_most_40 : decode cX1_most 40 = .ok (.iload_n 2, 1) := by decide +kernel
theorem dX1_most_41 : decode cX1_most 41 = .ok (.iaload, 1) := by decide +kernel
theorem dX1_most_42 : decode cX1_most 42 = .ok (.goto 8, 3) := by decide +kernel
theorem dX1_most_45 : decode cX1_most 45 = .ok (.aload_n 0, 1) := by decide +kernel
theorem dX1_most_46 : decode cX1_most 46 = .ok (.iconst 2, 1) := by decide +kernel
theorem dX1_most_47 : decode cX1_most 47 = .ok (.invokevirtual 58, 3) := by decide +kernel
theorem dX1_most_50 : decode cX1_most 50 = .ok (.ireturn, 1) := by decide +kernel
set_option maxRecDepth 20000 in
theorem ggX1_room_X1_isRope : GoodIn wsX1_room wsX1_isRope := goodIn_r _ [6, 7, 8, 9, 5, 10, 55, 56, 57, 58] (by decide +kernel) (by decide +kernel)
set_option maxRecDepth 20000 in
theorem gX1_room_X1_isRope : GoodIn wsX1_room (wsV RX1 74 RX1 yX1_isRope wsX1_isRope) := goodIn_app (goodIn_of _ (by decide +kernel)) ggX1_room_X1_isRope
set_option maxRecDepth 20000 in
theorem ggX1_room_X1_fail : GoodIn wsX1_room wsX1_fail := goodIn_r _ [14, 1, 55, 56, 57, 58] (by decide +kernel) (by decide +kernel)
set_option maxRecDepth 20000 in
theorem gX1_room_X1_fail : GoodIn wsX1_room (wsV RX1 58 RX1 yX1_fail wsX1_fail) := goodIn_app (goodIn_of _ (by decide +kernel)) ggX1_room_X1_fail
set_option maxRecDepth 20000 in
theorem ggX1_room_X1_isTied : GoodIn wsX1_room wsX1_isTied := goodIn_r _ [18, 19, 20, 21, 5, 22, 23, 55, 56, 57, 58] (by decide +kernel) (by decide +kernel)
set_option maxRecDepth 20000 in
theorem gX1_room_X1_isTied : GoodIn wsX1_room (wsV RX1 31 RX1 yX1_isTied wsX1_isTied) := goodIn_app (goodIn_of _ (by decide +kernel)) ggX1_room_X1_isTied
set_option maxRecDepth 20000 in
theorem ggX1_room_X1_isHeld : GoodIn wsX1_room wsX1_isHeld := goodIn_r _ [27, 28, 29, 30, 5, 31, 32, 33, 7, 19, 20, 21, 22, 23, 15, 16, 17, 18, 34, 35, 36, 37, 55, 56, 57, 58] (by decide +kernel) (by decide +kernel)
set_option maxRecDepth 20000 in
theorem gX1_room_X1_isHeld : GoodIn wsX1_room (wsV RX1 77 RX1 yX1_isHeld wsX1_isHeld) := goodIn_app (goodIn_of _ (by decide +kernel)) ggX1_room_X1_isHeld
set_option maxRecDepth 20000 in
theorem ggX1_room_X1_shortest : GoodIn wsX1_room wsX1_shortest := goodIn_r _ [41, 42, 43, 44, 45, 46, 47, 48, 49, 5, 50, 51, 32, 7, 52, 53, 54, 33, 15, 16, 17, 18, 19, 20, 21, 22, 23, 55, 56, 57, 58] (by decide +kernel) (by decide +kernel)
set_option maxRecDepth 20000 in
theorem gX1_room_X1_shortest : GoodIn wsX1_room (wsV RX1 81 RX1 yX1_shortest wsX1_shortest) := goodIn_app (goodIn_of _ (by decide +kernel)) ggX1_room_X1_shortest
theorem dX1_room_0 : decode cX1_room 0 = .ok (.aload_n 0, 1) := by decide +kernel
theorem dX1_room_1 : decode cX1_room 1 = .ok (.iconst 0, 1) := by decide +kernel
theorem dX1_room_2 : decode cX1_room 2 = .ok (.putfield 13, 3) := by decide +kernel
theorem dX1_room_5 : decode cX1_room 5 = .ok (.aload_n 0, 1) := by decide +kernel
theorem dX1_room_6 : decode cX1_room 6 = .ok (.iload_n 1, 1) := by decide +kernel
theorem dX1_room_7 : decode cX1_room 7 = .ok (.invokevirtual 74, 3) := by decide +kernel
theorem dX1_room_10 : decode cX1_room 10 = .ok (.ifCond .ne 9, 3) := by decide +kernel
theorem dX1_room_13 : decode cX1_room 13 = .ok (.aload_n 0, 1) := by decide +kernel
theorem dX1_room_14 : decode cX1_room 14 = .ok (.iconst 1, 1) := by decide +kernel
theorem dX1_room_15 : decode cX1_room 15 = .ok (.invokevirtual 58, 3) := by decide +kernel
theorem dX1_room_18 : decode cX1_room 18 = .ok (.ireturn, 1) := by decide +kernel
theorem dX1_room_19 : decode cX1_room 19 = .ok (.aload_n 0, 1) := by decide +kernel
theorem dX1_room_20 : decode cX1_room 20 = .ok (.iload_n 1, 1) := by decide +kernel
theorem dX1_room_21 : decode cX1_room 21 = .ok (.invokevirtual 31, 3) := by decide +kernel
theorem dX1_room_24 : decode cX1_room 24 = .ok (.ifCond .eq 18, 3) := by decide +kernel
theorem dX1_room_27 : decode cX1_room 27 = .ok (.aload_n 0, 1) := by decide +kernel
theorem dX1_room_28 : decode cX1_room 28 = .ok (.invokevirtual 77, 3) := by decide +kernel
theorem dX1_room_31 : decode cX1_room 31 = .ok (.ifCond .eq 11, 3) := by decide +kernel
theorem dX1_room_34 : decode cX1_room 34 = .ok (.aload_n 0, 1) := by decide +kernel
theorem dX1_room_35 : decode cX1_room 35 = .ok (.iload_n 1, 1) := by decide +kernel
theorem dX1_room_36 : decode cX1_room 36 = .ok (.invokevirtual 81, 3) := by decide +kernel
theorem dX1_room_39 : decode cX1_room 39 = .ok (.goto 8, 3) := by decide +kernel
theorem dX1_room_42 : decode cX1_room 42 = .ok (.aload_n 0, 1) := by decide +kernel
theorem dX1_room_43 : decode cX1_room 43 = .ok (.iconst 2, 1) := by decide +kernel
theorem dX1_room_44 : decode cX1_room 44 = .ok (.invokevirtual 58, 3) := by decide +kernel
theorem dX1_room_47 : decode cX1_room 47 = .ok (.ireturn, 1) := by decide +kernel
set_option maxRecDepth 20000 in
theorem ggX1_would_X1_isTurn : GoodIn wsX1_would wsX1_isTurn := goodIn_r _ [7, 8, 9, 10, 6, 11, 47, 48, 49, 50] (by decide +kernel) (by decide +kernel)
set_option maxRecDepth 20000 in
theorem gX1_would_X1_isTurn : GoodIn wsX1_would (wsV RX1 62 RX1 yX1_isTurn wsX1_isTurn) := goodIn_app (goodIn_of _ (by decide +kernel)) ggX1_would_X1_isTurn
set_option maxRecDepth 20000 in
theorem ggX1_would_X1_isLong : GoodIn wsX1_would wsX1_isLong := goodIn_r _ [14, 9, 10, 6, 11] (by decide +kernel) (by decide +kernel)
set_option maxRecDepth 20000 in
theorem gX1_would_X1_isLong : GoodIn wsX1_would (va_wsS RX1 65 yX1_isLong wsX1_isLong) := goodIn_app (goodIn_of _ (by decide +kernel)) ggX1_would_X1_isLong
set_option maxRecDepth 20000 in
theorem ggX1_would_X1_isHeld : GoodIn wsX1_would wsX1_isHeld := goodIn_r _ [18, 19, 20, 21, 6, 22, 23, 8, 24, 25, 26, 27, 28, 29, 30, 31, 32, 33, 34, 35, 36, 37, 47, 48, 49, 50] (by decide +kernel) (by decide +kernel)
set_option maxRecDepth 20000 in
theorem gX1_would_X1_isHeld : GoodIn wsX1_would (wsV RX1 77 RX1 yX1_isHeld wsX1_isHeld) := goodIn_app (goodIn_of _ (by decide +kernel)) ggX1_would_X1_isHeld
set_option maxRecDepth 20000 in
theorem ggX1_would_X1_ways : GoodIn wsX1_would wsX1_ways := goodIn_r _ [41, 42, 23, 2, 24, 43, 44, 45, 46, 8, 30, 31, 32, 6, 33, 25, 26, 27, 28, 29, 47, 48, 49, 50] (by decide +kernel) (by decide +kernel)
set_option maxRecDepth 20000 in
theorem gX1_would_X1_ways : GoodIn wsX1_would (wsV RX1 54 RX1 yX1_ways wsX1_ways) := goodIn_app (goodIn_of _ (by decide +kernel)) ggX1_would_X1_ways
theorem dX1_would_0 : decode cX1_would 0 = .ok (.aload_n 0, 1) := by decide +kernel
theorem dX1_would_1 : decode cX1_would 1 = .ok (.aload_n 0, 1) := by decide +kernel
theorem dX1_would_2 : decode cX1_would 2 = .ok (.iload_n 1, 1) := by decide +kernel
theorem dX1_would_3 : decode cX1_would 3 = .ok (.invokevirtual 62, 3) := by decide +kernel
theorem dX1_would_6 : decode cX1_would 6 = .ok (.ifCond .eq 11, 3) := by decide +kernel
theorem dX1_would_9 : decode cX1_would 9 = .ok (.aload_n 0, 1) := by decide +kernel
theorem dX1_would_10 : decode cX1_would 10 = .ok (.iload_n 2, 1) := by decide +kernel
theorem dX1_would_11 : decode cX1_would 11 = .ok (.invokevirtual 62, 3) := by decide +kernel
theorem dX1_would_14 : decode cX1_would 14 = .ok (.ifCond .ne 7, 3) := by decide +kernel
theorem dX1_would_17 : decode cX1_would 17 = .ok (.iconst 1, 1) := by decide +kernel
theorem dX1_would_18 : decode cX1_would 18 = .ok (.goto 20, 3) := by decide +kernel
theorem dX1_would_21 : decode cX1_would 21 = .ok (.iload_n 1, 1) := by decide +kernel
theorem dX1_would_22 : decode cX1_would 22 = .ok (.iload_n 2, 1) := by decide +kernel
theorem dX1_would_23 : decode cX1_would 23 = .ok (.if_icmp .eq 10, 3) := by decide +kernel
theorem dX1_would_26 : decode cX1_would 26 = .ok (.iload_n 3, 1) := by decide +kernel
theorem dX1_would_27 : decode cX1_would 27 = .ok (.invokestatic 65, 3) := by decide +kernel
theorem dX1_would_30 : decode cX1_would 30 = .ok (.ifCond .ne 7, 3) := by decide +kernel
theorem dX1_would_33 : decode cX1_would 33 = .ok (.iconst 2, 1) := by decide +kernel
theorem dX1_would_34 : decode cX1_would 34 = .ok (.goto 4, 3) := by decide +kernel
theorem dX1_would_37 : decode cX1_would 37 = .ok (.iconst 0, 1) := by decide +kernel
theorem dX1_would_38 : decode cX1_would 38 = .ok (.putfield 13, 3) := by decide +kernel
theorem dX1_would_41 : decode cX1_would 41 = .ok (.aload_n 0, 1) := by decide +kernel
theorem dX1_would_42 : decode cX1_would 42 = .ok (.getfield 13, 3) := by decide +kernel
theorem dX1_would_45 : decode cX1_would 45 = .ok (.ifCond .ne 10, 3) := by decide +kernel
theorem dX1_would_48 : decode cX1_would 48 = .ok (.aload_n 0, 1) := by decide +kernel
theorem dX1_would_49 : decode cX1_would 49 = .ok (.invokevirtual 77, 3) := by decide +kernel
theorem dX1_would_52 : decode cX1_would 52 = .ok (.ifCond .ne 5, 3) := by decide +kernel
theorem dX1_would_55 : decode cX1_would 55 = .ok (.iconst 0, 1) := by decide +kernel
theorem dX1_would_56 : decode cX1_would 56 = .ok (.ireturn, 1) := by decide +kernel
theorem dX1_would_57 : decode cX1_would 57 = .ok (.aload_n 0, 1) := by decide +kernel
theorem dX1_would_58 : decode cX1_would 58 = .ok (.invokevirtual 54, 3) := by decide +kernel
theorem dX1_would_61 : decode cX1_would 61 = .ok (.iload_n 2, 1) := by decide +kernel
theorem dX1_would_62 : decode cX1_would 62 = .ok (.aaload, 1) := by decide +kernel
theorem dX1_would_63 : decode cX1_would 63 = .ok (.iload_n 1, 1) := by decide +kernel
theorem dX1_would_64 : decode cX1_would 64 = .ok (.iaload, 1) := by decide +kernel
theorem dX1_would_65 : decode cX1_would 65 = .ok (.istore 4, 2) := by decide +kernel
theorem dX1_would_67 : decode cX1_would 67 = .ok (.iload 4, 2) := by decide +kernel
theorem dX1_would_69 : decode cX1_would 69 = .ok (.ldc 50, 2) := by decide +kernel
theorem dX1_would_71 : decode cX1_would 71 = .ok (.if_icmp .eq 10, 3) := by decide +kernel
theorem dX1_would_74 : decode cX1_would 74 = .ok (.iload 4, 2) := by decide +kernel
theorem dX1_would_76 : decode cX1_would 76 = .ok (.iload_n 3, 1) := by decide +kernel
theorem dX1_would_77 : decode cX1_would 77 = .ok (.iadd, 1) := by decide +kernel
theorem dX1_would_78 : decode cX1_would 78 = .ok (.ifCond .lt 7, 3) := by decide +kernel
theorem dX1_would_81 : decode cX1_would 81 = .ok (.iconst 1, 1) := by decide +kernel
theorem dX1_would_82 : decode cX1_would 82 = .ok (.goto 4, 3) := by decide +kernel
theorem dX1_would_85 : decode cX1_would 85 = .ok (.iconst 0, 1) := by decide +kernel
theorem dX1_would_86 : decode cX1_would 86 = .ok (.ireturn, 1) := by decide +kernel
set_option maxRecDepth 20000 in
theorem ggX1_at_X1_isTurn : GoodIn wsX1_at wsX1_isTurn := goodIn_r _ [7, 2, 8, 9, 6, 10, 34, 35, 36, 37] (by decide +kernel) (by decide +kernel)
set_option maxRecDepth 20000 in
theorem gX1_at_X1_isTurn : GoodIn wsX1_at (wsV RX1 62 RX1 yX1_isTurn wsX1_isTurn) := goodIn_app (goodIn_of _ (by decide +kernel)) ggX1_at_X1_isTurn
set_option maxRecDepth 20000 in
theorem ggX1_at_X1_fail : GoodIn wsX1_at wsX1_fail := goodIn_r _ [14, 1, 34, 35, 36, 37] (by decide +kernel) (by decide +kernel)
set_option maxRecDepth 20000 in
theorem gX1_at_X1_fail : GoodIn wsX1_at (wsV RX1 58 RX1 yX1_fail wsX1_fail) := goodIn_app (goodIn_of _ (by decide +kernel)) ggX1_at_X1_fail
set_option maxRecDepth 20000 in
theorem ggX1_at_X1_earliest : GoodIn wsX1_at wsX1_earliest := goodIn_r _ [18, 19, 2, 20, 21, 22, 23, 6, 24, 25, 26, 27, 28, 29, 34, 35, 36, 37] (by decide +kernel) (by decide +kernel)
set_option maxRecDepth 20000 in
theorem gX1_at_X1_earliest : GoodIn wsX1_at (wsV RX1 35 RX1 yX1_earliest wsX1_earliest) := goodIn_app (goodIn_of _ (by decide +kernel)) ggX1_at_X1_earliest
set_option maxRecDepth 20000 in
theorem ggX1_at_X1_isFound : GoodIn wsX1_at wsX1_isFound := goodIn_r _ [33] (by decide +kernel) (by decide +kernel)
set_option maxRecDepth 20000 in
theorem gX1_at_X1_isFound : GoodIn wsX1_at (wsV RX1 39 RX1 yX1_isFound wsX1_isFound) := goodIn_app (goodIn_of _ (by decide +kernel)) ggX1_at_X1_isFound
theorem dX1_at_0 : decode cX1_at 0 = .ok (.aload_n 0, 1) := by decide +kernel
theorem dX1_at_1 : decode cX1_at 1 = .ok (.iconst 0, 1) := by decide +kernel
theorem dX1_at_2 : decode cX1_at 2 = .ok (.putfield 13, 3) := by decide +kernel
theorem dX1_at_5 : decode cX1_at 5 = .ok (.aload_n 0, 1) := by decide +kernel
theorem dX1_at_6 : decode cX1_at 6 = .ok (.iload_n 1, 1) := by decide +kernel
theorem dX1_at_7 : decode cX1_at 7 = .ok (.invokevirtual 62, 3) := by decide +kernel
theorem dX1_at_10 : decode cX1_at 10 = .ok (.ifCond .ne 9, 3) := by decide +kernel
theorem dX1_at_13 : decode cX1_at 13 = .ok (.aload_n 0, 1) := by decide +kernel
theorem dX1_at_14 : decode cX1_at 14 = .ok (.iconst 1, 1) := by decide +kernel
theorem dX1_at_15 : decode cX1_at 15 = .ok (.invokevirtual 58, 3) := by decide +kernel
theorem dX1_at_18 : decode cX1_at 18 = .ok (.ireturn, 1) := by decide +kernel
theorem dX1_at_19 : decode cX1_at 19 = .ok (.aload_n 0, 1) := by decide +kernel
theorem dX1_at_20 : decode cX1_at 20 = .ok (.invokevirtual 35, 3) := by decide +kernel
theorem dX1_at_23 : decode cX1_at 23 = .ok (.astore_n 2, 1) := by decide +kernel
theorem dX1_at_24 : decode cX1_at 24 = .ok (.aload_n 0, 1) := by decide +kernel
theorem dX1_at_25 : decode cX1_at 25 = .ok (.aload_n 2, 1) := by decide +kernel
theorem dX1_at_26 : decode cX1_at 26 = .ok (.invokevirtual 39, 3) := by decide +kernel
theorem dX1_at_29 : decode cX1_at 29 = .ok (.ifCond .ne 9, 3) := by decide +kernel
theorem dX1_at_32 : decode cX1_at 32 = .ok (.aload_n 0, 1) := by decide +kernel
theorem dX1_at_33 : decode cX1_at 33 = .ok (.iconst 2, 1) := by decide +kernel
theorem dX1_at_34 : decode cX1_at 34 = .ok (.invokevirtual 58, 3) := by decide +kernel
theorem dX1_at_37 : decode cX1_at 37 = .ok (.ireturn, 1) := by decide +kernel
theorem dX1_at_38 : decode cX1_at 38 = .ok (.iconst 0, 1) := by decide +kernel
theorem dX1_at_39 : decode cX1_at 39 = .ok (.istore_n 3, 1) := by decide +kernel
theorem dX1_at_40 : decode cX1_at 40 = .ok (.iload_n 3, 1) := by decide +kernel
theorem dX1_at_41 : decode cX1_at 41 = .ok (.aload_n 0, 1) := by decide +kernel
theorem dX1_at_42 : decode cX1_at 42 = .ok (.getfield 17, 3) := by decide +kernel
theorem dX1_at_45 : decode cX1_at 45 = .ok (.if_icmp .ge 74, 3) := by decide +kernel
theorem dX1_at_48 : decode cX1_at 48 = .ok (.iconst 0, 1) := by decide +kernel
theorem dX1_at_49 : decode cX1_at 49 = .ok (.istore 4, 2) := by decide +kernel
theorem dX1_at_51 : decode cX1_at 51 = .ok (.iconst 0, 1) := by decide +kernel
theorem dX1_at_52 : decode cX1_at 52 = .ok (.istore 5, 2) := by decide +kernel
theorem dX1_at_54 : decode cX1_at 54 = .ok (.iload 5, 2) := by decide +kernel
theorem dX1_at_56 : decode cX1_at 56 = .ok (.aload_n 0, 1) := by decide +kernel
theorem dX1_at_57 : decode cX1_at 57 = .ok (.getfield 17, 3) := by decide +kernel
theorem dX1_at_60 : decode cX1_at 60 = .ok (.if_icmp .ge 45, 3) := by decide +kernel
theorem dX1_at_63 : decode cX1_at 63 = .ok (.iload 4, 2) := by decide +kernel
theorem dX1_at_65 : decode cX1_at 65 = .ok (.aload_n 2, 1) := by decide +kernel
theorem dX1_at_66 : decode cX1_at 66 = .ok (.iload 5, 2) := by decide +kernel
theorem dX1_at_68 : decode cX1_at 68 = .ok (.iaload, 1) := by decide +kernel
theorem dX1_at_69 : decode cX1_at 69 = .ok (.aload_n 2, 1) := by decide +kernel
theorem dX1_at_70 : decode cX1_at 70 = .ok (.iload_n 3, 1) := by decide +kernel
theorem dX1_at_71 : decode cX1_at 71 = .ok (.iaload, 1) := by decide +kernel
theorem dX1_at_72 : decode cX1_at 72 = .ok (.if_icmp .lt 19, 3) := by decide +kernel
theorem dX1_at_75 : decode cX1_at 75 = .ok (.aload_n 2, 1) := by decide +kernel
theorem dX1_at_76 : decode cX1_at 76 = .ok (.iload 5, 2) := by decide +kernel
theorem dX1_at_78 : decode cX1_at 78 = .ok (.iaload, 1) := by decide +kernel
theorem dX1_at_79 : decode cX1_at 79 = .ok (.aload_n 2, 1) := by decide +kernel
theorem dX1_at_80 : decode cX1_at 80 = .ok (.iload_n 3, 1) := by decide +kernel
theorem dX1_at_81 : decode cX1_at 81 = .ok (.iaload, 1) := by decide +kernel
theorem dX1_at_82 : decode cX1_at 82 = .ok (.if_icmp .ne 13, 3) := by decide +kernel
theorem dX1_at_85 : decode cX1_at 85 = .ok (.iload 5, 2) := by decide +kernel
theorem dX1_at_87 : decode cX1_at 87 = .ok (.iload_n 3, 1) := by decide +kernel
theorem dX1_at_88 : decode cX1_at 88 = .ok (.if_icmp .ge 7, 3) := by decide +kernel
theorem dX1_at_91 : decode cX1_at 91 = .ok (.iconst 1, 1) := by decide +kernel
theorem dX1_at_92 : decode cX1_at 92 = .ok (.goto 4, 3) := by decide +kernel
theorem dX1_at_95 : decode cX1_at 95 = .ok (.iconst 0, 1) := by decide +kernel
theorem dX1_at_96 : decode cX1_at 96 = .ok (.iadd, 1) := by decide +kernel
theorem dX1_at_97 : decode cX1_at 97 = .ok (.istore 4, 2) := by decide +kernel
theorem dX1_at_99 : decode cX1_at 99 = .ok (.iinc 5 1, 3) := by decide +kernel
theorem dX1_at_102 : decode cX1_at 102 = .ok (.goto (-48), 3) := by decide +kernel
theorem dX1_at_105 : decode cX1_at 105 = .ok (.iload 4, 2) := by decide +kernel
theorem dX1_at_107 : decode cX1_at 107 = .ok (.iload_n 1, 1) := by decide +kernel
theorem dX1_at_108 : decode cX1_at 108 = .ok (.if_icmp .ne 5, 3) := by decide +kernel
theorem dX1_at_111 : decode cX1_at 111 = .ok (.iload_n 3, 1) := by decide +kernel
theorem dX1_at_112 : decode cX1_at 112 = .ok (.ireturn, 1) := by decide +kernel
theorem dX1_at_113 : decode cX1_at 113 = .ok (.iinc 3 1, 3) := by decide +kernel
theorem dX1_at_116 : decode cX1_at 116 = .ok (.goto (-76), 3) := by decide +kernel
theorem dX1_at_119 : decode cX1_at 119 = .ok (.iconst (-1), 1) := by decide +kernel
theorem dX1_at_120 : decode cX1_at 120 = .ok (.ireturn, 1) := by decide +kernel
set_option maxRecDepth 20000 in
theorem ggX1_advise_X1_earliest : GoodIn wsX1_advise wsX1_earliest := goodIn_r _ [9, 10, 11, 3, 12, 13, 14, 8, 15, 4, 16, 17, 18, 19, 32, 33, 34, 35] (by decide +kernel) (by decide +kernel)
set_option maxRecDepth 20000 in
theorem gX1_advise_X1_earliest : GoodIn wsX1_advise (wsV RX1 35 RX1 yX1_earliest wsX1_earliest) := goodIn_app (goodIn_of _ (by decide +kernel)) ggX1_advise_X1_earliest
set_option maxRecDepth 20000 in
theorem ggX1_advise_X1_isFound : GoodIn wsX1_advise wsX1_isFound := goodIn_r _ [23] (by decide +kernel) (by decide +kernel)
set_option maxRecDepth 20000 in
theorem gX1_advise_X1_isFound : GoodIn wsX1_advise (wsV RX1 39 RX1 yX1_isFound wsX1_isFound) := goodIn_app (goodIn_of _ (by decide +kernel)) ggX1_advise_X1_isFound
set_option maxRecDepth 20000 in
theorem ggX1_advise_X1_last : GoodIn wsX1_advise wsX1_last := goodIn_r _ [27, 11, 28, 29, 30, 31, 32, 33, 34, 35] (by decide +kernel) (by decide +kernel)
set_option maxRecDepth 20000 in
theorem gX1_advise_X1_last : GoodIn wsX1_advise (wsV RX1 95 RX1 yX1_last wsX1_last) := goodIn_app (goodIn_of _ (by decide +kernel)) ggX1_advise_X1_last
set_option maxRecDepth 20000 in
theorem ggX1_advise_X1_isTied : GoodIn wsX1_advise wsX1_isTied := goodIn_r _ [19, 12, 13, 14, 8, 15, 4, 32, 33, 34, 35] (by decide +kernel) (by decide +kernel)
set_option maxRecDepth 20000 in
theorem gX1_advise_X1_isTied : GoodIn wsX1_advise (wsV RX1 31 RX1 yX1_isTied wsX1_isTied) := goodIn_app (goodIn_of _ (by decide +kernel)) ggX1_advise_X1_isTied
theorem dX1_advise_0 : decode cX1_advise 0 = .ok (.aload_n 0, 1) := by decide +kernel
theorem dX1_advise_1 : decode cX1_advise 1 = .ok (.iconst 0, 1) := by decide +kernel
theorem dX1_advise_2 : decode cX1_advise 2 = .ok (.putfield 13, 3) := by decide +kernel
theorem dX1_advise_5 : decode cX1_advise 5 = .ok (.aload_n 0, 1) := by decide +kernel
theorem dX1_advise_6 : decode cX1_advise 6 = .ok (.invokevirtual 35, 3) := by decide +kernel
theorem dX1_advise_9 : decode cX1_advise 9 = .ok (.astore_n 1, 1) := by decide +kernel
theorem dX1_advise_10 : decode cX1_advise 10 = .ok (.aload_n 0, 1) := by decide +kernel
theorem dX1_advise_11 : decode cX1_advise 11 = .ok (.aload_n 1, 1) := by decide +kernel
theorem dX1_advise_12 : decode cX1_advise 12 = .ok (.invokevirtual 39, 3) := by decide +kernel
theorem dX1_advise_15 : decode cX1_advise 15 = .ok (.ifCond .eq 11, 3) := by decide +kernel
theorem dX1_advise_18 : decode cX1_advise 18 = .ok (.aload_n 0, 1) := by decide +kernel
theorem dX1_advise_19 : decode cX1_advise 19 = .ok (.aload_n 1, 1) := by decide +kernel
theorem dX1_advise_20 : decode cX1_advise 20 = .ok (.invokevirtual 95, 3) := by decide +kernel
theorem dX1_advise_23 : decode cX1_advise 23 = .ok (.goto 5, 3) := by decide +kernel
theorem dX1_advise_26 : decode cX1_advise 26 = .ok (.ldc 109, 2) := by decide +kernel
theorem dX1_advise_28 : decode cX1_advise 28 = .ok (.istore_n 2, 1) := by decide +kernel
theorem dX1_advise_29 : decode cX1_advise 29 = .ok (.iconst (-1), 1) := by decide +kernel
theorem dX1_advise_30 : decode cX1_advise 30 = .ok (.istore_n 3, 1) := by decide +kernel
theorem dX1_advise_31 : decode cX1_advise 31 = .ok (.iconst 0, 1) := by decide +kernel
theorem dX1_advise_32 : decode cX1_advise 32 = .ok (.istore 4, 2) := by decide +kernel
theorem dX1_advise_34 : decode cX1_advise 34 = .ok (.iload 4, 2) := by decide +kernel
theorem dX1_advise_36 : decode cX1_advise 36 = .ok (.aload_n 0, 1) := by decide +kernel
theorem dX1_advise_37 : decode cX1_advise 37 = .ok (.getfield 24, 3) := by decide +kernel
theorem dX1_advise_40 : decode cX1_advise 40 = .ok (.if_icmp .ge 83, 3) := by decide +kernel
theorem dX1_advise_43 : decode cX1_advise 43 = .ok (.aload_n 0, 1) := by decide +kernel
theorem dX1_advise_44 : decode cX1_advise 44 = .ok (.iload 4, 2) := by decide +kernel
theorem dX1_advise_46 : decode cX1_advise 46 = .ok (.invokevirtual 31, 3) := by decide +kernel
theorem dX1_advise_49 : decode cX1_advise 49 = .ok (.ifCond .ne 6, 3) := by decide +kernel
theorem dX1_advise_52 : decode cX1_advise 52 = .ok (.goto 65, 3) := by decide +kernel
theorem dX1_advise_55 : decode cX1_advise 55 = .ok (.aload_n 0, 1) := by decide +kernel
theorem dX1_advise_56 : decode cX1_advise 56 = .ok (.getfield 9, 3) := by decide +kernel
theorem dX1_advise_59 : decode cX1_advise 59 = .ok (.iconst 4, 1) := by decide +kernel
theorem dX1_advise_60 : decode cX1_advise 60 = .ok (.iload 4, 2) := by decide +kernel
theorem dX1_advise_62 : decode cX1_advise 62 = .ok (.imul, 1) := by decide +kernel
theorem dX1_advise_63 : decode cX1_advise 63 = .ok (.iconst 3, 1) := by decide +kernel
theorem dX1_advise_64 : decode cX1_advise 64 = .ok (.iadd, 1) := by decide +kernel
theorem dX1_advise_65 : decode cX1_advise 65 = .ok (.iconst 0, 1) := by decide +kernel
theorem dX1_advise_66 : decode cX1_advise 66 = .ok (.iastore, 1) := by decide +kernel
theorem dX1_advise_67 : decode cX1_advise 67 = .ok (.aload_n 0, 1) := by decide +kernel
theorem dX1_advise_68 : decode cX1_advise 68 = .ok (.invokevirtual 35, 3) := by decide +kernel
theorem dX1_advise_71 : decode cX1_advise 71 = .ok (.astore 5, 2) := by decide +kernel
theorem dX1_advise_73 : decode cX1_advise 73 = .ok (.aload_n 0, 1) := by decide +kernel
theorem dX1_advise_74 : decode cX1_advise 74 = .ok (.getfield 9, 3) := by decide +kernel
theorem dX1_advise_77 : decode cX1_advise 77 = .ok (.iconst 4, 1) := by decide +kernel
theorem dX1_advise_78 : decode cX1_advise 78 = .ok (.iload 4, 2) := by decide +kernel
theorem dX1_advise_80 : decode cX1_advise 80 = .ok (.imul, 1) := by decide +kernel
theorem dX1_advise_81 : decode cX1_advise 81 = .ok (.iconst 3, 1) := by decide +kernel
theorem dX1_advise_82 : decode cX1_advise 82 = .ok (.iadd, 1) := by decide +kernel
theorem dX1_advise_83 : decode cX1_advise 83 = .ok (.iconst 1, 1) := by decide +kernel
theorem dX1_advise_84 : decode cX1_advise 84 = .ok (.iastore, 1) := by decide +kernel
theorem dX1_advise_85 : decode cX1_advise 85 = .ok (.aload_n 0, 1) := by decide +kernel
theorem dX1_advise_86 : decode cX1_advise 86 = .ok (.aload 5, 2) := by decide +kernel
theorem dX1_advise_88 : decode cX1_advise 88 = .ok (.invokevirtual 39, 3) := by decide +kernel
theorem dX1_advise_91 : decode cX1_advise 91 = .ok (.ifCond .eq 26, 3) := by decide +kernel
theorem dX1_advise_94 : decode cX1_advise 94 = .ok (.aload_n 0, 1) := by decide +kernel
theorem dX1_advise_95 : decode cX1_advise 95 = .ok (.aload 5, 2) := by decide +kernel
theorem dX1_advise_97 : decode cX1_advise 97 = .ok (.invokevirtual 95, 3) := by decide +kernel
theorem dX1_advise_100 : decode cX1_advise 100 = .ok (.iload_n 2, 1) := by decide +kernel
theorem dX1_advise_101 : decode cX1_advise 101 = .ok (.if_icmp .lt 6, 3) := by decide +kernel
theorem dX1_advise_104 : decode cX1_advise 104 = .ok (.goto 13, 3) := by decide +kernel
theorem dX1_advise_107 : decode cX1_advise 107 = .ok (.iload 4, 2) := by decide +kernel
theorem dX1_advise_109 : decode cX1_advise 109 = .ok (.istore_n 3, 1) := by decide +kernel
theorem dX1_advise_110 : decode cX1_advise 110 = .ok (.aload_n 0, 1) := by decide +kernel
theorem dX1_advise_111 : decode cX1_advise 111 = .ok (.aload 5, 2) := by decide +kernel
theorem dX1_advise_113 : decode cX1_advise 113 = .ok (.invokevirtual 95, 3) := by decide +kernel
theorem dX1_advise_116 : decode cX1_advise 116 = .ok (.istore_n 2, 1) := by decide +kernel
theorem dX1_advise_117 : decode cX1_advise 117 = .ok (.iinc 4 1, 3) := by decide +kernel
theorem dX1_advise_120 : decode cX1_advise 120 = .ok (.goto (-86), 3) := by decide +kernel
theorem dX1_advise_123 : decode cX1_advise 123 = .ok (.iload_n 3, 1) := by decide +kernel
theorem dX1_advise_124 : decode cX1_advise 124 = .ok (.ireturn, 1) := by decide +kernel
set_option maxRecDepth 20000 in
theorem ggX1_mean_X1_earliest : GoodIn wsX1_mean wsX1_earliest := goodIn_r _ [7, 8, 2, 9, 10, 11, 12, 6, 13, 14, 15, 16, 17, 18, 23, 24, 25, 26] (by decide +kernel) (by decide +kernel)
set_option maxRecDepth 20000 in
theorem gX1_mean_X1_earliest : GoodIn wsX1_mean (wsV RX1 35 RX1 yX1_earliest wsX1_earliest) := goodIn_app (goodIn_of _ (by decide +kernel)) ggX1_mean_X1_earliest
set_option maxRecDepth 20000 in
theorem ggX1_mean_X1_isFound : GoodIn wsX1_mean wsX1_isFound := goodIn_r _ [22] (by decide +kernel) (by decide +kernel)
set_option maxRecDepth 20000 in
theorem gX1_mean_X1_isFound : GoodIn wsX1_mean (wsV RX1 39 RX1 yX1_isFound wsX1_isFound) := goodIn_app (goodIn_of _ (by decide +kernel)) ggX1_mean_X1_isFound
theorem dX1_mean_0 : decode cX1_mean 0 = .ok (.aload_n 0, 1) := by decide +kernel
theorem dX1_mean_1 : decode cX1_mean 1 = .ok (.iconst 0, 1) := by decide +kernel
theorem dX1_mean_2 : decode cX1_mean 2 = .ok (.putfield 13, 3) := by decide +kernel
theorem dX1_mean_5 : decode cX1_mean 5 = .ok (.aload_n 0, 1) := by decide +kernel
theorem dX1_mean_6 : decode cX1_mean 6 = .ok (.invokevirtual 35, 3) := by decide +kernel
theorem dX1_mean_9 : decode cX1_mean 9 = .ok (.astore_n 1, 1) := by decide +kernel
theorem dX1_mean_10 : decode cX1_mean 10 = .ok (.iconst 0, 1) := by decide +kernel
theorem dX1_mean_11 : decode cX1_mean 11 = .ok (.istore_n 2, 1) := by decide +kernel
theorem dX1_mean_12 : decode cX1_mean 12 = .ok (.iconst 0, 1) := by decide +kernel
theorem dX1_mean_13 : decode cX1_mean 13 = .ok (.istore_n 3, 1) := by decide +kernel
theorem dX1_mean_14 : decode cX1_mean 14 = .ok (.iload_n 3, 1) := by decide +kernel
theorem dX1_mean_15 : decode cX1_mean 15 = .ok (.aload_n 0, 1) := by decide +kernel
theorem dX1_mean_16 : decode cX1_mean 16 = .ok (.getfield 17, 3) := by decide +kernel
theorem dX1_mean_19 : decode cX1_mean 19 = .ok (.if_icmp .ge 15, 3) := by decide +kernel
theorem dX1_mean_22 : decode cX1_mean 22 = .ok (.iload_n 2, 1) := by decide +kernel
theorem dX1_mean_23 : decode cX1_mean 23 = .ok (.aload_n 1, 1) := by decide +kernel
theorem dX1_mean_24 : decode cX1_mean 24 = .ok (.iload_n 3, 1) := by decide +kernel
theorem dX1_mean_25 : decode cX1_mean 25 = .ok (.iaload, 1) := by decide +kernel
theorem dX1_mean_26 : decode cX1_mean 26 = .ok (.iadd, 1) := by decide +kernel
theorem dX1_mean_27 : decode cX1_mean 27 = .ok (.istore_n 2, 1) := by decide +kernel
theorem dX1_mean_28 : decode cX1_mean 28 = .ok (.iinc 3 1, 3) := by decide +kernel
theorem dX1_mean_31 : decode cX1_mean 31 = .ok (.goto (-17), 3) := by decide +kernel
theorem dX1_mean_34 : decode cX1_mean 34 = .ok (.aload_n 0, 1) := by decide +kernel
theorem dX1_mean_35 : decode cX1_mean 35 = .ok (.getfield 17, 3) := by decide +kernel
theorem dX1_mean_38 : decode cX1_mean 38 = .ok (.ifCond .eq 11, 3) := by decide +kernel
theorem dX1_mean_41 : decode cX1_mean 41 = .ok (.aload_n 0, 1) := by decide +kernel
theorem dX1_mean_42 : decode cX1_mean 42 = .ok (.aload_n 1, 1) := by decide +kernel
theorem dX1_mean_43 : decode cX1_mean 43 = .ok (.invokevirtual 39, 3) := by decide +kernel
theorem dX1_mean_46 : decode cX1_mean 46 = .ok (.ifCond .ne 7, 3) := by decide +kernel
theorem dX1_mean_49 : decode cX1_mean 49 = .ok (.dconst 0, 1) := by decide +kernel
theorem dX1_mean_50 : decode cX1_mean 50 = .ok (.goto 11, 3) := by decide +kernel
theorem dX1_mean_53 : decode cX1_mean 53 = .ok (.iload_n 2, 1) := by decide +kernel
theorem dX1_mean_54 : decode cX1_mean 54 = .ok (.i2d, 1) := by decide +kernel
theorem dX1_mean_55 : decode cX1_mean 55 = .ok (.aload_n 0, 1) := by decide +kernel
theorem dX1_mean_56 : decode cX1_mean 56 = .ok (.getfield 17, 3) := by decide +kernel
theorem dX1_mean_59 : decode cX1_mean 59 = .ok (.i2d, 1) := by decide +kernel
theorem dX1_mean_60 : decode cX1_mean 60 = .ok (.ddiv, 1) := by decide +kernel
theorem dX1_mean_61 : decode cX1_mean 61 = .ok (.dreturn, 1) := by decide +kernel
set_option maxRecDepth 20000 in
theorem ggX1_digest_X1_earliest : GoodIn wsX1_digest wsX1_earliest := goodIn_r _ [10, 11, 4, 5, 12, 13, 14, 9, 15, 16, 17, 18, 19, 20, 62, 63, 64, 65] (by decide +kernel) (by decide +kernel)
set_option maxRecDepth 20000 in
theorem gX1_digest_X1_earliest : GoodIn wsX1_digest (wsV RX1 35 RX1 yX1_earliest wsX1_earliest) := goodIn_app (goodIn_of _ (by decide +kernel)) ggX1_digest_X1_earliest
set_option maxRecDepth 20000 in
theorem ggX1_digest_X1_counted : GoodIn wsX1_digest wsX1_counted := goodIn_r _ [24, 4, 5, 12, 13, 14, 9, 15, 16, 25, 26, 27, 28, 29, 30, 31, 32, 33, 34, 35, 36, 37, 38, 39, 40, 17, 18, 19, 20, 41, 42, 43, 44, 11, 45, 46, 47, 48, 62, 63, 64, 65] (by decide +kernel) (by decide +kernel)
set_option maxRecDepth 20000 in
theorem gX1_digest_X1_counted : GoodIn wsX1_digest (wsV RX1 103 RX1 yX1_counted wsX1_counted) := goodIn_app (goodIn_of _ (by decide +kernel)) ggX1_digest_X1_counted
set_option maxRecDepth 20000 in
theorem ggX1_digest_X1_turnTold : GoodIn wsX1_digest wsX1_turnTold := goodIn_r _ [52, 5, 25, 26, 27, 9, 28, 17, 18, 19, 20, 12, 13, 14, 15, 16, 62, 63, 64, 65] (by decide +kernel) (by decide +kernel)
set_option maxRecDepth 20000 in
theorem gX1_digest_X1_turnTold : GoodIn wsX1_digest (wsV RX1 92 RX1 yX1_turnTold wsX1_turnTold) := goodIn_app (goodIn_of _ (by decide +kernel)) ggX1_digest_X1_turnTold
set_option maxRecDepth 20000 in
theorem ggX1_digest_X1_ropeTold : GoodIn wsX1_digest wsX1_ropeTold := goodIn_r _ [56, 12, 13, 14, 9, 15, 16, 37, 38, 39, 40, 17, 18, 19, 20, 25, 26, 27, 28, 62, 63, 64, 65] (by decide +kernel) (by decide +kernel)
set_option maxRecDepth 20000 in
theorem gX1_digest_X1_ropeTold : GoodIn wsX1_digest (wsV RX1 88 RX1 yX1_ropeTold wsX1_ropeTold) := goodIn_app (goodIn_of _ (by decide +kernel)) ggX1_digest_X1_ropeTold
set_option maxRecDepth 20000 in
theorem ggX1_digest_X1_isFound : GoodIn wsX1_digest wsX1_isFound := goodIn_r _ [28] (by decide +kernel) (by decide +kernel)
set_option maxRecDepth 20000 in
theorem gX1_digest_X1_isFound : GoodIn wsX1_digest (wsV RX1 39 RX1 yX1_isFound wsX1_isFound) := goodIn_app (goodIn_of _ (by decide +kernel)) ggX1_digest_X1_isFound
set_option maxRecDepth 20000 in
theorem ggX1_digest_X1_ways : GoodIn wsX1_digest wsX1_ways := goodIn_r _ [60, 61, 11, 45, 5, 46, 47, 35, 48, 4, 17, 18, 19, 9, 20, 12, 13, 14, 15, 16, 62, 63, 64, 65] (by decide +kernel) (by decide +kernel)
set_option maxRecDepth 20000 in
theorem gX1_digest_X1_ways : GoodIn wsX1_digest (wsV RX1 54 RX1 yX1_ways wsX1_ways) := goodIn_app (goodIn_of _ (by decide +kernel)) ggX1_digest_X1_ways
theorem dX1_digest_0 : decode cX1_digest 0 = .ok (.aload_n 0, 1) := by decide +kernel
theorem dX1_digest_1 : decode cX1_digest 1 = .ok (.iconst 0, 1) := by decide +kernel
theorem dX1_digest_2 : decode cX1_digest 2 = .ok (.putfield 13, 3) := by decide +kernel
theorem dX1_digest_5 : decode cX1_digest 5 = .ok (.aload_n 0, 1) := by decide +kernel
theorem dX1_digest_6 : decode cX1_digest 6 = .ok (.invokevirtual 35, 3) := by decide +kernel
theorem dX1_digest_9 : decode cX1_digest 9 = .ok (.astore_n 1, 1) := by decide +kernel
theorem dX1_digest_10 : decode cX1_digest 10 = .ok (.ldc2_w 110, 3) := by decide +kernel
theorem dX1_digest_13 : decode cX1_digest 13 = .ok (.lstore_n 2, 1) := by decide +kernel
theorem dX1_digest_14 : decode cX1_digest 14 = .ok (.iconst 0, 1) := by decide +kernel
theorem dX1_digest_15 : decode cX1_digest 15 = .ok (.istore 4, 2) := by decide +kernel
theorem dX1_digest_17 : decode cX1_digest 17 = .ok (.iload 4, 2) := by decide +kernel
theorem dX1_digest_19 : decode cX1_digest 19 = .ok (.bipush 7, 2) := by decide +kernel
theorem dX1_digest_21 : decode cX1_digest 21 = .ok (.if_icmp .ge 24, 3) := by decide +kernel
theorem dX1_digest_24 : decode cX1_digest 24 = .ok (.lload_n 2, 1) := by decide +kernel
theorem dX1_digest_25 : decode cX1_digest 25 = .ok (.ldc2_w 112, 3) := by decide +kernel
theorem dX1_digest_28 : decode cX1_digest 28 = .ok (.lmul, 1) := by decide +kernel
theorem dX1_digest_29 : decode cX1_digest 29 = .ok (.aload_n 0, 1) := by decide +kernel
theorem dX1_digest_30 : decode cX1_digest 30 = .ok (.iload 4, 2) := by decide +kernel
theorem dX1_digest_32 : decode cX1_digest 32 = .ok (.aload_n 1, 1) := by decide +kernel
theorem dX1_digest_33 : decode cX1_digest 33 = .ok (.invokevirtual 103, 3) := by decide +kernel
theorem dX1_digest_36 : decode cX1_digest 36 = .ok (.i2l, 1) := by decide +kernel
theorem dX1_digest_37 : decode cX1_digest 37 = .ok (.ladd, 1) := by decide +kernel
theorem dX1_digest_38 : decode cX1_digest 38 = .ok (.lstore_n 2, 1) := by decide +kernel
theorem dX1_digest_39 : decode cX1_digest 39 = .ok (.iinc 4 1, 3) := by decide +kernel
theorem dX1_digest_42 : decode cX1_digest 42 = .ok (.goto (-25), 3) := by decide +kernel
theorem dX1_digest_45 : decode cX1_digest 45 = .ok (.iconst 0, 1) := by decide +kernel
theorem dX1_digest_46 : decode cX1_digest 46 = .ok (.istore 4, 2) := by decide +kernel
theorem dX1_digest_48 : decode cX1_digest 48 = .ok (.iload 4, 2) := by decide +kernel
theorem dX1_digest_50 : decode cX1_digest 50 = .ok (.aload_n 0, 1) := by decide +kernel
theorem dX1_digest_51 : decode cX1_digest 51 = .ok (.getfield 17, 3) := by decide +kernel
theorem dX1_digest_54 : decode cX1_digest 54 = .ok (.if_icmp .ge 41, 3) := by decide +kernel
theorem dX1_digest_57 : decode cX1_digest 57 = .ok (.iconst 0, 1) := by decide +kernel
theorem dX1_digest_58 : decode cX1_digest 58 = .ok (.istore 5, 2) := by decide +kernel
theorem dX1_digest_60 : decode cX1_digest 60 = .ok (.iload 5, 2) := by decide +kernel
theorem dX1_digest_62 : decode cX1_digest 62 = .ok (.iconst 3, 1) := by decide +kernel
theorem dX1_digest_63 : decode cX1_digest 63 = .ok (.if_icmp .ge 26, 3) := by decide +kernel
theorem dX1_digest_66 : decode cX1_digest 66 = .ok (.lload_n 2, 1) := by decide +kernel
theorem dX1_digest_67 : decode cX1_digest 67 = .ok (.ldc2_w 112, 3) := by decide +kernel
theorem dX1_digest_70 : decode cX1_digest 70 = .ok (.lmul, 1) := by decide +kernel
theorem dX1_digest_71 : decode cX1_digest 71 = .ok (.aload_n 0, 1) := by decide +kernel
theorem dX1_digest_72 : decode cX1_digest 72 = .ok (.iload 4, 2) := by decide +kernel
theorem dX1_digest_74 : decode cX1_digest 74 = .ok (.iload 5, 2) := by decide +kernel
theorem dX1_digest_76 : decode cX1_digest 76 = .ok (.aload_n 1, 1) := by decide +kernel
theorem dX1_digest_77 : decode cX1_digest 77 = .ok (.invokevirtual 92, 3) := by decide +kernel
theorem dX1_digest_80 : decode cX1_digest 80 = .ok (.i2l, 1) := by decide +kernel
theorem dX1_digest_81 : decode cX1_digest 81 = .ok (.ladd, 1) := by decide +kernel
theorem dX1_digest_82 : decode cX1_digest 82 = .ok (.lstore_n 2, 1) := by decide +kernel
theorem dX1_digest_83 : decode cX1_digest 83 = .ok (.iinc 5 1, 3) := by decide +kernel
theorem dX1_digest_86 : decode cX1_digest 86 = .ok (.goto (-26), 3) := by decide +kernel
theorem dX1_digest_89 : decode cX1_digest 89 = .ok (.iinc 4 1, 3) := by decide +kernel
theorem dX1_digest_92 : decode cX1_digest 92 = .ok (.goto (-44), 3) := by decide +kernel
theorem dX1_digest_95 : decode cX1_digest 95 = .ok (.iconst 0, 1) := by decide +kernel
theorem dX1_digest_96 : decode cX1_digest 96 = .ok (.istore 4, 2) := by decide +kernel
theorem dX1_digest_98 : decode cX1_digest 98 = .ok (.iload 4, 2) := by decide +kernel
theorem dX1_digest_100 : decode cX1_digest 100 = .ok (.aload_n 0, 1) := by decide +kernel
theorem dX1_digest_101 : decode cX1_digest 101 = .ok (.getfield 24, 3) := by decide +kernel
theorem dX1_digest_104 : decode cX1_digest 104 = .ok (.if_icmp .ge 41, 3) := by decide +kernel
theorem dX1_digest_107 : decode cX1_digest 107 = .ok (.iconst 0, 1) := by decide +kernel
theorem dX1_digest_108 : decode cX1_digest 108 = .ok (.istore 5, 2) := by decide +kernel
theorem dX1_digest_110 : decode cX1_digest 110 = .ok (.iload 5, 2) := by decide +kernel
theorem dX1_digest_112 : decode cX1_digest 112 = .ok (.iconst 5, 1) := by decide +kernel
theorem dX1_digest_113 : decode cX1_digest 113 = .ok (.if_icmp .ge 26, 3) := by decide +kernel
theorem dX1_digest_116 : decode cX1_digest 116 = .ok (.lload_n 2, 1) := by decide +kernel
theorem dX1_digest_117 : decode cX1_digest 117 = .ok (.ldc2_w 112, 3) := by decide +kernel
theorem dX1_digest_120 : decode cX1_digest 120 = .ok (.lmul, 1) := by decide +kernel
theorem dX1_digest_121 : decode cX1_digest 121 = .ok (.aload_n 0, 1) := by decide +kernel
theorem dX1_digest_122 : decode cX1_digest 122 = .ok (.iload 4, 2) := by decide +kernel
theorem dX1_digest_124 : decode cX1_digest 124 = .ok (.iload 5, 2) := by decide +kernel
theorem dX1_digest_126 : decode cX1_digest 126 = .ok (.aload_n 1, 1) := by decide +kernel
theorem dX1_digest_127 : decode cX1_digest 127 = .ok (.invokevirtual 88, 3) := by decide +kernel
theorem dX1_digest_130 : decode cX1_digest 130 = .ok (.i2l, 1) := by decide +kernel
theorem dX1_digest_131 : decode cX1_digest 131 = .ok (.ladd, 1) := by decide +kernel
theorem dX1_digest_132 : decode cX1_digest 132 = .ok (.lstore_n 2, 1) := by decide +kernel
theorem dX1_digest_133 : decode cX1_digest 133 = .ok (.iinc 5 1, 3) := by decide +kernel
theorem dX1_digest_136 : decode cX1_digest 136 = .ok (.goto (-26), 3) := by decide +kernel
theorem dX1_digest_139 : decode cX1_digest 139 = .ok (.iinc 4 1, 3) := by decide +kernel
theorem dX1_digest_142 : decode cX1_digest 142 = .ok (.goto (-44), 3) := by decide +kernel
theorem dX1_digest_145 : decode cX1_digest 145 = .ok (.aload_n 0, 1) := by decide +kernel
theorem dX1_digest_146 : decode cX1_digest 146 = .ok (.aload_n 1, 1) := by decide +kernel
theorem dX1_digest_147 : decode cX1_digest 147 = .ok (.invokevirtual 39, 3) := by decide +kernel
theorem dX1_digest_150 : decode cX1_digest 150 = .ok (.ifCond .ne 5, 3) := by decide +kernel
theorem dX1_digest_153 : decode cX1_digest 153 = .ok (.lload_n 2, 1) := by decide +kernel
theorem dX1_digest_154 : decode cX1_digest 154 = .ok (.lreturn, 1) := by decide +kernel
theorem dX1_digest_155 : decode cX1_digest 155 = .ok (.aload_n 0, 1) := by decide +kernel
theorem dX1_digest_156 : decode cX1_digest 156 = .ok (.invokevirtual 54, 3) := by decide +kernel
theorem dX1_digest_159 : decode cX1_digest 159 = .ok (.astore 4, 2) := by decide +kernel
theorem dX1_digest_161 : decode cX1_digest 161 = .ok (.iconst 0, 1) := by decide +kernel
theorem dX1_digest_162 : decode cX1_digest 162 = .ok (.istore 5, 2) := by decide +kernel
theorem dX1_digest_164 : decode cX1_digest 164 = .ok (.iload 5, 2) := by decide +kernel
theorem dX1_digest_166 : decode cX1_digest 166 = .ok (.aload_n 0, 1) := by decide +kernel
theorem dX1_digest_167 : decode cX1_digest 167 = .ok (.getfield 17, 3) := by decide +kernel
theorem dX1_digest_170 : decode cX1_digest 170 = .ok (.if_icmp .ge 43, 3) := by decide +kernel
theorem dX1_digest_173 : decode cX1_digest 173 = .ok (.iconst 0, 1) := by decide +kernel
theorem dX1_digest_174 : decode cX1_digest 174 = .ok (.istore 6, 2) := by decide +kernel
theorem dX1_digest_176 : decode cX1_digest 176 = .ok (.iload 6, 2) := by decide +kernel
theorem dX1_digest_178 : decode cX1_digest 178 = .ok (.aload_n 0, 1) := by decide +kernel
theorem dX1_digest_179 : decode cX1_digest 179 = .ok (.getfield 17, 3) := by decide +kernel
theorem dX1_digest_182 : decode cX1_digest 182 = .ok (.if_icmp .ge 25, 3) := by decide +kernel
theorem dX1_digest_185 : decode cX1_digest 185 = .ok (.lload_n 2, 1) := by decide +kernel
theorem dX1_digest_186 : decode cX1_digest 186 = .ok (.ldc2_w 112, 3) := by decide +kernel
theorem dX1_digest_189 : decode cX1_digest 189 = .ok (.lmul, 1) := by decide +kernel
theorem dX1_digest_190 : decode cX1_digest 190 = .ok (.aload 4, 2) := by decide +kernel
theorem dX1_digest_192 : decode cX1_digest 192 = .ok (.iload 5, 2) := by decide +kernel
theorem dX1_digest_194 : decode cX1_digest 194 = .ok (.aaload, 1) := by decide +kernel
theorem dX1_digest_195 : decode cX1_digest 195 = .ok (.iload 6, 2) := by decide +kernel
theorem dX1_digest_197 : decode cX1_digest 197 = .ok (.iaload, 1) := by decide +kernel
theorem dX1_digest_198 : decode cX1_digest 198 = .ok (.i2l, 1) := by decide +kernel
theorem dX1_digest_199 : decode cX1_digest 199 = .ok (.ladd, 1) := by decide +kernel
theorem dX1_digest_200 : decode cX1_digest 200 = .ok (.lstore_n 2, 1) := by decide +kernel
theorem dX1_digest_201 : decode cX1_digest 201 = .ok (.iinc 6 1, 3) := by decide +kernel
theorem dX1_digest_204 : decode cX1_digest 204 = .ok (.goto (-28), 3) := by decide +kernel
theorem dX1_digest_207 : decode cX1_digest 207 = .ok (.iinc 5 1, 3) := by decide +kernel
theorem dX1_digest_210 : decode cX1_digest 210 = .ok (.goto (-46), 3) := by decide +kernel
theorem dX1_digest_213 : decode cX1_digest 213 = .ok (.lload_n 2, 1) := by decide +kernel
theorem dX1_digest_214 : decode cX1_digest 214 = .ok (.lreturn, 1) := by decide +kernel
end
section
theorem dJ9_max_7cf53_0 : decode cJ9_max_7cf53 0 = .ok (.iload_n 0, 1) := by decide +kernel
theorem dJ9_max_7cf53_1 : decode cJ9_max_7cf53 1 = .ok (.iload_n 1, 1) := by decide +kernel
theorem dJ9_max_7cf53_2 : decode cJ9_max_7cf53 2 = .ok (.if_icmp .lt 7, 3) := by decide +kernel
theorem dJ9_max_7cf53_5 : decode cJ9_max_7cf53 5 = .ok (.iload_n 0, 1) := by decide +kernel
theorem dJ9_max_7cf53_6 : decode cJ9_max_7cf53 6 = .ok (.goto 4, 3) := by decide +kernel
theorem dJ9_max_7cf53_9 : decode cJ9_max_7cf53 9 = .ok (.iload_n 1, 1) := by decide +kernel
theorem dJ9_max_7cf53_10 : decode cJ9_max_7cf53 10 = .ok (.ireturn, 1) := by decide +kernel
theorem dJ9_min_7cf53_0 : decode cJ9_min_7cf53 0 = .ok (.iload_n 0, 1) := by decide +kernel
theorem dJ9_min_7cf53_1 : decode cJ9_min_7cf53 1 = .ok (.iload_n 1, 1) := by decide +kernel
theorem dJ9_min_7cf53_2 : decode cJ9_min_7cf53 2 = .ok (.if_icmp .gt 7, 3) := by decide +kernel
theorem dJ9_min_7cf53_5 : decode cJ9_min_7cf53 5 = .ok (.iload_n 0, 1) := by decide +kernel
theorem dJ9_min_7cf53_6 : decode cJ9_min_7cf53 6 = .ok (.goto 4, 3) := by decide +kernel
theorem dJ9_min_7cf53_9 : decode cJ9_min_7cf53 9 = .ok (.iload_n 1, 1) := by decide +kernel
theorem dJ9_min_7cf53_10 : decode cJ9_min_7cf53 10 = .ok (.ireturn, 1) := by decide +kernel
set_option maxRecDepth 20000 in
theorem ggL_turn_X0_turn : GoodIn wsL_turn wsX0_turn := goodIn_ca (goodIn_r _ [6, 7, 8, 9, 10, 11, 12, 5, 13, 14, 15, 16, 17, 18, 19, 20, 21, 22, 23, 24, 25, 26, 27, 28, 29, 30, 31, 32, 33, 34, 35, 36, 37, 38, 39, 40, 41, 42, 43, 44, 45, 46, 47, 48, 49, 50, 51, 52, 53, 54, 55, 56, 57, 58, 59, 60, 61, 62, 63, 64, 65, 66, 67, 68, 69, 70] (by decide +kernel) (by decide +kernel)) (goodIn_sub (fun _ h => List.mem_cons_of_mem _ (List.mem_append_right _ h)) (by decide +kernel))
set_option maxRecDepth 20000 in
theorem gL_turn_X0_turn : GoodIn wsL_turn (wsV RL 7 RX0 yX0_turn wsX0_turn) := goodIn_app (goodIn_of _ (by decide +kernel)) ggL_turn_X0_turn
theorem dL_turn_0 : decode cL_turn 0 = .ok (.aload_n 1, 1) := by decide +kernel
theorem dL_turn_1 : decode cL_turn 1 = .ok (.iconst 0, 1) := by decide +kernel
theorem dL_turn_2 : decode cL_turn 2 = .ok (.aload_n 0, 1) := by decide +kernel
theorem dL_turn_3 : decode cL_turn 3 = .ok (.invokevirtual 7, 3) := by decide +kernel
theorem dL_turn_6 : decode cL_turn 6 = .ok (.i2l, 1) := by decide +kernel
theorem dL_turn_7 : decode cL_turn 7 = .ok (.lastore, 1) := by decide +kernel
theorem dL_turn_8 : decode cL_turn 8 = .ok (.goto 6, 3) := by decide +kernel
theorem dL_turn_11 : decode cL_turn 11 = .ok (.astore_n 2, 1) := by decide +kernel
theorem dL_turn_12 : decode cL_turn 12 = .ok (.iconst 1, 1) := by decide +kernel
theorem dL_turn_13 : decode cL_turn 13 = .ok (.ireturn, 1) := by decide +kernel
theorem dL_turn_14 : decode cL_turn 14 = .ok (.iconst 0, 1) := by decide +kernel
theorem dL_turn_15 : decode cL_turn 15 = .ok (.ireturn, 1) := by decide +kernel
set_option maxRecDepth 20000 in
theorem ggL_tie_X0_tie : GoodIn wsL_tie wsX0_tie := goodIn_ca (goodIn_ca (goodIn_ca (goodIn_r _ [8, 9, 10, 11, 12, 13, 14, 15, 16, 17, 18, 7, 19, 20, 21, 22, 23, 24, 25, 26, 27, 28, 29, 30, 31, 32, 33, 34, 35, 36, 37, 38, 39, 40, 41, 42, 43, 44, 45, 46, 47, 48, 49, 50, 51, 52, 53, 54, 55, 56, 57, 58, 59, 60, 61, 62, 63, 64, 65, 66, 67, 68, 69, 70, 71, 72, 73, 74, 75, 76, 77, 78, 79, 80, 81, 82, 83, 84, 85, 86] (by decide +kernel) (by decide +kernel)) (goodIn_sub (fun _ h => List.mem_cons_of_mem _ (List.mem_append_left _ (List.mem_append_left _ (List.mem_append_right _ h)))) (by decide +kernel))) (goodIn_sub (fun _ h => List.mem_cons_of_mem _ (List.mem_append_left _ (List.mem_append_right _ h))) (by decide +kernel))) (goodIn_sub (fun _ h => List.mem_cons_of_mem _ (List.mem_append_right _ h)) (by decide +kernel))
set_option maxRecDepth 20000 in
theorem gL_tie_X0_tie : GoodIn wsL_tie (wsV RL 15 RX0 yX0_tie wsX0_tie) := goodIn_app (goodIn_of _ (by decide +kernel)) ggL_tie_X0_tie
theorem dL_tie_0 : decode cL_tie 0 = .ok (.aload 4, 2) := by decide +kernel
theorem dL_tie_2 : decode cL_tie 2 = .ok (.iconst 0, 1) := by decide +kernel
theorem dL_tie_3 : decode cL_tie 3 = .ok (.aload_n 0, 1) := by decide +kernel
theorem dL_tie_4 : decode cL_tie 4 = .ok (.iload_n 1, 1) := by decide +kernel
theorem dL_tie_5 : decode cL_tie 5 = .ok (.iload_n 2, 1) := by decide +kernel
theorem dL_tie_6 : decode cL_tie 6 = .ok (.iload_n 3, 1) := by decide +kernel
theorem dL_tie_7 : decode cL_tie 7 = .ok (.invokevirtual 15, 3) := by decide +kernel
theorem dL_tie_10 : decode cL_tie 10 = .ok (.i2l, 1) := by decide +kernel
theorem dL_tie_11 : decode cL_tie 11 = .ok (.lastore, 1) := by decide +kernel
theorem dL_tie_12 : decode cL_tie 12 = .ok (.goto 15, 3) := by decide +kernel
theorem dL_tie_15 : decode cL_tie 15 = .ok (.astore 5, 2) := by decide +kernel
theorem dL_tie_17 : decode cL_tie 17 = .ok (.iconst 1, 1) := by decide +kernel
theorem dL_tie_18 : decode cL_tie 18 = .ok (.ireturn, 1) := by decide +kernel
theorem dL_tie_19 : decode cL_tie 19 = .ok (.astore 5, 2) := by decide +kernel
theorem dL_tie_21 : decode cL_tie 21 = .ok (.iconst 2, 1) := by decide +kernel
theorem dL_tie_22 : decode cL_tie 22 = .ok (.ireturn, 1) := by decide +kernel
theorem dL_tie_23 : decode cL_tie 23 = .ok (.astore 5, 2) := by decide +kernel
theorem dL_tie_25 : decode cL_tie 25 = .ok (.iconst 3, 1) := by decide +kernel
theorem dL_tie_26 : decode cL_tie 26 = .ok (.ireturn, 1) := by decide +kernel
theorem dL_tie_27 : decode cL_tie 27 = .ok (.iconst 0, 1) := by decide +kernel
theorem dL_tie_28 : decode cL_tie 28 = .ok (.ireturn, 1) := by decide +kernel
set_option maxRecDepth 20000 in
theorem ggL_cut_X0_cut : GoodIn wsL_cut wsX0_cut := goodIn_ca (goodIn_ca (goodIn_r _ [7, 8, 9, 10, 11, 6, 12, 13, 14, 15, 16, 17, 18, 19, 20, 21, 22, 23, 24, 25, 26, 27, 28, 29, 30, 31, 32, 33, 34, 35, 36, 37, 38, 39, 40, 41, 42, 43, 44, 45, 46, 47, 48, 49, 50, 51, 52, 53, 54, 55, 56, 57, 58, 59, 60, 61, 62, 63, 64, 65, 66, 67, 68, 69, 70, 71, 72, 73, 74, 75, 76, 77, 78, 79, 80] (by decide +kernel) (by decide +kernel)) (goodIn_sub (fun _ h => List.mem_cons_of_mem _ (List.mem_append_left _ (List.mem_append_right _ h))) (by decide +kernel))) (goodIn_sub (fun _ h => List.mem_cons_of_mem _ (List.mem_append_right _ h)) (by decide +kernel))
set_option maxRecDepth 20000 in
theorem gL_cut_X0_cut : GoodIn wsL_cut (wsV RL 23 RX0 yX0_cut wsX0_cut) := goodIn_app (goodIn_of _ (by decide +kernel)) ggL_cut_X0_cut
theorem dL_cut_0 : decode cL_cut 0 = .ok (.aload_n 3, 1) := by decide +kernel
theorem dL_cut_1 : decode cL_cut 1 = .ok (.iconst 0, 1) := by decide +kernel
theorem dL_cut_2 : decode cL_cut 2 = .ok (.aload_n 0, 1) := by decide +kernel
theorem dL_cut_3 : decode cL_cut 3 = .ok (.iload_n 1, 1) := by decide +kernel
theorem dL_cut_4 : decode cL_cut 4 = .ok (.iload_n 2, 1) := by decide +kernel
theorem dL_cut_5 : decode cL_cut 5 = .ok (.invokevirtual 23, 3) := by decide +kernel
theorem dL_cut_8 : decode cL_cut 8 = .ok (.i2l, 1) := by decide +kernel
theorem dL_cut_9 : decode cL_cut 9 = .ok (.lastore, 1) := by decide +kernel
theorem dL_cut_10 : decode cL_cut 10 = .ok (.goto 11, 3) := by decide +kernel
theorem dL_cut_13 : decode cL_cut 13 = .ok (.astore 4, 2) := by decide +kernel
theorem dL_cut_15 : decode cL_cut 15 = .ok (.iconst 1, 1) := by decide +kernel
theorem dL_cut_16 : decode cL_cut 16 = .ok (.ireturn, 1) := by decide +kernel
theorem dL_cut_17 : decode cL_cut 17 = .ok (.astore 4, 2) := by decide +kernel
theorem dL_cut_19 : decode cL_cut 19 = .ok (.iconst 2, 1) := by decide +kernel
theorem dL_cut_20 : decode cL_cut 20 = .ok (.ireturn, 1) := by decide +kernel
theorem dL_cut_21 : decode cL_cut 21 = .ok (.iconst 0, 1) := by decide +kernel
theorem dL_cut_22 : decode cL_cut 22 = .ok (.ireturn, 1) := by decide +kernel
set_option maxRecDepth 20000 in
theorem ggL_knot_X0_knot : GoodIn wsL_knot wsX0_knot := goodIn_ca (goodIn_r _ [6, 7, 8, 9, 10, 5, 11, 12, 13, 14, 15, 16, 17, 18, 19, 20, 21, 22, 23, 24, 25, 26, 27, 28, 29, 30, 31, 32, 33, 34, 35, 36, 37, 38, 39, 40, 41, 42, 43, 44, 45, 46, 47, 48, 49, 50, 51, 52, 53, 54, 55, 56, 57, 58, 59, 60, 61, 62, 63, 64, 65, 66, 67, 68, 69, 70, 71, 72, 73, 74] (by decide +kernel) (by decide +kernel)) (goodIn_sub (fun _ h => List.mem_cons_of_mem _ (List.mem_append_right _ h)) (by decide +kernel))
set_option maxRecDepth 20000 in
theorem gL_knot_X0_knot : GoodIn wsL_knot (wsV RL 27 RX0 yX0_knot wsX0_knot) := goodIn_app (goodIn_of _ (by decide +kernel)) ggL_knot_X0_knot
theorem dL_knot_0 : decode cL_knot 0 = .ok (.aload_n 2, 1) := by decide +kernel
theorem dL_knot_1 : decode cL_knot 1 = .ok (.iconst 0, 1) := by decide +kernel
theorem dL_knot_2 : decode cL_knot 2 = .ok (.aload_n 0, 1) := by decide +kernel
theorem dL_knot_3 : decode cL_knot 3 = .ok (.iload_n 1, 1) := by decide +kernel
theorem dL_knot_4 : decode cL_knot 4 = .ok (.invokevirtual 27, 3) := by decide +kernel
theorem dL_knot_7 : decode cL_knot 7 = .ok (.ifCond .eq 7, 3) := by decide +kernel
theorem dL_knot_10 : decode cL_knot 10 = .ok (.lconst 1, 1) := by decide +kernel
theorem dL_knot_11 : decode cL_knot 11 = .ok (.goto 4, 3) := by decide +kernel
theorem dL_knot_14 : decode cL_knot 14 = .ok (.lconst 0, 1) := by decide +kernel
theorem dL_knot_15 : decode cL_knot 15 = .ok (.lastore, 1) := by decide +kernel
theorem dL_knot_16 : decode cL_knot 16 = .ok (.goto 6, 3) := by decide +kernel
theorem dL_knot_19 : decode cL_knot 19 = .ok (.astore_n 3, 1) := by decide +kernel
theorem dL_knot_20 : decode cL_knot 20 = .ok (.iconst 1, 1) := by decide +kernel
theorem dL_knot_21 : decode cL_knot 21 = .ok (.ireturn, 1) := by decide +kernel
theorem dL_knot_22 : decode cL_knot 22 = .ok (.iconst 0, 1) := by decide +kernel
theorem dL_knot_23 : decode cL_knot 23 = .ok (.ireturn, 1) := by decide +kernel
set_option maxRecDepth 20000 in
theorem ggL_told_X0_told : GoodIn wsL_told wsX0_told := goodIn_ca (goodIn_r _ [6, 7, 8, 9, 10, 11, 12, 13, 5, 14, 15, 16, 17, 18, 19, 20, 21, 22, 23, 24, 25, 26, 27, 28, 29, 30, 31, 32, 33, 34, 35, 36, 37, 38, 39, 40, 41, 42] (by decide +kernel) (by decide +kernel)) (goodIn_sub (fun _ h => List.mem_cons_of_mem _ (List.mem_append_right _ h)) (by decide +kernel))
set_option maxRecDepth 20000 in
theorem gL_told_X0_told : GoodIn wsL_told (wsV RL 31 RX0 yX0_told wsX0_told) := goodIn_app (goodIn_of _ (by decide +kernel)) ggL_told_X0_told
theorem dL_told_0 : decode cL_told 0 = .ok (.aload_n 3, 1) := by decide +kernel
theorem dL_told_1 : decode cL_told 1 = .ok (.iconst 0, 1) := by decide +kernel
theorem dL_told_2 : decode cL_told 2 = .ok (.aload_n 0, 1) := by decide +kernel
theorem dL_told_3 : decode cL_told 3 = .ok (.iload_n 1, 1) := by decide +kernel
theorem dL_told_4 : decode cL_told 4 = .ok (.iload_n 2, 1) := by decide +kernel
theorem dL_told_5 : decode cL_told 5 = .ok (.invokevirtual 31, 3) := by decide +kernel
theorem dL_told_8 : decode cL_told 8 = .ok (.i2l, 1) := by decide +kernel
theorem dL_told_9 : decode cL_told 9 = .ok (.lastore, 1) := by decide +kernel
theorem dL_told_10 : decode cL_told 10 = .ok (.goto 7, 3) := by decide +kernel
theorem dL_told_13 : decode cL_told 13 = .ok (.astore 4, 2) := by decide +kernel
theorem dL_told_15 : decode cL_told 15 = .ok (.iconst 1, 1) := by decide +kernel
theorem dL_told_16 : decode cL_told 16 = .ok (.ireturn, 1) := by decide +kernel
theorem dL_told_17 : decode cL_told 17 = .ok (.iconst 0, 1) := by decide +kernel
theorem dL_told_18 : decode cL_told 18 = .ok (.ireturn, 1) := by decide +kernel
set_option maxRecDepth 20000 in
theorem ggL_about_X0_about : GoodIn wsL_about wsX0_about := goodIn_ca (goodIn_r _ [6, 7, 8, 9, 10, 11, 12, 5, 13, 14, 15, 16, 17, 18, 19, 20, 21, 22, 23, 24, 25, 26, 27, 28, 29, 30, 31, 32, 33, 34, 35, 36, 37, 38, 39, 40, 41, 42] (by decide +kernel) (by decide +kernel)) (goodIn_sub (fun _ h => List.mem_cons_of_mem _ (List.mem_append_right _ h)) (by decide +kernel))
set_option maxRecDepth 20000 in
theorem gL_about_X0_about : GoodIn wsL_about (wsV RL 34 RX0 yX0_about wsX0_about) := goodIn_app (goodIn_of _ (by decide +kernel)) ggL_about_X0_about
theorem dL_about_0 : decode cL_about 0 = .ok (.aload_n 3, 1) := by decide +kernel
theorem dL_about_1 : decode cL_about 1 = .ok (.iconst 0, 1) := by decide +kernel
theorem dL_about_2 : decode cL_about 2 = .ok (.aload_n 0, 1) := by decide +kernel
theorem dL_about_3 : decode cL_about 3 = .ok (.iload_n 1, 1) := by decide +kernel
theorem dL_about_4 : decode cL_about 4 = .ok (.iload_n 2, 1) := by decide +kernel
theorem dL_about_5 : decode cL_about 5 = .ok (.invokevirtual 34, 3) := by decide +kernel
theorem dL_about_8 : decode cL_about 8 = .ok (.i2l, 1) := by decide +kernel
theorem dL_about_9 : decode cL_about 9 = .ok (.lastore, 1) := by decide +kernel
theorem dL_about_10 : decode cL_about 10 = .ok (.goto 7, 3) := by decide +kernel
theorem dL_about_13 : decode cL_about 13 = .ok (.astore 4, 2) := by decide +kernel
theorem dL_about_15 : decode cL_about 15 = .ok (.iconst 1, 1) := by decide +kernel
theorem dL_about_16 : decode cL_about 16 = .ok (.ireturn, 1) := by decide +kernel
theorem dL_about_17 : decode cL_about 17 = .ok (.iconst 0, 1) := by decide +kernel
theorem dL_about_18 : decode cL_about 18 = .ok (.ireturn, 1) := by decide +kernel
set_option maxRecDepth 20000 in
theorem ggL_count_X0_count : GoodIn wsL_count wsX0_count := goodIn_ca (goodIn_r _ [6, 7, 8, 9, 10, 11, 12, 5, 13, 14, 15, 16, 17, 18, 19, 20, 21, 22, 23, 24, 25, 26, 27, 28, 29, 30, 31, 32, 33, 34, 35, 36, 37, 38, 39, 40, 41, 42, 43, 44, 45, 46, 47, 48, 49, 50, 51, 52, 53, 54, 55, 56, 57, 58, 59, 60, 61, 62, 63, 64, 65, 66, 67, 68, 69, 70, 71, 72, 73] (by decide +kernel) (by decide +kernel)) (goodIn_sub (fun _ h => List.mem_cons_of_mem _ (List.mem_append_right _ h)) (by decide +kernel))
set_option maxRecDepth 20000 in
theorem gL_count_X0_count : GoodIn wsL_count (wsV RL 37 RX0 yX0_count wsX0_count) := goodIn_app (goodIn_of _ (by decide +kernel)) ggL_count_X0_count
theorem dL_count_0 : decode cL_count 0 = .ok (.aload_n 2, 1) := by decide +kernel
theorem dL_count_1 : decode cL_count 1 = .ok (.iconst 0, 1) := by decide +kernel
theorem dL_count_2 : decode cL_count 2 = .ok (.aload_n 0, 1) := by decide +kernel
theorem dL_count_3 : decode cL_count 3 = .ok (.iload_n 1, 1) := by decide +kernel
theorem dL_count_4 : decode cL_count 4 = .ok (.invokevirtual 37, 3) := by decide +kernel
theorem dL_count_7 : decode cL_count 7 = .ok (.i2l, 1) := by decide +kernel
theorem dL_count_8 : decode cL_count 8 = .ok (.lastore, 1) := by decide +kernel
theorem dL_count_9 : decode cL_count 9 = .ok (.goto 6, 3) := by decide +kernel
theorem dL_count_12 : decode cL_count 12 = .ok (.astore_n 3, 1) := by decide +kernel
theorem dL_count_13 : decode cL_count 13 = .ok (.iconst 1, 1) := by decide +kernel
theorem dL_count_14 : decode cL_count 14 = .ok (.ireturn, 1) := by decide +kernel
theorem dL_count_15 : decode cL_count 15 = .ok (.iconst 0, 1) := by decide +kernel
theorem dL_count_16 : decode cL_count 16 = .ok (.ireturn, 1) := by decide +kernel
set_option maxRecDepth 20000 in
theorem ggL_late_X0_late : GoodIn wsL_late wsX0_late := goodIn_ca (goodIn_ca (goodIn_ca (goodIn_r _ [8, 9, 10, 11, 12, 13, 14, 15, 16, 17, 18, 19, 20, 21, 22, 7, 23, 24, 25, 26, 27, 28, 29, 30, 31, 32, 33, 34, 35, 36, 37, 38, 39, 40, 41, 42, 43, 44, 45, 46, 47, 48, 49, 50, 51, 52, 53, 54, 55, 56, 57, 58] (by decide +kernel) (by decide +kernel)) (goodIn_sub (fun _ h => List.mem_cons_of_mem _ (List.mem_append_left _ (List.mem_append_left _ (List.mem_append_right _ h)))) (by decide +kernel))) (goodIn_sub (fun _ h => List.mem_cons_of_mem _ (List.mem_append_left _ (List.mem_append_right _ h))) (by decide +kernel))) (goodIn_sub (fun _ h => List.mem_cons_of_mem _ (List.mem_append_right _ h)) (by decide +kernel))
set_option maxRecDepth 20000 in
theorem gL_late_X0_late : GoodIn wsL_late (wsV RL 41 RX0 yX0_late wsX0_late) := goodIn_app (goodIn_of _ (by decide +kernel)) ggL_late_X0_late
theorem dL_late_0 : decode cL_late 0 = .ok (.aload_n 3, 1) := by decide +kernel
theorem dL_late_1 : decode cL_late 1 = .ok (.iconst 0, 1) := by decide +kernel
theorem dL_late_2 : decode cL_late 2 = .ok (.aload_n 0, 1) := by decide +kernel
theorem dL_late_3 : decode cL_late 3 = .ok (.iload_n 1, 1) := by decide +kernel
theorem dL_late_4 : decode cL_late 4 = .ok (.iload_n 2, 1) := by decide +kernel
theorem dL_late_5 : decode cL_late 5 = .ok (.invokevirtual 41, 3) := by decide +kernel
theorem dL_late_8 : decode cL_late 8 = .ok (.i2l, 1) := by decide +kernel
theorem dL_late_9 : decode cL_late 9 = .ok (.lastore, 1) := by decide +kernel
theorem dL_late_10 : decode cL_late 10 = .ok (.goto 15, 3) := by decide +kernel
theorem dL_late_13 : decode cL_late 13 = .ok (.astore 4, 2) := by decide +kernel
theorem dL_late_15 : decode cL_late 15 = .ok (.iconst 1, 1) := by decide +kernel
theorem dL_late_16 : decode cL_late 16 = .ok (.ireturn, 1) := by decide +kernel
theorem dL_late_17 : decode cL_late 17 = .ok (.astore 4, 2) := by decide +kernel
theorem dL_late_19 : decode cL_late 19 = .ok (.iconst 2, 1) := by decide +kernel
theorem dL_late_20 : decode cL_late 20 = .ok (.ireturn, 1) := by decide +kernel
theorem dL_late_21 : decode cL_late 21 = .ok (.astore 4, 2) := by decide +kernel
theorem dL_late_23 : decode cL_late 23 = .ok (.iconst 3, 1) := by decide +kernel
theorem dL_late_24 : decode cL_late 24 = .ok (.ireturn, 1) := by decide +kernel
theorem dL_late_25 : decode cL_late 25 = .ok (.iconst 0, 1) := by decide +kernel
theorem dL_late_26 : decode cL_late 26 = .ok (.ireturn, 1) := by decide +kernel
set_option maxRecDepth 20000 in
theorem ggL_most_X0_most : GoodIn wsL_most wsX0_most := goodIn_ca (goodIn_ca (goodIn_r _ [7, 8, 9, 10, 6, 11, 12, 13, 14, 15, 16, 17, 18, 19, 20, 21, 22, 23, 24, 25, 26, 27, 28, 29, 30, 31, 32, 33, 34, 35, 36, 37, 38, 39, 40, 41, 42] (by decide +kernel) (by decide +kernel)) (goodIn_sub (fun _ h => List.mem_cons_of_mem _ (List.mem_append_left _ (List.mem_append_right _ h))) (by decide +kernel))) (goodIn_sub (fun _ h => List.mem_cons_of_mem _ (List.mem_append_right _ h)) (by decide +kernel))
set_option maxRecDepth 20000 in
theorem gL_most_X0_most : GoodIn wsL_most (wsV RL 44 RX0 yX0_most wsX0_most) := goodIn_app (goodIn_of _ (by decide +kernel)) ggL_most_X0_most
theorem dL_most_0 : decode cL_most 0 = .ok (.aload_n 3, 1) := by decide +kernel
theorem dL_most_1 : decode cL_most 1 = .ok (.iconst 0, 1) := by decide +kernel
theorem dL_most_2 : decode cL_most 2 = .ok (.aload_n 0, 1) := by decide +kernel
theorem dL_most_3 : decode cL_most 3 = .ok (.iload_n 1, 1) := by decide +kernel
theorem dL_most_4 : decode cL_most 4 = .ok (.iload_n 2, 1) := by decide +kernel
theorem dL_most_5 : decode cL_most 5 = .ok (.invokevirtual 44, 3) := by decide +kernel
theorem dL_most_8 : decode cL_most 8 = .ok (.i2l, 1) := by decide +kernel
theorem dL_most_9 : decode cL_most 9 = .ok (.lastore, 1) := by decide +kernel
theorem dL_most_10 : decode cL_most 10 = .ok (.goto 11, 3) := by decide +kernel
theorem dL_most_13 : decode cL_most 13 = .ok (.astore 4, 2) := by decide +kernel
theorem dL_most_15 : decode cL_most 15 = .ok (.iconst 1, 1) := by decide +kernel
theorem dL_most_16 : decode cL_most 16 = .ok (.ireturn, 1) := by decide +kernel
theorem dL_most_17 : decode cL_most 17 = .ok (.astore 4, 2) := by decide +kernel
theorem dL_most_19 : decode cL_most 19 = .ok (.iconst 2, 1) := by decide +kernel
theorem dL_most_20 : decode cL_most 20 = .ok (.ireturn, 1) := by decide +kernel
theorem dL_most_21 : decode cL_most 21 = .ok (.iconst 0, 1) := by decide +kernel
theorem dL_most_22 : decode cL_most 22 = .ok (.ireturn, 1) := by decide +kernel
set_option maxRecDepth 20000 in
theorem ggL_room_X0_room : GoodIn wsL_room wsX0_room := goodIn_ca (goodIn_ca (goodIn_r _ [7, 8, 9, 10, 11, 12, 13, 14, 15, 6, 16, 17, 18, 19, 20, 21, 22, 23, 24, 25, 26, 27, 28, 29, 30, 31, 32, 33, 34, 35, 36, 37, 38, 39, 40, 41, 42, 43, 44, 45, 46, 47, 48, 49, 50, 51, 52, 53, 54] (by decide +kernel) (by decide +kernel)) (goodIn_sub (fun _ h => List.mem_cons_of_mem _ (List.mem_append_left _ (List.mem_append_right _ h))) (by decide +kernel))) (goodIn_sub (fun _ h => List.mem_cons_of_mem _ (List.mem_append_right _ h)) (by decide +kernel))
set_option maxRecDepth 20000 in
theorem gL_room_X0_room : GoodIn wsL_room (wsV RL 47 RX0 yX0_room wsX0_room) := goodIn_app (goodIn_of _ (by decide +kernel)) ggL_room_X0_room
theorem dL_room_0 : decode cL_room 0 = .ok (.aload_n 2, 1) := by decide +kernel
theorem dL_room_1 : decode cL_room 1 = .ok (.iconst 0, 1) := by decide +kernel
theorem dL_room_2 : decode cL_room 2 = .ok (.aload_n 0, 1) := by decide +kernel
theorem dL_room_3 : decode cL_room 3 = .ok (.iload_n 1, 1) := by decide +kernel
theorem dL_room_4 : decode cL_room 4 = .ok (.invokevirtual 47, 3) := by decide +kernel
theorem dL_room_7 : decode cL_room 7 = .ok (.i2l, 1) := by decide +kernel
theorem dL_room_8 : decode cL_room 8 = .ok (.lastore, 1) := by decide +kernel
theorem dL_room_9 : decode cL_room 9 = .ok (.goto 9, 3) := by decide +kernel
theorem dL_room_12 : decode cL_room 12 = .ok (.astore_n 3, 1) := by decide +kernel
theorem dL_room_13 : decode cL_room 13 = .ok (.iconst 1, 1) := by decide +kernel
theorem dL_room_14 : decode cL_room 14 = .ok (.ireturn, 1) := by decide +kernel
theorem dL_room_15 : decode cL_room 15 = .ok (.astore_n 3, 1) := by decide +kernel
theorem dL_room_16 : decode cL_room 16 = .ok (.iconst 2, 1) := by decide +kernel
theorem dL_room_17 : decode cL_room 17 = .ok (.ireturn, 1) := by decide +kernel
theorem dL_room_18 : decode cL_room 18 = .ok (.iconst 0, 1) := by decide +kernel
theorem dL_room_19 : decode cL_room 19 = .ok (.ireturn, 1) := by decide +kernel
set_option maxRecDepth 20000 in
theorem ggL_would_X0_would : GoodIn wsL_would wsX0_would := goodIn_ca (goodIn_ca (goodIn_r _ [7, 8, 9, 10, 6, 11, 12, 13, 14, 15, 16, 17, 18, 19, 20, 21, 22, 23, 24, 25, 26, 27, 28, 29, 30, 31, 32, 33, 34, 35, 36, 37, 38, 39, 40, 41, 42, 43, 44, 45, 46, 47, 48, 49, 50, 51, 52, 53] (by decide +kernel) (by decide +kernel)) (goodIn_sub (fun _ h => List.mem_cons_of_mem _ (List.mem_append_left _ (List.mem_append_right _ h))) (by decide +kernel))) (goodIn_sub (fun _ h => List.mem_cons_of_mem _ (List.mem_append_right _ h)) (by decide +kernel))
set_option maxRecDepth 20000 in
theorem gL_would_X0_would : GoodIn wsL_would (wsV RL 50 RX0 yX0_would wsX0_would) := goodIn_app (goodIn_of _ (by decide +kernel)) ggL_would_X0_would
theorem dL_would_0 : decode cL_would 0 = .ok (.aload 4, 2) := by decide +kernel
theorem dL_would_2 : decode cL_would 2 = .ok (.iconst 0, 1) := by decide +kernel
theorem dL_would_3 : decode cL_would 3 = .ok (.aload_n 0, 1) := by decide +kernel
theorem dL_would_4 : decode cL_would 4 = .ok (.iload_n 1, 1) := by decide +kernel
theorem dL_would_5 : decode cL_would 5 = .ok (.iload_n 2, 1) := by decide +kernel
theorem dL_would_6 : decode cL_would 6 = .ok (.iload_n 3, 1) := by decide +kernel
theorem dL_would_7 : decode cL_would 7 = .ok (.invokevirtual 50, 3) := by decide +kernel
theorem dL_would_10 : decode cL_would 10 = .ok (.ifCond .eq 7, 3) := by decide +kernel
theorem dL_would_13 : decode cL_would 13 = .ok (.lconst 1, 1) := by decide +kernel
theorem dL_would_14 : decode cL_would 14 = .ok (.goto 4, 3) := by decide +kernel
theorem dL_would_17 : decode cL_would 17 = .ok (.lconst 0, 1) := by decide +kernel
theorem dL_would_18 : decode cL_would 18 = .ok (.lastore, 1) := by decide +kernel
theorem dL_would_19 : decode cL_would 19 = .ok (.goto 11, 3) := by decide +kernel
theorem dL_would_22 : decode cL_would 22 = .ok (.astore 5, 2) := by decide +kernel
theorem dL_would_24 : decode cL_would 24 = .ok (.iconst 1, 1) := by decide +kernel
theorem dL_would_25 : decode cL_would 25 = .ok (.ireturn, 1) := by decide +kernel
theorem dL_would_26 : decode cL_would 26 = .ok (.astore 5, 2) := by decide +kernel
theorem dL_would_28 : decode cL_would 28 = .ok (.iconst 2, 1) := by decide +kernel
theorem dL_would_29 : decode cL_would 29 = .ok (.ireturn, 1) := by decide +kernel
theorem dL_would_30 : decode cL_would 30 = .ok (.iconst 0, 1) := by decide +kernel
theorem dL_would_31 : decode cL_would 31 = .ok (.ireturn, 1) := by decide +kernel
set_option maxRecDepth 20000 in
theorem ggL_at_X0_at : GoodIn wsL_at wsX0_at := goodIn_ca (goodIn_ca (goodIn_r _ [7, 8, 9, 10, 11, 12, 13, 6, 14, 15, 16, 17, 18, 19, 20, 21, 22, 23, 24, 25, 26, 27, 28, 29, 30, 31, 32, 33, 34, 35, 36, 37, 38] (by decide +kernel) (by decide +kernel)) (goodIn_sub (fun _ h => List.mem_cons_of_mem _ (List.mem_append_left _ (List.mem_append_right _ h))) (by decide +kernel))) (goodIn_sub (fun _ h => List.mem_cons_of_mem _ (List.mem_append_right _ h)) (by decide +kernel))
set_option maxRecDepth 20000 in
theorem gL_at_X0_at : GoodIn wsL_at (wsV RL 54 RX0 yX0_at wsX0_at) := goodIn_app (goodIn_of _ (by decide +kernel)) ggL_at_X0_at
theorem dL_at_0 : decode cL_at 0 = .ok (.aload_n 2, 1) := by decide +kernel
theorem dL_at_1 : decode cL_at 1 = .ok (.iconst 0, 1) := by decide +kernel
theorem dL_at_2 : decode cL_at 2 = .ok (.aload_n 0, 1) := by decide +kernel
theorem dL_at_3 : decode cL_at 3 = .ok (.iload_n 1, 1) := by decide +kernel
theorem dL_at_4 : decode cL_at 4 = .ok (.invokevirtual 54, 3) := by decide +kernel
theorem dL_at_7 : decode cL_at 7 = .ok (.i2l, 1) := by decide +kernel
theorem dL_at_8 : decode cL_at 8 = .ok (.lastore, 1) := by decide +kernel
theorem dL_at_9 : decode cL_at 9 = .ok (.goto 9, 3) := by decide +kernel
theorem dL_at_12 : decode cL_at 12 = .ok (.astore_n 3, 1) := by decide +kernel
theorem dL_at_13 : decode cL_at 13 = .ok (.iconst 1, 1) := by decide +kernel
theorem dL_at_14 : decode cL_at 14 = .ok (.ireturn, 1) := by decide +kernel
theorem dL_at_15 : decode cL_at 15 = .ok (.astore_n 3, 1) := by decide +kernel
theorem dL_at_16 : decode cL_at 16 = .ok (.iconst 2, 1) := by decide +kernel
theorem dL_at_17 : decode cL_at 17 = .ok (.ireturn, 1) := by decide +kernel
theorem dL_at_18 : decode cL_at 18 = .ok (.iconst 0, 1) := by decide +kernel
theorem dL_at_19 : decode cL_at 19 = .ok (.ireturn, 1) := by decide +kernel
set_option maxRecDepth 20000 in
theorem ggL_law_X0_init : GoodIn wsL_law wsX0_init := goodIn_r _ [9, 10, 11, 12, 13, 14, 15, 16, 17, 18, 19, 20, 21, 22, 23, 24, 25, 26, 2, 27, 28, 29, 30, 31, 32, 33, 34, 35, 36, 37, 38, 39, 40, 41, 42, 43, 44, 45, 46, 47, 48, 49, 50, 51, 52, 53, 54, 55, 56, 57, 58, 59, 60, 61, 62, 63, 64, 65, 66, 67, 420, 421, 422, 423, 424, 425, 426, 427, 428, 429, 430, 431] (by decide +kernel) (by decide +kernel)
set_option maxRecDepth 20000 in
theorem gL_law_X0_init : GoodIn wsL_law (wsX0_init) := ggL_law_X0_init
set_option maxRecDepth 20000 in
theorem ggL_law_X1_init : GoodIn wsL_law wsX1_init := goodIn_r _ [70, 71, 11, 12, 13, 72, 432, 433, 434, 435] (by decide +kernel) (by decide +kernel)
set_option maxRecDepth 20000 in
theorem gL_law_X1_init : GoodIn wsL_law (wsX1_init) := ggL_law_X1_init
set_option maxRecDepth 20000 in
theorem ggL_law_L_turn : GoodIn wsL_law wsL_turn := goodIn_ca (goodIn_r _ [76, 77, 78, 79, 80, 2, 81, 82, 83, 33, 24, 25, 26, 27, 19, 28, 29, 30, 31, 32, 34, 35, 36, 37, 38, 18, 15, 16, 14, 39, 40, 41, 42, 43, 44, 45, 46, 47, 48, 49, 50, 51, 20, 52, 53, 54, 55, 56, 57, 58, 59, 60, 61, 62, 63, 64, 65, 66, 67, 420, 421, 422, 423, 424, 425, 426, 427, 428, 429, 430, 431] (by decide +kernel) (by decide +kernel)) (goodIn_sub (fun _ h => List.mem_append_left _ (List.mem_append_left _ (List.mem_append_right _ h))) (by decide +kernel))
set_option maxRecDepth 20000 in
theorem gL_law_L_turn : GoodIn wsL_law (va_wsS RL 61 yL_turn wsL_turn) := goodIn_app (goodIn_of _ (by decide +kernel)) ggL_law_L_turn
set_option maxRecDepth 20000 in
theorem ggL_law_X1_turn : GoodIn wsL_law wsX1_turn := goodIn_r _ [87, 88, 89, 90, 91, 92, 5, 93, 432, 433, 434, 435] (by decide +kernel) (by decide +kernel)
set_option maxRecDepth 20000 in
theorem gL_law_X1_turn : GoodIn wsL_law (wsV RL 66 RX1 yX1_turn wsX1_turn) := goodIn_app (goodIn_of _ (by decide +kernel)) ggL_law_X1_turn
set_option maxRecDepth 20000 in
theorem ggL_law_X1_thrown : GoodIn wsL_law wsX1_thrown := goodIn_r _ [97, 88, 432, 433, 434, 435] (by decide +kernel) (by decide +kernel)
set_option maxRecDepth 20000 in
theorem gL_law_X1_thrown : GoodIn wsL_law (wsV RL 67 RX1 yX1_thrown wsX1_thrown) := goodIn_app (goodIn_of _ (by decide +kernel)) ggL_law_X1_thrown
set_option maxRecDepth 20000 in
theorem ggL_law_L_tie : GoodIn wsL_law wsL_tie := goodIn_ca (goodIn_ca (goodIn_ca (goodIn_r _ [100, 101, 102, 77, 103, 104, 105, 2, 106, 82, 83, 38, 14, 15, 16, 18, 107, 108, 109, 110, 111, 112, 33, 113, 114, 115, 116, 117, 118, 119, 120, 24, 25, 26, 27, 19, 28, 29, 30, 31, 32, 34, 35, 36, 37, 39, 40, 41, 42, 43, 44, 45, 46, 47, 48, 49, 50, 51, 20, 52, 53, 54, 55, 56, 57, 58, 59, 60, 61, 62, 63, 64, 65, 66, 67, 420, 421, 422, 423, 424, 425, 426, 427, 428, 429, 430, 431] (by decide +kernel) (by decide +kernel)) (goodIn_sub (fun _ h => List.mem_append_left _ (List.mem_append_left _ (List.mem_append_right _ h))) (by decide +kernel))) (goodIn_sub (fun _ h => List.mem_append_left _ (List.mem_append_right _ h)) (by decide +kernel))) (goodIn_sub (fun _ h => List.mem_append_right _ h) (by decide +kernel))
set_option maxRecDepth 20000 in
theorem gL_law_L_tie : GoodIn wsL_law (va_wsS RL 70 yL_tie wsL_tie) := goodIn_app (goodIn_of _ (by decide +kernel)) ggL_law_L_tie
set_option maxRecDepth 20000 in
theorem ggL_law_X1_tie : GoodIn wsL_law wsX1_tie := goodIn_r _ [124, 88, 125, 13, 72, 126, 127, 128, 129, 130, 131, 132, 5, 133, 89, 134, 135, 136, 90, 91, 92, 93, 137, 138, 139, 432, 433, 434, 435] (by decide +kernel) (by decide +kernel)
set_option maxRecDepth 20000 in
theorem gL_law_X1_tie : GoodIn wsL_law (wsV RL 73 RX1 yX1_tie wsX1_tie) := goodIn_app (goodIn_of _ (by decide +kernel)) ggL_law_X1_tie
set_option maxRecDepth 20000 in
theorem ggL_law_L_cut : GoodIn wsL_law wsL_cut := goodIn_ca (goodIn_ca (goodIn_r _ [142, 101, 102, 143, 144, 145, 2, 146, 16, 147, 148, 149, 150, 111, 112, 38, 118, 119, 120, 116, 117, 24, 25, 26, 27, 19, 28, 29, 30, 31, 32, 33, 34, 35, 36, 37, 18, 15, 14, 39, 40, 41, 42, 43, 44, 45, 46, 47, 48, 49, 50, 51, 20, 52, 53, 54, 55, 56, 57, 58, 59, 60, 61, 62, 63, 64, 65, 66, 67, 420, 421, 422, 423, 424, 425, 426, 427, 428, 429, 430, 431] (by decide +kernel) (by decide +kernel)) (goodIn_sub (fun _ h => List.mem_append_left _ (List.mem_append_right _ h)) (by decide +kernel))) (goodIn_sub (fun _ h => List.mem_append_right _ h) (by decide +kernel))
set_option maxRecDepth 20000 in
theorem gL_law_L_cut : GoodIn wsL_law (va_wsS RL 74 yL_cut wsL_cut) := goodIn_app (goodIn_of _ (by decide +kernel)) ggL_law_L_cut
set_option maxRecDepth 20000 in
theorem ggL_law_X1_cut : GoodIn wsL_law wsX1_cut := goodIn_r _ [154, 88, 72, 155, 156, 157, 5, 158, 125, 134, 135, 136, 90, 91, 92, 93, 137, 138, 139, 159, 160, 161, 162, 432, 433, 434, 435] (by decide +kernel) (by decide +kernel)
set_option maxRecDepth 20000 in
theorem gL_law_X1_cut : GoodIn wsL_law (wsV RL 77 RX1 yX1_cut wsX1_cut) := goodIn_app (goodIn_of _ (by decide +kernel)) ggL_law_X1_cut
set_option maxRecDepth 20000 in
theorem ggL_law_L_knot : GoodIn wsL_law wsL_knot := goodIn_ca (goodIn_r _ [165, 101, 166, 167, 168, 2, 169, 18, 147, 148, 149, 150, 111, 112, 38, 24, 25, 26, 27, 19, 28, 29, 30, 31, 32, 33, 34, 35, 36, 37, 15, 16, 14, 39, 40, 41, 42, 43, 44, 45, 46, 47, 48, 49, 50, 51, 20, 52, 53, 54, 55, 56, 57, 58, 59, 60, 61, 62, 63, 64, 65, 66, 67, 420, 421, 422, 423, 424, 425, 426, 427, 428, 429, 430, 431] (by decide +kernel) (by decide +kernel)) (goodIn_sub (fun _ h => List.mem_append_left _ (List.mem_append_right _ h)) (by decide +kernel))
set_option maxRecDepth 20000 in
theorem gL_law_L_knot : GoodIn wsL_law (va_wsS RL 78 yL_knot wsL_knot) := goodIn_app (goodIn_of _ (by decide +kernel)) ggL_law_L_knot
set_option maxRecDepth 20000 in
theorem ggL_law_X1_knot : GoodIn wsL_law wsX1_knot := goodIn_r _ [173, 88, 72, 155, 156, 157, 5, 158, 125, 134, 135, 136, 159, 160, 161, 162, 174, 175, 176, 177, 432, 433, 434, 435] (by decide +kernel) (by decide +kernel)
set_option maxRecDepth 20000 in
theorem gL_law_X1_knot : GoodIn wsL_law (wsV RL 81 RX1 yX1_knot wsX1_knot) := goodIn_app (goodIn_of _ (by decide +kernel)) ggL_law_X1_knot
set_option maxRecDepth 20000 in
theorem ggL_law_X0_tighten : GoodIn wsL_law wsX0_tighten := goodIn_r _ [181, 38, 18, 39, 40, 41, 2, 42, 28, 182, 183, 184, 185, 16, 14, 15, 186, 187, 188, 189, 47, 190, 191, 58, 192, 60, 61, 62, 63, 20, 24, 25, 26, 27, 19, 29, 30, 31, 32, 33, 34, 35, 36, 37, 43, 44, 45, 46, 48, 49, 50, 51, 52, 53, 54, 55, 56, 57, 59, 64, 65, 66, 67, 420, 421, 422, 423, 424, 425, 426, 427, 428, 429, 430, 431] (by decide +kernel) (by decide +kernel)
set_option maxRecDepth 20000 in
theorem gL_law_X0_tighten : GoodIn wsL_law (wsV RL 82 RX0 yX0_tighten wsX0_tighten) := goodIn_app (goodIn_of _ (by decide +kernel)) ggL_law_X0_tighten
set_option maxRecDepth 20000 in
theorem ggL_law_X1_tighten : GoodIn wsL_law wsX1_tighten := goodIn_r _ [196, 88, 125, 72, 197, 198, 199, 5, 200, 201, 202, 203, 204, 13, 89, 159, 160, 161, 162, 174, 175, 176, 177, 205, 206, 207, 208, 209, 210, 211, 212, 213, 214, 191, 58, 192, 215, 216, 217, 218, 219, 220, 57, 59, 432, 433, 434, 435] (by decide +kernel) (by decide +kernel)
set_option maxRecDepth 20000 in
theorem gL_law_X1_tighten : GoodIn wsL_law (wsV RL 85 RX1 yX1_tighten wsX1_tighten) := goodIn_app (goodIn_of _ (by decide +kernel)) ggL_law_X1_tighten
set_option maxRecDepth 20000 in
theorem ggL_law_L_told : GoodIn wsL_law wsL_told := goodIn_ca (goodIn_r _ [223, 101, 224, 225, 226, 2, 227, 14, 15, 16, 18, 147, 148, 149, 150, 111, 112, 38, 228, 229, 230, 231, 232, 233, 234, 19, 39, 40, 41, 42, 28, 420, 421, 422, 423, 424, 425, 426, 427, 428, 429, 430, 431] (by decide +kernel) (by decide +kernel)) (goodIn_sub (fun _ h => List.mem_append_left _ (List.mem_append_right _ h)) (by decide +kernel))
set_option maxRecDepth 20000 in
theorem gL_law_L_told : GoodIn wsL_law (va_wsS RL 86 yL_told wsL_told) := goodIn_app (goodIn_of _ (by decide +kernel)) ggL_law_L_told
set_option maxRecDepth 20000 in
theorem ggL_law_X1_told : GoodIn wsL_law wsX1_told := goodIn_r _ [238, 88, 155, 156, 157, 5, 158, 125, 134, 135, 136, 201, 202, 203, 204, 13, 89, 159, 160, 161, 162, 72, 174, 175, 176, 177, 239, 240, 241, 242, 243, 244, 245, 246, 205, 206, 207, 208, 90, 91, 92, 93, 432, 433, 434, 435] (by decide +kernel) (by decide +kernel)
set_option maxRecDepth 20000 in
theorem gL_law_X1_told : GoodIn wsL_law (wsV RL 88 RX1 yX1_told wsX1_told) := goodIn_app (goodIn_of _ (by decide +kernel)) ggL_law_X1_told
set_option maxRecDepth 20000 in
theorem ggL_law_L_about : GoodIn wsL_law wsL_about := goodIn_ca (goodIn_r _ [249, 101, 250, 251, 252, 2, 253, 14, 15, 19, 107, 108, 109, 110, 111, 112, 33, 228, 229, 230, 254, 255, 256, 257, 38, 18, 39, 40, 41, 42, 28, 420, 421, 422, 423, 424, 425, 426, 427, 428, 429, 430, 431] (by decide +kernel) (by decide +kernel)) (goodIn_sub (fun _ h => List.mem_append_left _ (List.mem_append_right _ h)) (by decide +kernel))
set_option maxRecDepth 20000 in
theorem gL_law_L_about : GoodIn wsL_law (va_wsS RL 89 yL_about wsL_about) := goodIn_app (goodIn_of _ (by decide +kernel)) ggL_law_L_about
set_option maxRecDepth 20000 in
theorem ggL_law_X1_about : GoodIn wsL_law wsX1_about := goodIn_r _ [261, 88, 130, 131, 132, 5, 133, 89, 134, 135, 136, 201, 202, 203, 204, 13, 125, 159, 160, 161, 162, 72, 174, 175, 176, 177, 262, 263, 264, 265, 205, 206, 207, 208, 90, 91, 92, 93, 432, 433, 434, 435] (by decide +kernel) (by decide +kernel)
set_option maxRecDepth 20000 in
theorem gL_law_X1_about : GoodIn wsL_law (wsV RL 91 RX1 yX1_about wsX1_about) := goodIn_app (goodIn_of _ (by decide +kernel)) ggL_law_X1_about
set_option maxRecDepth 20000 in
theorem ggL_law_L_count : GoodIn wsL_law wsL_count := goodIn_ca (goodIn_r _ [268, 101, 269, 270, 271, 2, 272, 33, 38, 28, 19, 228, 229, 230, 111, 112, 273, 274, 275, 276, 18, 39, 40, 41, 42, 277, 278, 279, 280, 190, 191, 58, 192, 281, 282, 283, 284, 231, 232, 233, 234, 15, 14, 16, 285, 286, 287, 288, 289, 290, 291, 292, 22, 47, 293, 294, 295, 296, 23, 56, 57, 59, 420, 421, 422, 423, 424, 425, 426, 427, 428, 429, 430, 431] (by decide +kernel) (by decide +kernel)) (goodIn_sub (fun _ h => List.mem_append_left _ (List.mem_append_right _ h)) (by decide +kernel))
set_option maxRecDepth 20000 in
theorem gL_law_L_count : GoodIn wsL_law (va_wsS RL 92 yL_count wsL_count) := goodIn_app (goodIn_of _ (by decide +kernel)) ggL_law_L_count
set_option maxRecDepth 20000 in
theorem ggL_law_X1_count : GoodIn wsL_law wsX1_count := goodIn_r _ [300, 88, 134, 135, 5, 136, 201, 202, 203, 204, 13, 89, 125, 159, 160, 161, 162, 72, 174, 175, 176, 177, 301, 302, 303, 304, 205, 206, 207, 208, 305, 306, 307, 308, 214, 191, 58, 192, 243, 244, 245, 246, 309, 310, 311, 312, 213, 220, 57, 59, 90, 91, 92, 93, 432, 433, 434, 435] (by decide +kernel) (by decide +kernel)
set_option maxRecDepth 20000 in
theorem gL_law_X1_count : GoodIn wsL_law (wsV RL 94 RX1 yX1_count wsX1_count) := goodIn_app (goodIn_of _ (by decide +kernel)) ggL_law_X1_count
set_option maxRecDepth 20000 in
theorem ggL_law_X0_holds : GoodIn wsL_law wsX0_holds := goodIn_r _ [316, 39, 40, 41, 2, 42, 28, 420, 421, 422, 423, 424, 425, 426, 427, 428, 429, 430, 431] (by decide +kernel) (by decide +kernel)
set_option maxRecDepth 20000 in
theorem gL_law_X0_holds : GoodIn wsL_law (wsV RL 95 RX0 yX0_holds wsX0_holds) := goodIn_app (goodIn_of _ (by decide +kernel)) ggL_law_X0_holds
set_option maxRecDepth 20000 in
theorem ggL_law_X1_holds : GoodIn wsL_law wsX1_holds := goodIn_r _ [320, 88, 197, 198, 199, 5, 200, 201, 202, 203, 204, 13, 89, 125, 159, 160, 161, 162, 72, 174, 175, 176, 177, 205, 206, 207, 208, 432, 433, 434, 435] (by decide +kernel) (by decide +kernel)
set_option maxRecDepth 20000 in
theorem gL_law_X1_holds : GoodIn wsL_law (wsV RL 99 RX1 yX1_holds wsX1_holds) := goodIn_app (goodIn_of _ (by decide +kernel)) ggL_law_X1_holds
set_option maxRecDepth 20000 in
theorem ggL_law_L_late : GoodIn wsL_law wsL_late := goodIn_ca (goodIn_ca (goodIn_ca (goodIn_r _ [323, 101, 102, 77, 324, 325, 326, 2, 327, 116, 117, 82, 83, 19, 33, 47, 56, 57, 58, 59, 107, 108, 109, 110, 111, 112, 328, 329, 330, 331, 39, 40, 41, 42, 28, 277, 278, 279, 280, 190, 191, 192, 60, 61, 62, 63, 20, 420, 421, 422, 423, 424, 425, 426, 427, 428, 429, 430, 431] (by decide +kernel) (by decide +kernel)) (goodIn_sub (fun _ h => List.mem_append_right _ h) (by decide +kernel))) (goodIn_sub (fun _ h => List.mem_append_left _ (List.mem_append_left _ (List.mem_append_right _ h))) (by decide +kernel))) (goodIn_sub (fun _ h => List.mem_append_left _ (List.mem_append_right _ h)) (by decide +kernel))
set_option maxRecDepth 20000 in
theorem gL_law_L_late : GoodIn wsL_law (va_wsS RL 100 yL_late wsL_late) := goodIn_app (goodIn_of _ (by decide +kernel)) ggL_law_L_late
set_option maxRecDepth 20000 in
theorem ggL_law_X1_late : GoodIn wsL_law wsX1_late := goodIn_r _ [335, 88, 89, 220, 57, 58, 59, 130, 131, 132, 5, 133, 134, 135, 136, 90, 91, 92, 93, 201, 202, 203, 204, 13, 125, 159, 160, 161, 162, 72, 174, 175, 176, 177, 205, 206, 207, 208, 305, 306, 307, 308, 214, 191, 192, 215, 216, 217, 218, 219, 213, 432, 433, 434, 435] (by decide +kernel) (by decide +kernel)
set_option maxRecDepth 20000 in
theorem gL_law_X1_late : GoodIn wsL_law (wsV RL 102 RX1 yX1_late wsX1_late) := goodIn_app (goodIn_of _ (by decide +kernel)) ggL_law_X1_late
set_option maxRecDepth 20000 in
theorem ggL_law_L_most : GoodIn wsL_law wsL_most := goodIn_ca (goodIn_ca (goodIn_r _ [338, 101, 77, 339, 340, 341, 2, 342, 107, 108, 109, 110, 111, 112, 33, 328, 329, 330, 331, 82, 83, 39, 40, 41, 42, 28, 60, 61, 62, 63, 20, 420, 421, 422, 423, 424, 425, 426, 427, 428, 429, 430, 431] (by decide +kernel) (by decide +kernel)) (goodIn_sub (fun _ h => List.mem_append_left _ (List.mem_append_right _ h)) (by decide +kernel))) (goodIn_sub (fun _ h => List.mem_append_left _ (List.mem_append_left _ (List.mem_append_right _ h))) (by decide +kernel))
set_option maxRecDepth 20000 in
theorem gL_law_L_most : GoodIn wsL_law (va_wsS RL 103 yL_most wsL_most) := goodIn_app (goodIn_of _ (by decide +kernel)) ggL_law_L_most
set_option maxRecDepth 20000 in
theorem ggL_law_X1_most : GoodIn wsL_law wsX1_most := goodIn_r _ [346, 88, 130, 131, 132, 5, 133, 89, 134, 135, 136, 90, 91, 92, 93, 197, 198, 199, 200, 201, 202, 203, 204, 13, 125, 159, 160, 161, 162, 72, 174, 175, 176, 177, 205, 206, 207, 208, 215, 216, 217, 218, 219, 213, 220, 57, 58, 59, 432, 433, 434, 435] (by decide +kernel) (by decide +kernel)
set_option maxRecDepth 20000 in
theorem gL_law_X1_most : GoodIn wsL_law (wsV RL 105 RX1 yX1_most wsX1_most) := goodIn_app (goodIn_of _ (by decide +kernel)) ggL_law_X1_most
set_option maxRecDepth 20000 in
theorem ggL_law_L_room : GoodIn wsL_law wsL_room := goodIn_ca (goodIn_ca (goodIn_r _ [349, 101, 77, 350, 351, 352, 2, 353, 82, 83, 18, 14, 15, 147, 148, 149, 150, 111, 112, 38, 328, 329, 330, 331, 39, 40, 41, 42, 28, 186, 187, 188, 189, 47, 190, 191, 58, 192, 60, 61, 62, 63, 20, 420, 421, 422, 423, 424, 425, 426, 427, 428, 429, 430, 431] (by decide +kernel) (by decide +kernel)) (goodIn_sub (fun _ h => List.mem_append_left _ (List.mem_append_left _ (List.mem_append_right _ h))) (by decide +kernel))) (goodIn_sub (fun _ h => List.mem_append_left _ (List.mem_append_right _ h)) (by decide +kernel))
set_option maxRecDepth 20000 in
theorem gL_law_L_room : GoodIn wsL_law (va_wsS RL 106 yL_room wsL_room) := goodIn_app (goodIn_of _ (by decide +kernel)) ggL_law_L_room
set_option maxRecDepth 20000 in
theorem ggL_law_X1_room : GoodIn wsL_law wsX1_room := goodIn_r _ [357, 88, 155, 156, 157, 5, 158, 125, 134, 135, 136, 90, 91, 92, 93, 174, 175, 176, 177, 159, 160, 161, 162, 72, 197, 198, 199, 200, 201, 202, 203, 204, 13, 89, 205, 206, 207, 208, 209, 210, 211, 212, 213, 214, 191, 58, 192, 215, 216, 217, 218, 219, 220, 57, 59, 432, 433, 434, 435] (by decide +kernel) (by decide +kernel)
set_option maxRecDepth 20000 in
theorem gL_law_X1_room : GoodIn wsL_law (wsV RL 108 RX1 yX1_room wsX1_room) := goodIn_app (goodIn_of _ (by decide +kernel)) ggL_law_X1_room
set_option maxRecDepth 20000 in
theorem ggL_law_L_would : GoodIn wsL_law wsL_would := goodIn_ca (goodIn_ca (goodIn_r _ [360, 101, 102, 361, 362, 363, 2, 364, 107, 108, 109, 110, 111, 112, 33, 113, 114, 115, 116, 117, 118, 119, 120, 39, 40, 41, 42, 28, 186, 187, 188, 189, 47, 190, 191, 58, 192, 60, 61, 62, 63, 20, 420, 421, 422, 423, 424, 425, 426, 427, 428, 429, 430, 431] (by decide +kernel) (by decide +kernel)) (goodIn_sub (fun _ h => List.mem_append_left _ (List.mem_append_right _ h)) (by decide +kernel))) (goodIn_sub (fun _ h => List.mem_append_right _ h) (by decide +kernel))
set_option maxRecDepth 20000 in
theorem gL_law_L_would : GoodIn wsL_law (va_wsS RL 109 yL_would wsL_would) := goodIn_app (goodIn_of _ (by decide +kernel)) ggL_law_L_would
set_option maxRecDepth 20000 in
theorem ggL_law_X1_would : GoodIn wsL_law wsX1_would := goodIn_r _ [368, 88, 213, 130, 131, 132, 5, 133, 89, 134, 135, 136, 137, 138, 139, 197, 198, 199, 200, 201, 202, 203, 204, 13, 125, 159, 160, 161, 162, 72, 174, 175, 176, 177, 205, 206, 207, 208, 215, 216, 217, 218, 219, 220, 57, 58, 59, 432, 433, 434, 435] (by decide +kernel) (by decide +kernel)
set_option maxRecDepth 20000 in
theorem gL_law_X1_would : GoodIn wsL_law (wsV RL 111 RX1 yX1_would wsX1_would) := goodIn_app (goodIn_of _ (by decide +kernel)) ggL_law_X1_would
set_option maxRecDepth 20000 in
theorem ggL_law_L_at : GoodIn wsL_law wsL_at := goodIn_ca (goodIn_ca (goodIn_r _ [371, 101, 77, 372, 373, 374, 2, 375, 111, 112, 33, 328, 329, 330, 331, 82, 83, 39, 40, 41, 42, 28, 376, 377, 378, 379, 19, 420, 421, 422, 423, 424, 425, 426, 427, 428, 429, 430, 431] (by decide +kernel) (by decide +kernel)) (goodIn_sub (fun _ h => List.mem_append_left _ (List.mem_append_right _ h)) (by decide +kernel))) (goodIn_sub (fun _ h => List.mem_append_left _ (List.mem_append_left _ (List.mem_append_right _ h))) (by decide +kernel))
set_option maxRecDepth 20000 in
theorem gL_law_L_at : GoodIn wsL_law (va_wsS RL 112 yL_at wsL_at) := goodIn_app (goodIn_of _ (by decide +kernel)) ggL_law_L_at
set_option maxRecDepth 20000 in
theorem ggL_law_X1_at : GoodIn wsL_law wsX1_at := goodIn_r _ [383, 88, 89, 130, 131, 132, 5, 133, 134, 135, 136, 90, 91, 92, 93, 201, 202, 203, 204, 13, 125, 159, 160, 161, 162, 72, 174, 175, 176, 177, 205, 206, 207, 208, 432, 433, 434, 435] (by decide +kernel) (by decide +kernel)
set_option maxRecDepth 20000 in
theorem gL_law_X1_at : GoodIn wsL_law (wsV RL 114 RX1 yX1_at wsX1_at) := goodIn_app (goodIn_of _ (by decide +kernel)) ggL_law_X1_at
set_option maxRecDepth 20000 in
theorem ggL_law_X0_advise : GoodIn wsL_law wsX0_advise := goodIn_r _ [387, 19, 47, 38, 18, 21, 39, 40, 41, 2, 42, 28, 277, 278, 279, 280, 33, 190, 191, 58, 192, 29, 30, 31, 32, 34, 35, 36, 37, 15, 16, 14, 420, 421, 422, 423, 424, 425, 426, 427, 428, 429, 430, 431] (by decide +kernel) (by decide +kernel)
set_option maxRecDepth 20000 in
theorem gL_law_X0_advise : GoodIn wsL_law (wsV RL 115 RX0 yX0_advise wsX0_advise) := goodIn_app (goodIn_of _ (by decide +kernel)) ggL_law_X0_advise
set_option maxRecDepth 20000 in
theorem ggL_law_X1_advise : GoodIn wsL_law wsX1_advise := goodIn_r _ [391, 88, 392, 125, 72, 201, 202, 203, 5, 204, 13, 89, 159, 160, 161, 162, 174, 175, 176, 177, 205, 206, 207, 208, 305, 306, 307, 308, 214, 191, 58, 192, 432, 433, 434, 435] (by decide +kernel) (by decide +kernel)
set_option maxRecDepth 20000 in
theorem gL_law_X1_advise : GoodIn wsL_law (wsV RL 118 RX1 yX1_advise wsX1_advise) := goodIn_app (goodIn_of _ (by decide +kernel)) ggL_law_X1_advise
set_option maxRecDepth 20000 in
theorem ggL_law_X0_mean : GoodIn wsL_law wsX0_mean := goodIn_r _ [396, 33, 19, 39, 40, 41, 2, 42, 28, 420, 421, 422, 423, 424, 425, 426, 427, 428, 429, 430, 431] (by decide +kernel) (by decide +kernel)
set_option maxRecDepth 20000 in
theorem gL_law_X0_mean : GoodIn wsL_law (wsV RL 119 RX0 yX0_mean wsX0_mean) := goodIn_app (goodIn_of _ (by decide +kernel)) ggL_law_X0_mean
set_option maxRecDepth 20000 in
theorem ggL_law_X1_mean : GoodIn wsL_law wsX1_mean := goodIn_r _ [400, 88, 89, 201, 202, 203, 5, 204, 13, 125, 159, 160, 161, 162, 72, 174, 175, 176, 177, 205, 206, 207, 208, 432, 433, 434, 435] (by decide +kernel) (by decide +kernel)
set_option maxRecDepth 20000 in
theorem gL_law_X1_mean : GoodIn wsL_law (wsV RL 123 RX1 yX1_mean wsX1_mean) := goodIn_app (goodIn_of _ (by decide +kernel)) ggL_law_X1_mean
set_option maxRecDepth 20000 in
theorem ggL_law_X0_digest : GoodIn wsL_law wsX0_digest := goodIn_ca (goodIn_r _ [404, 405, 406, 33, 38, 407, 270, 271, 2, 272, 28, 19, 228, 229, 230, 111, 112, 273, 274, 275, 276, 18, 39, 40, 41, 42, 277, 278, 279, 280, 190, 191, 58, 192, 281, 282, 283, 284, 231, 232, 233, 234, 15, 14, 16, 285, 286, 287, 288, 289, 290, 291, 292, 22, 47, 293, 294, 295, 296, 23, 56, 57, 59, 408, 251, 252, 253, 107, 108, 109, 110, 254, 255, 256, 257, 409, 225, 226, 227, 147, 148, 149, 150, 410, 411, 412, 413, 60, 61, 62, 63, 20, 420, 421, 422, 423, 424, 425, 426, 427, 428, 429, 430, 431] (by decide +kernel) (by decide +kernel)) (goodIn_sub (fun _ h => List.mem_append_left _ (List.mem_append_right _ h)) (by decide +kernel))
set_option maxRecDepth 20000 in
theorem gL_law_X0_digest : GoodIn wsL_law (wsV RL 124 RX0 yX0_digest wsX0_digest) := goodIn_app (goodIn_of _ (by decide +kernel)) ggL_law_X0_digest
set_option maxRecDepth 20000 in
theorem ggL_law_X1_digest : GoodIn wsL_law wsX1_digest := goodIn_r _ [417, 88, 418, 419, 89, 125, 201, 202, 203, 5, 204, 13, 159, 160, 161, 162, 72, 174, 175, 176, 177, 301, 302, 303, 304, 205, 206, 207, 208, 305, 306, 307, 308, 214, 191, 58, 192, 243, 244, 245, 246, 309, 310, 311, 312, 213, 220, 57, 59, 262, 263, 264, 265, 239, 240, 241, 242, 215, 216, 217, 218, 219, 432, 433, 434, 435] (by decide +kernel) (by decide +kernel)
set_option maxRecDepth 20000 in
theorem gL_law_X1_digest : GoodIn wsL_law (wsV RL 128 RX1 yX1_digest wsX1_digest) := goodIn_app (goodIn_of _ (by decide +kernel)) ggL_law_X1_digest
theorem dL_law_0 : decode cL_law 0 = .ok (.new 8, 3) := by decide +kernel
theorem dL_law_3 : decode cL_law 3 = .ok (.dup, 1) := by decide +kernel
theorem dL_law_4 : decode cL_law 4 = .ok (.invokespecial 57, 3) := by decide +kernel
theorem dL_law_7 : decode cL_law 7 = .ok (.astore_n 1, 1) := by decide +kernel
theorem dL_law_8 : decode cL_law 8 = .ok (.new 58, 3) := by decide +kernel
theorem dL_law_11 : decode cL_law 11 = .ok (.dup, 1) := by decide +kernel
theorem dL_law_12 : decode cL_law 12 = .ok (.invokespecial 60, 3) := by decide +kernel
theorem dL_law_15 : decode cL_law 15 = .ok (.astore_n 2, 1) := by decide +kernel
theorem dL_law_16 : decode cL_law 16 = .ok (.iconst 1, 1) := by decide +kernel
theorem dL_law_17 : decode cL_law 17 = .ok (.newarray .long, 2) := by decide +kernel
theorem dL_law_19 : decode cL_law 19 = .ok (.astore_n 3, 1) := by decide +kernel
theorem dL_law_20 : decode cL_law 20 = .ok (.iconst 0, 1) := by decide +kernel
theorem dL_law_21 : decode cL_law 21 = .ok (.istore 4, 2) := by decide +kernel
theorem dL_law_23 : decode cL_law 23 = .ok (.iload 4, 2) := by decide +kernel
theorem dL_law_25 : decode cL_law 25 = .ok (.aload_n 0, 1) := by decide +kernel
theorem dL_law_26 : decode cL_law 26 = .ok (.arraylength, 1) := by decide +kernel
theorem dL_law_27 : decode cL_law 27 = .ok (.iconst 4, 1) := by decide +kernel
theorem dL_law_28 : decode cL_law 28 = .ok (.isub, 1) := by decide +kernel
theorem dL_law_29 : decode cL_law 29 = .ok (.if_icmp .gt 973, 3) := by decide +kernel
theorem dL_law_32 : decode cL_law 32 = .ok (.aload_n 0, 1) := by decide +kernel
theorem dL_law_33 : decode cL_law 33 = .ok (.iload 4, 2) := by decide +kernel
theorem dL_law_35 : decode cL_law 35 = .ok (.iaload, 1) := by decide +kernel
theorem dL_law_36 : decode cL_law 36 = .ok (.bipush 31, 2) := by decide +kernel
theorem dL_law_38 : decode cL_law 38 = .ok (.iand, 1) := by decide +kernel
theorem dL_law_39 : decode cL_law 39 = .ok (.tableswitch 957 0 16 #[81, 125, 205, 273, 336, 349, 417, 485, 541, 554, 622, 690, 746, 833, 889, 902, 943], 81) := by decide +kernel
theorem dL_law_120 : decode cL_law 120 = .ok (.aload_n 1, 1) := by decide +kernel
theorem dL_law_121 : decode cL_law 121 = .ok (.aload_n 3, 1) := by decide +kernel
theorem dL_law_122 : decode cL_law 122 = .ok (.invokestatic 61, 3) := by decide +kernel
theorem dL_law_125 : decode cL_law 125 = .ok (.istore 5, 2) := by decide +kernel
theorem dL_law_127 : decode cL_law 127 = .ok (.aload_n 2, 1) := by decide +kernel
theorem dL_law_128 : decode cL_law 128 = .ok (.invokevirtual 66, 3) := by decide +kernel
theorem dL_law_131 : decode cL_law 131 = .ok (.istore 6, 2) := by decide +kernel
theorem dL_law_133 : decode cL_law 133 = .ok (.aload_n 2, 1) := by decide +kernel
theorem dL_law_134 : decode cL_law 134 = .ok (.invokevirtual 67, 3) := by decide +kernel
theorem dL_law_137 : decode cL_law 137 = .ok (.iload 5, 2) := by decide +kernel
theorem dL_law_139 : decode cL_law 139 = .ok (.if_icmp .eq 5, 3) := by decide +kernel
theorem dL_law_142 : decode cL_law 142 = .ok (.iconst 0, 1) := by decide +kernel
theorem dL_law_143 : decode cL_law 143 = .ok (.ireturn, 1) := by decide +kernel
theorem dL_law_144 : decode cL_law 144 = .ok (.iload 5, 2) := by decide +kernel
theorem dL_law_146 : decode cL_law 146 = .ok (.ifCond .ne 15, 3) := by decide +kernel
theorem dL_law_149 : decode cL_law 149 = .ok (.aload_n 3, 1) := by decide +kernel
theorem dL_law_150 : decode cL_law 150 = .ok (.iconst 0, 1) := by decide +kernel
theorem dL_law_151 : decode cL_law 151 = .ok (.laload, 1) := by decide +kernel
theorem dL_law_152 : decode cL_law 152 = .ok (.iload 6, 2) := by decide +kernel
theorem dL_law_154 : decode cL_law 154 = .ok (.i2l, 1) := by decide +kernel
theorem dL_law_155 : decode cL_law 155 = .ok (.lcmp, 1) := by decide +kernel
theorem dL_law_156 : decode cL_law 156 = .ok (.ifCond .eq 5, 3) := by decide +kernel
theorem dL_law_159 : decode cL_law 159 = .ok (.iconst 0, 1) := by decide +kernel
theorem dL_law_160 : decode cL_law 160 = .ok (.ireturn, 1) := by decide +kernel
theorem dL_law_161 : decode cL_law 161 = .ok (.goto 835, 3) := by decide +kernel
theorem dL_law_164 : decode cL_law 164 = .ok (.aload_n 1, 1) := by decide +kernel
theorem dL_law_165 : decode cL_law 165 = .ok (.aload_n 0, 1) := by decide +kernel
theorem dL_law_166 : decode cL_law 166 = .ok (.iload 4, 2) := by decide +kernel
theorem dL_law_168 : decode cL_law 168 = .ok (.iconst 1, 1) := by decide +kernel
theorem dL_law_169 : decode cL_law 169 = .ok (.iadd, 1) := by decide +kernel
theorem dL_law_170 : decode cL_law 170 = .ok (.iaload, 1) := by decide +kernel
theorem dL_law_171 : decode cL_law 171 = .ok (.aload_n 0, 1) := by decide +kernel
theorem dL_law_172 : decode cL_law 172 = .ok (.iload 4, 2) := by decide +kernel
theorem dL_law_174 : decode cL_law 174 = .ok (.iconst 2, 1) := by decide +kernel
theorem dL_law_175 : decode cL_law 175 = .ok (.iadd, 1) := by decide +kernel
theorem dL_law_176 : decode cL_law 176 = .ok (.iaload, 1) := by decide +kernel
theorem dL_law_177 : decode cL_law 177 = .ok (.aload_n 0, 1) := by decide +kernel
theorem dL_law_178 : decode cL_law 178 = .ok (.iload 4, 2) := by decide +kernel
theorem dL_law_180 : decode cL_law 180 = .ok (.iconst 3, 1) := by decide +kernel
theorem dL_law_181 : decode cL_law 181 = .ok (.iadd, 1) := by decide +kernel
theorem dL_law_182 : decode cL_law 182 = .ok (.iaload, 1) := by decide +kernel
theorem dL_law_183 : decode cL_law 183 = .ok (.aload_n 3, 1) := by decide +kernel
theorem dL_law_184 : decode cL_law 184 = .ok (.invokestatic 70, 3) := by decide +kernel
theorem dL_law_187 : decode cL_law 187 = .ok (.istore 5, 2) := by decide +kernel
theorem dL_law_189 : decode cL_law 189 = .ok (.aload_n 2, 1) := by decide +kernel
theorem dL_law_190 : decode cL_law 190 = .ok (.aload_n 0, 1) := by decide +kernel
theorem dL_law_191 : decode cL_law 191 = .ok (.iload 4, 2) := by decide +kernel
theorem dL_law_193 : decode cL_law 193 = .ok (.iconst 1, 1) := by decide +kernel
theorem dL_law_194 : decode cL_law 194 = .ok (.iadd, 1) := by decide +kernel
theorem dL_law_195 : decode cL_law 195 = .ok (.iaload, 1) := by decide +kernel
theorem dL_law_196 : decode cL_law 196 = .ok (.aload_n 0, 1) := by decide +kernel
theorem dL_law_197 : decode cL_law 197 = .ok (.iload 4, 2) := by decide +kernel
theorem dL_law_199 : decode cL_law 199 = .ok (.iconst 2, 1) := by decide +kernel
theorem dL_law_200 : decode cL_law 200 = .ok (.iadd, 1) := by decide +kernel
theorem dL_law_201 : decode cL_law 201 = .ok (.iaload, 1) := by decide +kernel
theorem dL_law_202 : decode cL_law 202 = .ok (.aload_n 0, 1) := by decide +kernel
theorem dL_law_203 : decode cL_law 203 = .ok (.iload 4, 2) := by decide +kernel
theorem dL_law_205 : decode cL_law 205 = .ok (.iconst 3, 1) := by decide +kernel
theorem dL_law_206 : decode cL_law 206 = .ok (.iadd, 1) := by decide +kernel
theorem dL_law_207 : decode cL_law 207 = .ok (.iaload, 1) := by decide +kernel
theorem dL_law_208 : decode cL_law 208 = .ok (.invokevirtual 73, 3) := by decide +kernel
theorem dL_law_211 : decode cL_law 211 = .ok (.istore 6, 2) := by decide +kernel
theorem dL_law_213 : decode cL_law 213 = .ok (.aload_n 2, 1) := by decide +kernel
theorem dL_law_214 : decode cL_law 214 = .ok (.invokevirtual 67, 3) := by decide +kernel
theorem dL_law_217 : decode cL_law 217 = .ok (.iload 5, 2) := by decide +kernel
theorem dL_law_219 : decode cL_law 219 = .ok (.if_icmp .eq 5, 3) := by decide +kernel
theorem dL_law_222 : decode cL_law 222 = .ok (.iconst 0, 1) := by decide +kernel
theorem dL_law_223 : decode cL_law 223 = .ok (.ireturn, 1) := by decide +kernel
theorem dL_law_224 : decode cL_law 224 = .ok (.iload 5, 2) := by decide +kernel
theorem dL_law_226 : decode cL_law 226 = .ok (.ifCond .ne 15, 3) := by decide +kernel
theorem dL_law_229 : decode cL_law 229 = .ok (.aload_n 3, 1) := by decide +kernel
theorem dL_law_230 : decode cL_law 230 = .ok (.iconst 0, 1) := by decide +kernel
theorem dL_law_231 : decode cL_law 231 = .ok (.laload, 1) := by decide +kernel
theorem dL_law_232 : decode cL_law 232 = .ok (.iload 6, 2) := by decide +kernel
theorem dL_law_234 : decode cL_law 234 = .ok (.i2l, 1) := by decide +kernel
theorem dL_law_235 : decode cL_law 235 = .ok (.lcmp, 1) := by decide +kernel
theorem dL_law_236 : decode cL_law 236 = .ok (.ifCond .eq 5, 3) := by decide +kernel
theorem dL_law_239 : decode cL_law 239 = .ok (.iconst 0, 1) := by decide +kernel
theorem dL_law_240 : decode cL_law 240 = .ok (.ireturn, 1) := by decide +kernel
theorem dL_law_241 : decode cL_law 241 = .ok (.goto 755, 3) := by decide +kernel
theorem dL_law_244 : decode cL_law 244 = .ok (.aload_n 1, 1) := by decide +kernel
theorem dL_law_245 : decode cL_law 245 = .ok (.aload_n 0, 1) := by decide +kernel
theorem dL_law_246 : decode cL_law 246 = .ok (.iload 4, 2) := by decide +kernel
theorem dL_law_248 : decode cL_law 248 = .ok (.iconst 1, 1) := by decide +kernel
theorem dL_law_249 : decode cL_law 249 = .ok (.iadd, 1) := by decide +kernel
theorem dL_law_250 : decode cL_law 250 = .ok (.iaload, 1) := by decide +kernel
theorem dL_law_251 : decode cL_law 251 = .ok (.aload_n 0, 1) := by decide +kernel
theorem dL_law_252 : decode cL_law 252 = .ok (.iload 4, 2) := by decide +kernel
theorem dL_law_254 : decode cL_law 254 = .ok (.iconst 2, 1) := by decide +kernel
theorem dL_law_255 : decode cL_law 255 = .ok (.iadd, 1) := by decide +kernel
theorem dL_law_256 : decode cL_law 256 = .ok (.iaload, 1) := by decide +kernel
theorem dL_law_257 : decode cL_law 257 = .ok (.aload_n 3, 1) := by decide +kernel
theorem dL_law_258 : decode cL_law 258 = .ok (.invokestatic 74, 3) := by decide +kernel
theorem dL_law_261 : decode cL_law 261 = .ok (.istore 5, 2) := by decide +kernel
theorem dL_law_263 : decode cL_law 263 = .ok (.aload_n 2, 1) := by decide +kernel
theorem dL_law_264 : decode cL_law 264 = .ok (.aload_n 0, 1) := by decide +kernel
theorem dL_law_265 : decode cL_law 265 = .ok (.iload 4, 2) := by decide +kernel
theorem dL_law_267 : decode cL_law 267 = .ok (.iconst 1, 1) := by decide +kernel
theorem dL_law_268 : decode cL_law 268 = .ok (.iadd, 1) := by decide +kernel
theorem dL_law_269 : decode cL_law 269 = .ok (.iaload, 1) := by decide +kernel
theorem dL_law_270 : decode cL_law 270 = .ok (.aload_n 0, 1) := by decide +kernel
theorem dL_law_271 : decode cL_law 271 = .ok (.iload 4, 2) := by decide +kernel
theorem dL_law_273 : decode cL_law 273 = .ok (.iconst 2, 1) := by decide +kernel
theorem dL_law_274 : decode cL_law 274 = .ok (.iadd, 1) := by decide +kernel
theorem dL_law_275 : decode cL_law 275 = .ok (.iaload, 1) := by decide +kernel
theorem dL_law_276 : decode cL_law 276 = .ok (.invokevirtual 77, 3) := by decide +kernel
theorem dL_law_279 : decode cL_law 279 = .ok (.istore 6, 2) := by decide +kernel
theorem dL_law_281 : decode cL_law 281 = .ok (.aload_n 2, 1) := by decide +kernel
theorem dL_law_282 : decode cL_law 282 = .ok (.invokevirtual 67, 3) := by decide +kernel
theorem dL_law_285 : decode cL_law 285 = .ok (.iload 5, 2) := by decide +kernel
theorem dL_law_287 : decode cL_law 287 = .ok (.if_icmp .eq 5, 3) := by decide +kernel
theorem dL_law_290 : decode cL_law 290 = .ok (.iconst 0, 1) := by decide +kernel
theorem dL_law_291 : decode cL_law 291 = .ok (.ireturn, 1) := by decide +kernel
theorem dL_law_292 : decode cL_law 292 = .ok (.iload 5, 2) := by decide +kernel
theorem dL_law_294 : decode cL_law 294 = .ok (.ifCond .ne 15, 3) := by decide +kernel
theorem dL_law_297 : decode cL_law 297 = .ok (.aload_n 3, 1) := by decide +kernel
theorem dL_law_298 : decode cL_law 298 = .ok (.iconst 0, 1) := by decide +kernel
theorem dL_law_299 : decode cL_law 299 = .ok (.laload, 1) := by decide +kernel
theorem dL_law_300 : decode cL_law 300 = .ok (.iload 6, 2) := by decide +kernel
theorem dL_law_302 : decode cL_law 302 = .ok (.i2l, 1) := by decide +kernel
theorem dL_law_303 : decode cL_law 303 = .ok (.lcmp, 1) := by decide +kernel
theorem dL_law_304 : decode cL_law 304 = .ok (.ifCond .eq 5, 3) := by decide +kernel
theorem dL_law_307 : decode cL_law 307 = .ok (.iconst 0, 1) := by decide +kernel
theorem dL_law_308 : decode cL_law 308 = .ok (.ireturn, 1) := by decide +kernel
theorem dL_law_309 : decode cL_law 309 = .ok (.goto 687, 3) := by decide +kernel
theorem dL_law_312 : decode cL_law 312 = .ok (.aload_n 1, 1) := by decide +kernel
theorem dL_law_313 : decode cL_law 313 = .ok (.aload_n 0, 1) := by decide +kernel
theorem dL_law_314 : decode cL_law 314 = .ok (.iload 4, 2) := by decide +kernel
theorem dL_law_316 : decode cL_law 316 = .ok (.iconst 1, 1) := by decide +kernel
theorem dL_law_317 : decode cL_law 317 = .ok (.iadd, 1) := by decide +kernel
theorem dL_law_318 : decode cL_law 318 = .ok (.iaload, 1) := by decide +kernel
theorem dL_law_319 : decode cL_law 319 = .ok (.aload_n 3, 1) := by decide +kernel
theorem dL_law_320 : decode cL_law 320 = .ok (.invokestatic 78, 3) := by decide +kernel
theorem dL_law_323 : decode cL_law 323 = .ok (.istore 5, 2) := by decide +kernel
theorem dL_law_325 : decode cL_law 325 = .ok (.aload_n 2, 1) := by decide +kernel
theorem dL_law_326 : decode cL_law 326 = .ok (.aload_n 0, 1) := by decide +kernel
theorem dL_law_327 : decode cL_law 327 = .ok (.iload 4, 2) := by decide +kernel
theorem dL_law_329 : decode cL_law 329 = .ok (.iconst 1, 1) := by decide +kernel
theorem dL_law_330 : decode cL_law 330 = .ok (.iadd, 1) := by decide +kernel
theorem dL_law_331 : decode cL_law 331 = .ok (.iaload, 1) := by decide +kernel
theorem dL_law_332 : decode cL_law 332 = .ok (.invokevirtual 81, 3) := by decide +kernel
theorem dL_law_335 : decode cL_law 335 = .ok (.istore 6, 2) := by decide +kernel
theorem dL_law_337 : decode cL_law 337 = .ok (.aload_n 2, 1) := by decide +kernel
theorem dL_law_338 : decode cL_law 338 = .ok (.invokevirtual 67, 3) := by decide +kernel
theorem dL_law_341 : decode cL_law 341 = .ok (.iload 5, 2) := by decide +kernel
theorem dL_law_343 : decode cL_law 343 = .ok (.if_icmp .eq 5, 3) := by decide +kernel
theorem dL_law_346 : decode cL_law 346 = .ok (.iconst 0, 1) := by decide +kernel
theorem dL_law_347 : decode cL_law 347 = .ok (.ireturn, 1) := by decide +kernel
theorem dL_law_348 : decode cL_law 348 = .ok (.iload 5, 2) := by decide +kernel
theorem dL_law_350 : decode cL_law 350 = .ok (.ifCond .ne 22, 3) := by decide +kernel
theorem dL_law_353 : decode cL_law 353 = .ok (.aload_n 3, 1) := by decide +kernel
theorem dL_law_354 : decode cL_law 354 = .ok (.iconst 0, 1) := by decide +kernel
theorem dL_law_355 : decode cL_law 355 = .ok (.laload, 1) := by decide +kernel
theorem dL_law_356 : decode cL_law 356 = .ok (.iload 6, 2) := by decide +kernel
theorem dL_law_358 : decode cL_law 358 = .ok (.ifCond .eq 7, 3) := by decide +kernel
theorem dL_law_361 : decode cL_law 361 = .ok (.lconst 1, 1) := by decide +kernel
theorem dL_law_362 : decode cL_law 362 = .ok (.goto 4, 3) := by decide +kernel
theorem dL_law_365 : decode cL_law 365 = .ok (.lconst 0, 1) := by decide +kernel
theorem dL_law_366 : decode cL_law 366 = .ok (.lcmp, 1) := by decide +kernel
theorem dL_law_367 : decode cL_law 367 = .ok (.ifCond .eq 5, 3) := by decide +kernel
theorem dL_law_370 : decode cL_law 370 = .ok (.iconst 0, 1) := by decide +kernel
theorem dL_law_371 : decode cL_law 371 = .ok (.ireturn, 1) := by decide +kernel
theorem dL_law_372 : decode cL_law 372 = .ok (.goto 624, 3) := by decide +kernel
theorem dL_law_375 : decode cL_law 375 = .ok (.aload_n 1, 1) := by decide +kernel
theorem dL_law_376 : decode cL_law 376 = .ok (.invokevirtual 82, 3) := by decide +kernel
theorem dL_law_379 : decode cL_law 379 = .ok (.aload_n 2, 1) := by decide +kernel
theorem dL_law_380 : decode cL_law 380 = .ok (.invokevirtual 85, 3) := by decide +kernel
theorem dL_law_383 : decode cL_law 383 = .ok (.if_icmp .eq 613, 3) := by decide +kernel
theorem dL_law_386 : decode cL_law 386 = .ok (.iconst 0, 1) := by decide +kernel
theorem dL_law_387 : decode cL_law 387 = .ok (.ireturn, 1) := by decide +kernel
theorem dL_law_388 : decode cL_law 388 = .ok (.aload_n 1, 1) := by decide +kernel
theorem dL_law_389 : decode cL_law 389 = .ok (.aload_n 0, 1) := by decide +kernel
theorem dL_law_390 : decode cL_law 390 = .ok (.iload 4, 2) := by decide +kernel
theorem dL_law_392 : decode cL_law 392 = .ok (.iconst 1, 1) := by decide +kernel
theorem dL_law_393 : decode cL_law 393 = .ok (.iadd, 1) := by decide +kernel
theorem dL_law_394 : decode cL_law 394 = .ok (.iaload, 1) := by decide +kernel
theorem dL_law_395 : decode cL_law 395 = .ok (.aload_n 0, 1) := by decide +kernel
theorem dL_law_396 : decode cL_law 396 = .ok (.iload 4, 2) := by decide +kernel
theorem dL_law_398 : decode cL_law 398 = .ok (.iconst 2, 1) := by decide +kernel
theorem dL_law_399 : decode cL_law 399 = .ok (.iadd, 1) := by decide +kernel
theorem dL_law_400 : decode cL_law 400 = .ok (.iaload, 1) := by decide +kernel
theorem dL_law_401 : decode cL_law 401 = .ok (.aload_n 3, 1) := by decide +kernel
theorem dL_law_402 : decode cL_law 402 = .ok (.invokestatic 86, 3) := by decide +kernel
theorem dL_law_405 : decode cL_law 405 = .ok (.istore 5, 2) := by decide +kernel
theorem dL_law_407 : decode cL_law 407 = .ok (.aload_n 2, 1) := by decide +kernel
theorem dL_law_408 : decode cL_law 408 = .ok (.aload_n 0, 1) := by decide +kernel
theorem dL_law_409 : decode cL_law 409 = .ok (.iload 4, 2) := by decide +kernel
theorem dL_law_411 : decode cL_law 411 = .ok (.iconst 1, 1) := by decide +kernel
theorem dL_law_412 : decode cL_law 412 = .ok (.iadd, 1) := by decide +kernel
theorem dL_law_413 : decode cL_law 413 = .ok (.iaload, 1) := by decide +kernel
theorem dL_law_414 : decode cL_law 414 = .ok (.aload_n 0, 1) := by decide +kernel
theorem dL_law_415 : decode cL_law 415 = .ok (.iload 4, 2) := by decide +kernel
theorem dL_law_417 : decode cL_law 417 = .ok (.iconst 2, 1) := by decide +kernel
theorem dL_law_418 : decode cL_law 418 = .ok (.iadd, 1) := by decide +kernel
theorem dL_law_419 : decode cL_law 419 = .ok (.iaload, 1) := by decide +kernel
theorem dL_law_420 : decode cL_law 420 = .ok (.invokevirtual 88, 3) := by decide +kernel
theorem dL_law_423 : decode cL_law 423 = .ok (.istore 6, 2) := by decide +kernel
theorem dL_law_425 : decode cL_law 425 = .ok (.aload_n 2, 1) := by decide +kernel
theorem dL_law_426 : decode cL_law 426 = .ok (.invokevirtual 67, 3) := by decide +kernel
theorem dL_law_429 : decode cL_law 429 = .ok (.iload 5, 2) := by decide +kernel
theorem dL_law_431 : decode cL_law 431 = .ok (.if_icmp .eq 5, 3) := by decide +kernel
theorem dL_law_434 : decode cL_law 434 = .ok (.iconst 0, 1) := by decide +kernel
theorem dL_law_435 : decode cL_law 435 = .ok (.ireturn, 1) := by decide +kernel
theorem dL_law_436 : decode cL_law 436 = .ok (.iload 5, 2) := by decide +kernel
theorem dL_law_438 : decode cL_law 438 = .ok (.ifCond .ne 15, 3) := by decide +kernel
theorem dL_law_441 : decode cL_law 441 = .ok (.aload_n 3, 1) := by decide +kernel
theorem dL_law_442 : decode cL_law 442 = .ok (.iconst 0, 1) := by decide +kernel
theorem dL_law_443 : decode cL_law 443 = .ok (.laload, 1) := by decide +kernel
theorem dL_law_444 : decode cL_law 444 = .ok (.iload 6, 2) := by decide +kernel
theorem dL_law_446 : decode cL_law 446 = .ok (.i2l, 1) := by decide +kernel
theorem dL_law_447 : decode cL_law 447 = .ok (.lcmp, 1) := by decide +kernel
theorem dL_law_448 : decode cL_law 448 = .ok (.ifCond .eq 5, 3) := by decide +kernel
theorem dL_law_451 : decode cL_law 451 = .ok (.iconst 0, 1) := by decide +kernel
theorem dL_law_452 : decode cL_law 452 = .ok (.ireturn, 1) := by decide +kernel
theorem dL_law_453 : decode cL_law 453 = .ok (.goto 543, 3) := by decide +kernel
theorem dL_law_456 : decode cL_law 456 = .ok (.aload_n 1, 1) := by decide +kernel
theorem dL_law_457 : decode cL_law 457 = .ok (.aload_n 0, 1) := by decide +kernel
theorem dL_law_458 : decode cL_law 458 = .ok (.iload 4, 2) := by decide +kernel
theorem dL_law_460 : decode cL_law 460 = .ok (.iconst 1, 1) := by decide +kernel
theorem dL_law_461 : decode cL_law 461 = .ok (.iadd, 1) := by decide +kernel
theorem dL_law_462 : decode cL_law 462 = .ok (.iaload, 1) := by decide +kernel
theorem dL_law_463 : decode cL_law 463 = .ok (.aload_n 0, 1) := by decide +kernel
theorem dL_law_464 : decode cL_law 464 = .ok (.iload 4, 2) := by decide +kernel
theorem dL_law_466 : decode cL_law 466 = .ok (.iconst 2, 1) := by decide +kernel
theorem dL_law_467 : decode cL_law 467 = .ok (.iadd, 1) := by decide +kernel
theorem dL_law_468 : decode cL_law 468 = .ok (.iaload, 1) := by decide +kernel
theorem dL_law_469 : decode cL_law 469 = .ok (.aload_n 3, 1) := by decide +kernel
theorem dL_law_470 : decode cL_law 470 = .ok (.invokestatic 89, 3) := by decide +kernel
theorem dL_law_473 : decode cL_law 473 = .ok (.istore 5, 2) := by decide +kernel
theorem dL_law_475 : decode cL_law 475 = .ok (.aload_n 2, 1) := by decide +kernel
theorem dL_law_476 : decode cL_law 476 = .ok (.aload_n 0, 1) := by decide +kernel
theorem dL_law_477 : decode cL_law 477 = .ok (.iload 4, 2) := by decide +kernel
theorem dL_law_479 : decode cL_law 479 = .ok (.iconst 1, 1) := by decide +kernel
theorem dL_law_480 : decode cL_law 480 = .ok (.iadd, 1) := by decide +kernel
theorem dL_law_481 : decode cL_law 481 = .ok (.iaload, 1) := by decide +kernel
theorem dL_law_482 : decode cL_law 482 = .ok (.aload_n 0, 1) := by decide +kernel
theorem dL_law_483 : decode cL_law 483 = .ok (.iload 4, 2) := by decide +kernel
theorem dL_law_485 : decode cL_law 485 = .ok (.iconst 2, 1) := by decide +kernel
theorem dL_law_486 : decode cL_law 486 = .ok (.iadd, 1) := by decide +kernel
theorem dL_law_487 : decode cL_law 487 = .ok (.iaload, 1) := by decide +kernel
theorem dL_law_488 : decode cL_law 488 = .ok (.invokevirtual 91, 3) := by decide +kernel
theorem dL_law_491 : decode cL_law 491 = .ok (.istore 6, 2) := by decide +kernel
theorem dL_law_493 : decode cL_law 493 = .ok (.aload_n 2, 1) := by decide +kernel
theorem dL_law_494 : decode cL_law 494 = .ok (.invokevirtual 67, 3) := by decide +kernel
theorem dL_law_497 : decode cL_law 497 = .ok (.iload 5, 2) := by decide +kernel
theorem dL_law_499 : decode cL_law 499 = .ok (.if_icmp .eq 5, 3) := by decide +kernel
theorem dL_law_502 : decode cL_law 502 = .ok (.iconst 0, 1) := by decide +kernel
theorem dL_law_503 : decode cL_law 503 = .ok (.ireturn, 1) := by decide +kernel
theorem dL_law_504 : decode cL_law 504 = .ok (.iload 5, 2) := by decide +kernel
theorem dL_law_506 : decode cL_law 506 = .ok (.ifCond .ne 15, 3) := by decide +kernel
theorem dL_law_509 : decode cL_law 509 = .ok (.aload_n 3, 1) := by decide +kernel
theorem dL_law_510 : decode cL_law 510 = .ok (.iconst 0, 1) := by decide +kernel
theorem dL_law_511 : decode cL_law 511 = .ok (.laload, 1) := by decide +kernel
theorem dL_law_512 : decode cL_law 512 = .ok (.iload 6, 2) := by decide +kernel
theorem dL_law_514 : decode cL_law 514 = .ok (.i2l, 1) := by decide +kernel
theorem dL_law_515 : decode cL_law 515 = .ok (.lcmp, 1) := by decide +kernel
theorem dL_law_516 : decode cL_law 516 = .ok (.ifCond .eq 5, 3) := by decide +kernel
theorem dL_law_519 : decode cL_law 519 = .ok (.iconst 0, 1) := by decide +kernel
theorem dL_law_520 : decode cL_law 520 = .ok (.ireturn, 1) := by decide +kernel
theorem dL_law_521 : decode cL_law 521 = .ok (.goto 475, 3) := by decide +kernel
theorem dL_law_524 : decode cL_law 524 = .ok (.aload_n 1, 1) := by decide +kernel
theorem dL_law_525 : decode cL_law 525 = .ok (.aload_n 0, 1) := by decide +kernel
theorem dL_law_526 : decode cL_law 526 = .ok (.iload 4, 2) := by decide +kernel
theorem dL_law_528 : decode cL_law 528 = .ok (.iconst 1, 1) := by decide +kernel
theorem dL_law_529 : decode cL_law 529 = .ok (.iadd, 1) := by decide +kernel
theorem dL_law_530 : decode cL_law 530 = .ok (.iaload, 1) := by decide +kernel
theorem dL_law_531 : decode cL_law 531 = .ok (.aload_n 3, 1) := by decide +kernel
theorem dL_law_532 : decode cL_law 532 = .ok (.invokestatic 92, 3) := by decide +kernel
theorem dL_law_535 : decode cL_law 535 = .ok (.istore 5, 2) := by decide +kernel
theorem dL_law_537 : decode cL_law 537 = .ok (.aload_n 2, 1) := by decide +kernel
theorem dL_law_538 : decode cL_law 538 = .ok (.aload_n 0, 1) := by decide +kernel
theorem dL_law_539 : decode cL_law 539 = .ok (.iload 4, 2) := by decide +kernel
theorem dL_law_541 : decode cL_law 541 = .ok (.iconst 1, 1) := by decide +kernel
theorem dL_law_542 : decode cL_law 542 = .ok (.iadd, 1) := by decide +kernel
theorem dL_law_543 : decode cL_law 543 = .ok (.iaload, 1) := by decide +kernel
theorem dL_law_544 : decode cL_law 544 = .ok (.invokevirtual 94, 3) := by decide +kernel
theorem dL_law_547 : decode cL_law 547 = .ok (.istore 6, 2) := by decide +kernel
theorem dL_law_549 : decode cL_law 549 = .ok (.aload_n 2, 1) := by decide +kernel
theorem dL_law_550 : decode cL_law 550 = .ok (.invokevirtual 67, 3) := by decide +kernel
theorem dL_law_553 : decode cL_law 553 = .ok (.iload 5, 2) := by decide +kernel
theorem dL_law_555 : decode cL_law 555 = .ok (.if_icmp .eq 5, 3) := by decide +kernel
theorem dL_law_558 : decode cL_law 558 = .ok (.iconst 0, 1) := by decide +kernel
theorem dL_law_559 : decode cL_law 559 = .ok (.ireturn, 1) := by decide +kernel
theorem dL_law_560 : decode cL_law 560 = .ok (.iload 5, 2) := by decide +kernel
theorem dL_law_562 : decode cL_law 562 = .ok (.ifCond .ne 15, 3) := by decide +kernel
theorem dL_law_565 : decode cL_law 565 = .ok (.aload_n 3, 1) := by decide +kernel
theorem dL_law_566 : decode cL_law 566 = .ok (.iconst 0, 1) := by decide +kernel
theorem dL_law_567 : decode cL_law 567 = .ok (.laload, 1) := by decide +kernel
theorem dL_law_568 : decode cL_law 568 = .ok (.iload 6, 2) := by decide +kernel
theorem dL_law_570 : decode cL_law 570 = .ok (.i2l, 1) := by decide +kernel
theorem dL_law_571 : decode cL_law 571 = .ok (.lcmp, 1) := by decide +kernel
theorem dL_law_572 : decode cL_law 572 = .ok (.ifCond .eq 5, 3) := by decide +kernel
theorem dL_law_575 : decode cL_law 575 = .ok (.iconst 0, 1) := by decide +kernel
theorem dL_law_576 : decode cL_law 576 = .ok (.ireturn, 1) := by decide +kernel
theorem dL_law_577 : decode cL_law 577 = .ok (.goto 419, 3) := by decide +kernel
theorem dL_law_580 : decode cL_law 580 = .ok (.aload_n 1, 1) := by decide +kernel
theorem dL_law_581 : decode cL_law 581 = .ok (.invokevirtual 95, 3) := by decide +kernel
theorem dL_law_584 : decode cL_law 584 = .ok (.aload_n 2, 1) := by decide +kernel
theorem dL_law_585 : decode cL_law 585 = .ok (.invokevirtual 99, 3) := by decide +kernel
theorem dL_law_588 : decode cL_law 588 = .ok (.if_icmp .eq 408, 3) := by decide +kernel
theorem dL_law_591 : decode cL_law 591 = .ok (.iconst 0, 1) := by decide +kernel
theorem dL_law_592 : decode cL_law 592 = .ok (.ireturn, 1) := by decide +kernel
theorem dL_law_593 : decode cL_law 593 = .ok (.aload_n 1, 1) := by decide +kernel
theorem dL_law_594 : decode cL_law 594 = .ok (.aload_n 0, 1) := by decide +kernel
theorem dL_law_595 : decode cL_law 595 = .ok (.iload 4, 2) := by decide +kernel
theorem dL_law_597 : decode cL_law 597 = .ok (.iconst 1, 1) := by decide +kernel
theorem dL_law_598 : decode cL_law 598 = .ok (.iadd, 1) := by decide +kernel
theorem dL_law_599 : decode cL_law 599 = .ok (.iaload, 1) := by decide +kernel
theorem dL_law_600 : decode cL_law 600 = .ok (.aload_n 0, 1) := by decide +kernel
theorem dL_law_601 : decode cL_law 601 = .ok (.iload 4, 2) := by decide +kernel
theorem dL_law_603 : decode cL_law 603 = .ok (.iconst 2, 1) := by decide +kernel
theorem dL_law_604 : decode cL_law 604 = .ok (.iadd, 1) := by decide +kernel
theorem dL_law_605 : decode cL_law 605 = .ok (.iaload, 1) := by decide +kernel
theorem dL_law_606 : decode cL_law 606 = .ok (.aload_n 3, 1) := by decide +kernel
theorem dL_law_607 : decode cL_law 607 = .ok (.invokestatic 100, 3) := by decide +kernel
theorem dL_law_610 : decode cL_law 610 = .ok (.istore 5, 2) := by decide +kernel
theorem dL_law_612 : decode cL_law 612 = .ok (.aload_n 2, 1) := by decide +kernel
theorem dL_law_613 : decode cL_law 613 = .ok (.aload_n 0, 1) := by decide +kernel
theorem dL_law_614 : decode cL_law 614 = .ok (.iload 4, 2) := by decide +kernel
theorem dL_law_616 : decode cL_law 616 = .ok (.iconst 1, 1) := by decide +kernel
theorem dL_law_617 : decode cL_law 617 = .ok (.iadd, 1) := by decide +kernel
theorem dL_law_618 : decode cL_law 618 = .ok (.iaload, 1) := by decide +kernel
theorem dL_law_619 : decode cL_law 619 = .ok (.aload_n 0, 1) := by decide +kernel
theorem dL_law_620 : decode cL_law 620 = .ok (.iload 4, 2) := by decide +kernel
theorem dL_law_622 : decode cL_law 622 = .ok (.iconst 2, 1) := by decide +kernel
theorem dL_law_623 : decode cL_law 623 = .ok (.iadd, 1) := by decide +kernel
theorem dL_law_624 : decode cL_law 624 = .ok (.iaload, 1) := by decide +kernel
theorem dL_law_625 : decode cL_law 625 = .ok (.invokevirtual 102, 3) := by decide +kernel
theorem dL_law_628 : decode cL_law 628 = .ok (.istore 6, 2) := by decide +kernel
theorem dL_law_630 : decode cL_law 630 = .ok (.aload_n 2, 1) := by decide +kernel
theorem dL_law_631 : decode cL_law 631 = .ok (.invokevirtual 67, 3) := by decide +kernel
theorem dL_law_634 : decode cL_law 634 = .ok (.iload 5, 2) := by decide +kernel
theorem dL_law_636 : decode cL_law 636 = .ok (.if_icmp .eq 5, 3) := by decide +kernel
theorem dL_law_639 : decode cL_law 639 = .ok (.iconst 0, 1) := by decide +kernel
theorem dL_law_640 : decode cL_law 640 = .ok (.ireturn, 1) := by decide +kernel
theorem dL_law_641 : decode cL_law 641 = .ok (.iload 5, 2) := by decide +kernel
theorem dL_law_643 : decode cL_law 643 = .ok (.ifCond .ne 15, 3) := by decide +kernel
theorem dL_law_646 : decode cL_law 646 = .ok (.aload_n 3, 1) := by decide +kernel
theorem dL_law_647 : decode cL_law 647 = .ok (.iconst 0, 1) := by decide +kernel
theorem dL_law_648 : decode cL_law 648 = .ok (.laload, 1) := by decide +kernel
theorem dL_law_649 : decode cL_law 649 = .ok (.iload 6, 2) := by decide +kernel
theorem dL_law_651 : decode cL_law 651 = .ok (.i2l, 1) := by decide +kernel
theorem dL_law_652 : decode cL_law 652 = .ok (.lcmp, 1) := by decide +kernel
theorem dL_law_653 : decode cL_law 653 = .ok (.ifCond .eq 5, 3) := by decide +kernel
theorem dL_law_656 : decode cL_law 656 = .ok (.iconst 0, 1) := by decide +kernel
theorem dL_law_657 : decode cL_law 657 = .ok (.ireturn, 1) := by decide +kernel
theorem dL_law_658 : decode cL_law 658 = .ok (.goto 338, 3) := by decide +kernel
theorem dL_law_661 : decode cL_law 661 = .ok (.aload_n 1, 1) := by decide +kernel
theorem dL_law_662 : decode cL_law 662 = .ok (.aload_n 0, 1) := by decide +kernel
theorem dL_law_663 : decode cL_law 663 = .ok (.iload 4, 2) := by decide +kernel
theorem dL_law_665 : decode cL_law 665 = .ok (.iconst 1, 1) := by decide +kernel
theorem dL_law_666 : decode cL_law 666 = .ok (.iadd, 1) := by decide +kernel
theorem dL_law_667 : decode cL_law 667 = .ok (.iaload, 1) := by decide +kernel
theorem dL_law_668 : decode cL_law 668 = .ok (.aload_n 0, 1) := by decide +kernel
theorem dL_law_669 : decode cL_law 669 = .ok (.iload 4, 2) := by decide +kernel
theorem dL_law_671 : decode cL_law 671 = .ok (.iconst 2, 1) := by decide +kernel
theorem dL_law_672 : decode cL_law 672 = .ok (.iadd, 1) := by decide +kernel
theorem dL_law_673 : decode cL_law 673 = .ok (.iaload, 1) := by decide +kernel
theorem dL_law_674 : decode cL_law 674 = .ok (.aload_n 3, 1) := by decide +kernel
theorem dL_law_675 : decode cL_law 675 = .ok (.invokestatic 103, 3) := by decide +kernel
theorem dL_law_678 : decode cL_law 678 = .ok (.istore 5, 2) := by decide +kernel
theorem dL_law_680 : decode cL_law 680 = .ok (.aload_n 2, 1) := by decide +kernel
theorem dL_law_681 : decode cL_law 681 = .ok (.aload_n 0, 1) := by decide +kernel
theorem dL_law_682 : decode cL_law 682 = .ok (.iload 4, 2) := by decide +kernel
theorem dL_law_684 : decode cL_law 684 = .ok (.iconst 1, 1) := by decide +kernel
theorem dL_law_685 : decode cL_law 685 = .ok (.iadd, 1) := by decide +kernel
theorem dL_law_686 : decode cL_law 686 = .ok (.iaload, 1) := by decide +kernel
theorem dL_law_687 : decode cL_law 687 = .ok (.aload_n 0, 1) := by decide +kernel
theorem dL_law_688 : decode cL_law 688 = .ok (.iload 4, 2) := by decide +kernel
theorem dL_law_690 : decode cL_law 690 = .ok (.iconst 2, 1) := by decide +kernel
theorem dL_law_691 : decode cL_law 691 = .ok (.iadd, 1) := by decide +kernel
theorem dL_law_692 : decode cL_law 692 = .ok (.iaload, 1) := by decide +kernel
theorem dL_law_693 : decode cL_law 693 = .ok (.invokevirtual 105, 3) := by decide +kernel
theorem dL_law_696 : decode cL_law 696 = .ok (.istore 6, 2) := by decide +kernel
theorem dL_law_698 : decode cL_law 698 = .ok (.aload_n 2, 1) := by decide +kernel
theorem dL_law_699 : decode cL_law 699 = .ok (.invokevirtual 67, 3) := by decide +kernel
theorem dL_law_702 : decode cL_law 702 = .ok (.iload 5, 2) := by decide +kernel
theorem dL_law_704 : decode cL_law 704 = .ok (.if_icmp .eq 5, 3) := by decide +kernel
theorem dL_law_707 : decode cL_law 707 = .ok (.iconst 0, 1) := by decide +kernel
theorem dL_law_708 : decode cL_law 708 = .ok (.ireturn, 1) := by decide +kernel
theorem dL_law_709 : decode cL_law 709 = .ok (.iload 5, 2) := by decide +kernel
theorem dL_law_711 : decode cL_law 711 = .ok (.ifCond .ne 15, 3) := by decide +kernel
theorem dL_law_714 : decode cL_law 714 = .ok (.aload_n 3, 1) := by decide +kernel
theorem dL_law_715 : decode cL_law 715 = .ok (.iconst 0, 1) := by decide +kernel
theorem dL_law_716 : decode cL_law 716 = .ok (.laload, 1) := by decide +kernel
theorem dL_law_717 : decode cL_law 717 = .ok (.iload 6, 2) := by decide +kernel
theorem dL_law_719 : decode cL_law 719 = .ok (.i2l, 1) := by decide +kernel
theorem dL_law_720 : decode cL_law 720 = .ok (.lcmp, 1) := by decide +kernel
theorem dL_law_721 : decode cL_law 721 = .ok (.ifCond .eq 5, 3) := by decide +kernel
theorem dL_law_724 : decode cL_law 724 = .ok (.iconst 0, 1) := by decide +kernel
theorem dL_law_725 : decode cL_law 725 = .ok (.ireturn, 1) := by decide +kernel
theorem dL_law_726 : decode cL_law 726 = .ok (.goto 270, 3) := by decide +kernel
theorem dL_law_729 : decode cL_law 729 = .ok (.aload_n 1, 1) := by decide +kernel
theorem dL_law_730 : decode cL_law 730 = .ok (.aload_n 0, 1) := by decide +kernel
theorem dL_law_731 : decode cL_law 731 = .ok (.iload 4, 2) := by decide +kernel
theorem dL_law_733 : decode cL_law 733 = .ok (.iconst 1, 1) := by decide +kernel
theorem dL_law_734 : decode cL_law 734 = .ok (.iadd, 1) := by decide +kernel
theorem dL_law_735 : decode cL_law 735 = .ok (.iaload, 1) := by decide +kernel
theorem dL_law_736 : decode cL_law 736 = .ok (.aload_n 3, 1) := by decide +kernel
theorem dL_law_737 : decode cL_law 737 = .ok (.invokestatic 106, 3) := by decide +kernel
theorem dL_law_740 : decode cL_law 740 = .ok (.istore 5, 2) := by decide +kernel
theorem dL_law_742 : decode cL_law 742 = .ok (.aload_n 2, 1) := by decide +kernel
theorem dL_law_743 : decode cL_law 743 = .ok (.aload_n 0, 1) := by decide +kernel
theorem dL_law_744 : decode cL_law 744 = .ok (.iload 4, 2) := by decide +kernel
theorem dL_law_746 : decode cL_law 746 = .ok (.iconst 1, 1) := by decide +kernel
theorem dL_law_747 : decode cL_law 747 = .ok (.iadd, 1) := by decide +kernel
theorem dL_law_748 : decode cL_law 748 = .ok (.iaload, 1) := by decide +kernel
theorem dL_law_749 : decode cL_law 749 = .ok (.invokevirtual 108, 3) := by decide +kernel
theorem dL_law_752 : decode cL_law 752 = .ok (.istore 6, 2) := by decide +kernel
theorem dL_law_754 : decode cL_law 754 = .ok (.aload_n 2, 1) := by decide +kernel
theorem dL_law_755 : decode cL_law 755 = .ok (.invokevirtual 67, 3) := by decide +kernel
theorem dL_law_758 : decode cL_law 758 = .ok (.iload 5, 2) := by decide +kernel
theorem dL_law_760 : decode cL_law 760 = .ok (.if_icmp .eq 5, 3) := by decide +kernel
theorem dL_law_763 : decode cL_law 763 = .ok (.iconst 0, 1) := by decide +kernel
theorem dL_law_764 : decode cL_law 764 = .ok (.ireturn, 1) := by decide +kernel
theorem dL_law_765 : decode cL_law 765 = .ok (.iload 5, 2) := by decide +kernel
theorem dL_law_767 : decode cL_law 767 = .ok (.ifCond .ne 15, 3) := by decide +kernel
theorem dL_law_770 : decode cL_law 770 = .ok (.aload_n 3, 1) := by decide +kernel
theorem dL_law_771 : decode cL_law 771 = .ok (.iconst 0, 1) := by decide +kernel
theorem dL_law_772 : decode cL_law 772 = .ok (.laload, 1) := by decide +kernel
theorem dL_law_773 : decode cL_law 773 = .ok (.iload 6, 2) := by decide +kernel
theorem dL_law_775 : decode cL_law 775 = .ok (.i2l, 1) := by decide +kernel
theorem dL_law_776 : decode cL_law 776 = .ok (.lcmp, 1) := by decide +kernel
theorem dL_law_777 : decode cL_law 777 = .ok (.ifCond .eq 5, 3) := by decide +kernel
theorem dL_law_780 : decode cL_law 780 = .ok (.iconst 0, 1) := by decide +kernel
theorem dL_law_781 : decode cL_law 781 = .ok (.ireturn, 1) := by decide +kernel
theorem dL_law_782 : decode cL_law 782 = .ok (.goto 214, 3) := by decide +kernel
theorem dL_law_785 : decode cL_law 785 = .ok (.aload_n 1, 1) := by decide +kernel
theorem dL_law_786 : decode cL_law 786 = .ok (.aload_n 0, 1) := by decide +kernel
theorem dL_law_787 : decode cL_law 787 = .ok (.iload 4, 2) := by decide +kernel
theorem dL_law_789 : decode cL_law 789 = .ok (.iconst 1, 1) := by decide +kernel
theorem dL_law_790 : decode cL_law 790 = .ok (.iadd, 1) := by decide +kernel
theorem dL_law_791 : decode cL_law 791 = .ok (.iaload, 1) := by decide +kernel
theorem dL_law_792 : decode cL_law 792 = .ok (.aload_n 0, 1) := by decide +kernel
theorem dL_law_793 : decode cL_law 793 = .ok (.iload 4, 2) := by decide +kernel
theorem dL_law_795 : decode cL_law 795 = .ok (.iconst 2, 1) := by decide +kernel
theorem dL_law_796 : decode cL_law 796 = .ok (.iadd, 1) := by decide +kernel
theorem dL_law_797 : decode cL_law 797 = .ok (.iaload, 1) := by decide +kernel
theorem dL_law_798 : decode cL_law 798 = .ok (.aload_n 0, 1) := by decide +kernel
theorem dL_law_799 : decode cL_law 799 = .ok (.iload 4, 2) := by decide +kernel
theorem dL_law_801 : decode cL_law 801 = .ok (.iconst 3, 1) := by decide +kernel
theorem dL_law_802 : decode cL_law 802 = .ok (.iadd, 1) := by decide +kernel
theorem dL_law_803 : decode cL_law 803 = .ok (.iaload, 1) := by decide +kernel
theorem dL_law_804 : decode cL_law 804 = .ok (.aload_n 3, 1) := by decide +kernel
theorem dL_law_805 : decode cL_law 805 = .ok (.invokestatic 109, 3) := by decide +kernel
theorem dL_law_808 : decode cL_law 808 = .ok (.istore 5, 2) := by decide +kernel
theorem dL_law_810 : decode cL_law 810 = .ok (.aload_n 2, 1) := by decide +kernel
theorem dL_law_811 : decode cL_law 811 = .ok (.aload_n 0, 1) := by decide +kernel
theorem dL_law_812 : decode cL_law 812 = .ok (.iload 4, 2) := by decide +kernel
theorem dL_law_814 : decode cL_law 814 = .ok (.iconst 1, 1) := by decide +kernel
theorem dL_law_815 : decode cL_law 815 = .ok (.iadd, 1) := by decide +kernel
theorem dL_law_816 : decode cL_law 816 = .ok (.iaload, 1) := by decide +kernel
theorem dL_law_817 : decode cL_law 817 = .ok (.aload_n 0, 1) := by decide +kernel
theorem dL_law_818 : decode cL_law 818 = .ok (.iload 4, 2) := by decide +kernel
theorem dL_law_820 : decode cL_law 820 = .ok (.iconst 2, 1) := by decide +kernel
theorem dL_law_821 : decode cL_law 821 = .ok (.iadd, 1) := by decide +kernel
theorem dL_law_822 : decode cL_law 822 = .ok (.iaload, 1) := by decide +kernel
theorem dL_law_823 : decode cL_law 823 = .ok (.aload_n 0, 1) := by decide +kernel
theorem dL_law_824 : decode cL_law 824 = .ok (.iload 4, 2) := by decide +kernel
theorem dL_law_826 : decode cL_law 826 = .ok (.iconst 3, 1) := by decide +kernel
theorem dL_law_827 : decode cL_law 827 = .ok (.iadd, 1) := by decide +kernel
theorem dL_law_828 : decode cL_law 828 = .ok (.iaload, 1) := by decide +kernel
theorem dL_law_829 : decode cL_law 829 = .ok (.invokevirtual 111, 3) := by decide +kernel
theorem dL_law_832 : decode cL_law 832 = .ok (.istore 6, 2) := by decide +kernel
theorem dL_law_834 : decode cL_law 834 = .ok (.aload_n 2, 1) := by decide +kernel
theorem dL_law_835 : decode cL_law 835 = .ok (.invokevirtual 67, 3) := by decide +kernel
theorem dL_law_838 : decode cL_law 838 = .ok (.iload 5, 2) := by decide +kernel
theorem dL_law_840 : decode cL_law 840 = .ok (.if_icmp .eq 5, 3) := by decide +kernel
theorem dL_law_843 : decode cL_law 843 = .ok (.iconst 0, 1) := by decide +kernel
theorem dL_law_844 : decode cL_law 844 = .ok (.ireturn, 1) := by decide +kernel
theorem dL_law_845 : decode cL_law 845 = .ok (.iload 5, 2) := by decide +kernel
theorem dL_law_847 : decode cL_law 847 = .ok (.ifCond .ne 22, 3) := by decide +kernel
theorem dL_law_850 : decode cL_law 850 = .ok (.aload_n 3, 1) := by decide +kernel
theorem dL_law_851 : decode cL_law 851 = .ok (.iconst 0, 1) := by decide +kernel
theorem dL_law_852 : decode cL_law 852 = .ok (.laload, 1) := by decide +kernel
theorem dL_law_853 : decode cL_law 853 = .ok (.iload 6, 2) := by decide +kernel
theorem dL_law_855 : decode cL_law 855 = .ok (.ifCond .eq 7, 3) := by decide +kernel
theorem dL_law_858 : decode cL_law 858 = .ok (.lconst 1, 1) := by decide +kernel
theorem dL_law_859 : decode cL_law 859 = .ok (.goto 4, 3) := by decide +kernel
theorem dL_law_862 : decode cL_law 862 = .ok (.lconst 0, 1) := by decide +kernel
theorem dL_law_863 : decode cL_law 863 = .ok (.lcmp, 1) := by decide +kernel
theorem dL_law_864 : decode cL_law 864 = .ok (.ifCond .eq 5, 3) := by decide +kernel
theorem dL_law_867 : decode cL_law 867 = .ok (.iconst 0, 1) := by decide +kernel
theorem dL_law_868 : decode cL_law 868 = .ok (.ireturn, 1) := by decide +kernel
theorem dL_law_869 : decode cL_law 869 = .ok (.goto 127, 3) := by decide +kernel
theorem dL_law_872 : decode cL_law 872 = .ok (.aload_n 1, 1) := by decide +kernel
theorem dL_law_873 : decode cL_law 873 = .ok (.aload_n 0, 1) := by decide +kernel
theorem dL_law_874 : decode cL_law 874 = .ok (.iload 4, 2) := by decide +kernel
theorem dL_law_876 : decode cL_law 876 = .ok (.iconst 1, 1) := by decide +kernel
theorem dL_law_877 : decode cL_law 877 = .ok (.iadd, 1) := by decide +kernel
theorem dL_law_878 : decode cL_law 878 = .ok (.iaload, 1) := by decide +kernel
theorem dL_law_879 : decode cL_law 879 = .ok (.aload_n 3, 1) := by decide +kernel
theorem dL_law_880 : decode cL_law 880 = .ok (.invokestatic 112, 3) := by decide +kernel
theorem dL_law_883 : decode cL_law 883 = .ok (.istore 5, 2) := by decide +kernel
theorem dL_law_885 : decode cL_law 885 = .ok (.aload_n 2, 1) := by decide +kernel
theorem dL_law_886 : decode cL_law 886 = .ok (.aload_n 0, 1) := by decide +kernel
theorem dL_law_887 : decode cL_law 887 = .ok (.iload 4, 2) := by decide +kernel
theorem dL_law_889 : decode cL_law 889 = .ok (.iconst 1, 1) := by decide +kernel
theorem dL_law_890 : decode cL_law 890 = .ok (.iadd, 1) := by decide +kernel
theorem dL_law_891 : decode cL_law 891 = .ok (.iaload, 1) := by decide +kernel
theorem dL_law_892 : decode cL_law 892 = .ok (.invokevirtual 114, 3) := by decide +kernel
theorem dL_law_895 : decode cL_law 895 = .ok (.istore 6, 2) := by decide +kernel
theorem dL_law_897 : decode cL_law 897 = .ok (.aload_n 2, 1) := by decide +kernel
theorem dL_law_898 : decode cL_law 898 = .ok (.invokevirtual 67, 3) := by decide +kernel
theorem dL_law_901 : decode cL_law 901 = .ok (.iload 5, 2) := by decide +kernel
theorem dL_law_903 : decode cL_law 903 = .ok (.if_icmp .eq 5, 3) := by decide +kernel
theorem dL_law_906 : decode cL_law 906 = .ok (.iconst 0, 1) := by decide +kernel
theorem dL_law_907 : decode cL_law 907 = .ok (.ireturn, 1) := by decide +kernel
theorem dL_law_908 : decode cL_law 908 = .ok (.iload 5, 2) := by decide +kernel
theorem dL_law_910 : decode cL_law 910 = .ok (.ifCond .ne 15, 3) := by decide +kernel
theorem dL_law_913 : decode cL_law 913 = .ok (.aload_n 3, 1) := by decide +kernel
theorem dL_law_914 : decode cL_law 914 = .ok (.iconst 0, 1) := by decide +kernel
theorem dL_law_915 : decode cL_law 915 = .ok (.laload, 1) := by decide +kernel
theorem dL_law_916 : decode cL_law 916 = .ok (.iload 6, 2) := by decide +kernel
theorem dL_law_918 : decode cL_law 918 = .ok (.i2l, 1) := by decide +kernel
theorem dL_law_919 : decode cL_law 919 = .ok (.lcmp, 1) := by decide +kernel
theorem dL_law_920 : decode cL_law 920 = .ok (.ifCond .eq 5, 3) := by decide +kernel
theorem dL_law_923 : decode cL_law 923 = .ok (.iconst 0, 1) := by decide +kernel
theorem dL_law_924 : decode cL_law 924 = .ok (.ireturn, 1) := by decide +kernel
theorem dL_law_925 : decode cL_law 925 = .ok (.goto 71, 3) := by decide +kernel
theorem dL_law_928 : decode cL_law 928 = .ok (.aload_n 1, 1) := by decide +kernel
theorem dL_law_929 : decode cL_law 929 = .ok (.invokevirtual 115, 3) := by decide +kernel
theorem dL_law_932 : decode cL_law 932 = .ok (.aload_n 2, 1) := by decide +kernel
theorem dL_law_933 : decode cL_law 933 = .ok (.invokevirtual 118, 3) := by decide +kernel
theorem dL_law_936 : decode cL_law 936 = .ok (.if_icmp .eq 60, 3) := by decide +kernel
theorem dL_law_939 : decode cL_law 939 = .ok (.iconst 0, 1) := by decide +kernel
theorem dL_law_940 : decode cL_law 940 = .ok (.ireturn, 1) := by decide +kernel
theorem dL_law_941 : decode cL_law 941 = .ok (.aload_n 1, 1) := by decide +kernel
theorem dL_law_942 : decode cL_law 942 = .ok (.invokevirtual 119, 3) := by decide +kernel
theorem dL_law_945 : decode cL_law 945 = .ok (.dstore 5, 2) := by decide +kernel
theorem dL_law_947 : decode cL_law 947 = .ok (.aload_n 2, 1) := by decide +kernel
theorem dL_law_948 : decode cL_law 948 = .ok (.invokevirtual 123, 3) := by decide +kernel
theorem dL_law_951 : decode cL_law 951 = .ok (.dstore 7, 2) := by decide +kernel
theorem dL_law_953 : decode cL_law 953 = .ok (.dload 5, 2) := by decide +kernel
theorem dL_law_955 : decode cL_law 955 = .ok (.dload 7, 2) := by decide +kernel
theorem dL_law_957 : decode cL_law 957 = .ok (.dcmp .l, 1) := by decide +kernel
theorem dL_law_958 : decode cL_law 958 = .ok (.ifCond .eq 21, 3) := by decide +kernel
theorem dL_law_961 : decode cL_law 961 = .ok (.dload 5, 2) := by decide +kernel
theorem dL_law_963 : decode cL_law 963 = .ok (.dload 5, 2) := by decide +kernel
theorem dL_law_965 : decode cL_law 965 = .ok (.dcmp .l, 1) := by decide +kernel
theorem dL_law_966 : decode cL_law 966 = .ok (.ifCond .eq 11, 3) := by decide +kernel
theorem dL_law_969 : decode cL_law 969 = .ok (.dload 7, 2) := by decide +kernel
theorem dL_law_971 : decode cL_law 971 = .ok (.dload 7, 2) := by decide +kernel
theorem dL_law_973 : decode cL_law 973 = .ok (.dcmp .l, 1) := by decide +kernel
theorem dL_law_974 : decode cL_law 974 = .ok (.ifCond .ne 5, 3) := by decide +kernel
theorem dL_law_977 : decode cL_law 977 = .ok (.iconst 0, 1) := by decide +kernel
theorem dL_law_978 : decode cL_law 978 = .ok (.ireturn, 1) := by decide +kernel
theorem dL_law_979 : decode cL_law 979 = .ok (.goto 17, 3) := by decide +kernel
theorem dL_law_982 : decode cL_law 982 = .ok (.aload_n 1, 1) := by decide +kernel
theorem dL_law_983 : decode cL_law 983 = .ok (.invokevirtual 124, 3) := by decide +kernel
theorem dL_law_986 : decode cL_law 986 = .ok (.aload_n 2, 1) := by decide +kernel
theorem dL_law_987 : decode cL_law 987 = .ok (.invokevirtual 128, 3) := by decide +kernel
theorem dL_law_990 : decode cL_law 990 = .ok (.lcmp, 1) := by decide +kernel
theorem dL_law_991 : decode cL_law 991 = .ok (.ifCond .eq 5, 3) := by decide +kernel
theorem dL_law_994 : decode cL_law 994 = .ok (.iconst 0, 1) := by decide +kernel
theorem dL_law_995 : decode cL_law 995 = .ok (.ireturn, 1) := by decide +kernel
theorem dL_law_996 : decode cL_law 996 = .ok (.iinc 4 4, 3) := by decide +kernel
theorem dL_law_999 : decode cL_law 999 = .ok (.goto (-976), 3) := by decide +kernel
theorem dL_law_1002 : decode cL_law 1002 = .ok (.iconst 1, 1) := by decide +kernel
theorem dL_law_1003 : decode cL_law 1003 = .ok (.ireturn, 1) := by decide +kernel
abbrev vwCl : List vw_C := [(RX0, TX0, 12), (RX1, TX1, 4)]
end
section
/-! own rows: values, arrays by natural indices, calls by contract -/
def bI (b : Bool) : Int32 := if b = true then 1 else 0
theorem bI_t : bI true = 1 := rfl
theorem bI_f : bI false = 0 := rfl
theorem bI_0 {b : Bool} (h : bI b = 0) : b = false := by
  cases b with
  | false => rfl
  | true => exact absurd h (by decide)
theorem bI_n0 {b : Bool} (h : ¬ bI b = 0) : b = true := by
  cases b with
  | false => exact absurd bI_f h
  | true => rfl
theorem bI_1 {b : Bool} (h : bI b = 1) : b = true := by
  cases b with
  | false => exact absurd h (by decide)
  | true => rfl
theorem bI_n1 {b : Bool} (h : ¬ bI b = 1) : b = false := by
  cases b with
  | false => rfl
  | true => exact absurd bI_t h
theorem x_narB (b : Bool) : narrow .boolean (.int (bI b)) = .int (bI b) := by cases b <;> rfl
theorem x_nar2 (b : Bool) : vp_nar .boolean (bI b) = bI b := by cases b <;> rfl
def xN (f : Nat → Nat) : Nat → Int32 := fun j => nI (f j)
def xB (f : Nat → Bool) : Nat → Int32 := fun j => bI (f j)
def mxI (x y : Int32) : Int32 := if x < y then y else x
def mnI (x y : Int32) : Int32 := if y < x then y else x
def updN (f : Nat → Nat) (k x : Nat) : Nat → Nat := fun j => if j = k then x else f j
def updB (f : Nat → Bool) (k : Nat) (x : Bool) : Nat → Bool := fun j => if j = k then x else f j
theorem upd_xN (f : Nat → Nat) (k x : Nat) : upd (xN f) k (nI x) = xN (updN f k x) := by
  funext j
  unfold upd xN updN
  split <;> rfl
theorem upd_xB (f : Nat → Bool) (k : Nat) (x : Bool) : upd (xB f) k (bI x) = xB (updB f k x) := by
  funext j
  unfold upd xB updB
  split <;> rfl
/-! the cells of the two objects and their rows -/
abbrev xObj (a : Nat → Nat) (tc rc : Nat) (ro : Int32) : Nat × va_E := (a 0, .inr (0, [.int (nI tc), .int (nI rc), .ref (a 1), .ref (a 2), .ref (a 3), .ref (a 4), .int ro, .ref (a 5), .ref (a 6), .ref (a 7), .ref (a 8), .ref (a 9)]))
abbrev xArr (cA : ClassId) (q n : Nat) (f : Nat → Int32) : Nat × va_E := (q, .inl (cA, n, .inl f))
abbrev xMod (b : Nat → Nat) (th : Int32) (tc rc : Nat) : Nat × va_E := (b 0, .inr (1, [.int th, .int (nI tc), .int (nI rc), .ref (b 1)]))
abbrev xLng (cA : ClassId) (q n : Nat) (f : Nat → Int64) : Nat × va_E := (q, .inl (cA, n, .inr (.inl f)))
/-! contracts: reading; changing; throwing -/
def xRo (D : va_G) (tys : List (ClassId × FieldType)) (av : List Value) (wc : va_W) : Array Value → State → Prop := va_Pc av (fun U => va_P D vwCl wc U.heap ∧ va_K D vwCl tys U)
def xMu (D : va_G) (tys : List (ClassId × FieldType)) (X : State → Prop) (av : List Value) (wc : va_W) (sz : Nat) : Array Value → State → Prop := va_Pc av (fun U => U.heap.size = sz ∧ va_P D vwCl wc U.heap ∧ va_K D vwCl tys U ∧ va_D (fun _ => True) wc ∧ X U)
def xQr (r : Value) : Array Value → State → Outcome → State → Prop := fun _ st o t => o = .returned (some r) ∧ t.heap = st.heap
def xQm {S : Type} (D : va_G) (pu : S → Prop) (r : S → Option Value) (wc : va_W) (w1 : S → va_W) (sz : Nat) : Array Value → State → Outcome → State → Prop := fun _ st o t => ∃ u : S, pu u ∧ o = .returned (r u) ∧ va_P D vwCl (w1 u) t.heap ∧ va_D (va_A wc sz) (w1 u) ∧ va_F (va_A wc sz) st t
def xQt (r : Option Value) (ok : Prop) : Array Value → State → Outcome → State → Prop := fun _ st o t => ok ∧ o = .returned r ∧ t.heap = st.heap
def xXt (bad : String → Prop) : String → State → State → Prop := fun E st t => bad E ∧ va_F (fun _ => False) st t
/-- what a method may know beside its world, that travels with the tables -/
def xTrav (X : State → Prop) : Prop := ∀ (u U : State), U.vm = u.vm → U.heap = u.heap → X u → X U
section XR
variable {p : Program} {l : Launch} {e : Env} {R : Room} {s : State} {m : MethodId} {args : Array Value} {below : List Frame} {meth : Method} {c : Code} {H : Heap} {locs : List Loc} {cells slots : Nat} {Q : State → Prop}
variable {cc : ByteArray} {pc : Nat} {ls : Array Slot} {rest st0 : List Value} {D : va_G} {cl : List vw_C} {A0 A : Nat → Prop} {a : Nat} {tys : List (ClassId × FieldType)} {ws : va_W} {H0 : Heap}
theorem x_top {v w : Int32} (h : v = w) (k : W p l e R s m args below meth c H locs cells slots Q (F0 m pc ls (.int w :: rest))) : W p l e R s m args below meth c H locs cells slots Q (F0 m pc ls (.int v :: rest)) := h ▸ k
theorem x_topL {v w : Int64} (h : v = w) (k : W p l e R s m args below meth c H locs cells slots Q (F0 m pc ls (.long w :: rest))) : W p l e R s m args below meth c H locs cells slots Q (F0 m pc ls (.long v :: rest)) := h ▸ k
theorem x_iald (hexec : p.tables.exec = Jvm.exec) (hb : c.code = cc) (hK : va_K D cl tys s) (hP : va_P D cl ws H) (q0 t0 : Nat) {cA : ClassId} {n : Nat} {f : Nat → Int32} (ha : ws[q0]? = some (a, .inl (cA, n, .inl f))) (ht : tys[t0]? = some (cA, .int)) {k : Nat} (hk : k < n) (hn : n < 2147483648) (hdg : decode cc pc = .ok (.iaload, 1))
    (kk : W p l e R s m args below meth c H locs cells slots Q (F0 m (pc + 1) ls (.int (f k) :: rest))) : W p l e R s m args below meth c H locs cells slots Q (F0 m pc ls (.int (nI k) :: .ref a :: rest)) := by
  refine va_iald hexec hb hK hP q0 t0 ha ht (vp_in_nI hk hn) hdg ?_
  rw [nI_clamp (Nat.lt_trans hk hn)]
  exact kk
theorem x_zald (hexec : p.tables.exec = Jvm.exec) (hb : c.code = cc) (hK : va_K D cl tys s) (hP : va_P D cl ws H) (q0 t0 : Nat) {cA : ClassId} {n : Nat} {f : Nat → Int32} (ha : ws[q0]? = some (a, .inl (cA, n, .inl f))) (ht : tys[t0]? = some (cA, .boolean)) {k : Nat} (hk : k < n) (hn : n < 2147483648) (hdg : decode cc pc = .ok (.baload, 1))
    (kk : W p l e R s m args below meth c H locs cells slots Q (F0 m (pc + 1) ls (.int (f k) :: rest))) : W p l e R s m args below meth c H locs cells slots Q (F0 m pc ls (.int (nI k) :: .ref a :: rest)) := by
  refine va_zald hexec hb hK hP q0 t0 ha ht (vp_in_nI hk hn) hdg ?_
  rw [nI_clamp (Nat.lt_trans hk hn)]
  exact kk
theorem x_iast (hexec : p.tables.exec = Jvm.exec) (hb : c.code = cc) (hK : va_K D cl tys s) (hP : va_P D cl ws H) (hD : va_D A ws) (hS : va_S A H0 H locs) (q0 t0 : Nat) (ws' : va_W) {cA : ClassId} {n : Nat} {f : Nat → Int32} (ha : ws[q0]? = some (a, .inl (cA, n, .inl f))) (ht : tys[t0]? = some (cA, .int)) {k : Nat} {x : Int32} (hw : ws.set q0 (a, .inl (cA, n, .inl (upd f k x))) = ws') (hk : k < n) (hn : n < 2147483648) (hdg : decode cc pc = .ok (.iastore, 1))
    (kk : ∀ (H1 : Heap) (locs1 : List Loc), va_P D cl ws' H1 → va_D A ws' → va_S A H0 H1 locs1 → W p l e R s m args below meth c H1 locs1 cells slots Q (F0 m (pc + 1) ls rest)) : W p l e R s m args below meth c H locs cells slots Q (F0 m pc ls (.int x :: .int (nI k) :: .ref a :: rest)) := by
  subst hw
  refine va_iast hexec hb hK hP hD hS q0 t0 ha ht (vp_in_nI hk hn) hdg ?_
  rw [nI_clamp (Nat.lt_trans hk hn)]
  exact kk
theorem x_zast (hexec : p.tables.exec = Jvm.exec) (hb : c.code = cc) (hK : va_K D cl tys s) (hP : va_P D cl ws H) (hD : va_D A ws) (hS : va_S A H0 H locs) (q0 t0 : Nat) (ws' : va_W) {cA : ClassId} {n : Nat} {f : Nat → Int32} (ha : ws[q0]? = some (a, .inl (cA, n, .inl f))) (ht : tys[t0]? = some (cA, .boolean)) {k : Nat} {x : Bool} (hw : ws.set q0 (a, .inl (cA, n, .inl (upd f k (bI x)))) = ws') (hk : k < n) (hn : n < 2147483648) (hdg : decode cc pc = .ok (.bastore, 1))
    (kk : ∀ (H1 : Heap) (locs1 : List Loc), va_P D cl ws' H1 → va_D A ws' → va_S A H0 H1 locs1 → W p l e R s m args below meth c H1 locs1 cells slots Q (F0 m (pc + 1) ls rest)) : W p l e R s m args below meth c H locs cells slots Q (F0 m pc ls (.int (bI x) :: .int (nI k) :: .ref a :: rest)) := by
  subst hw
  refine va_zast hexec hb hK hP hD hS q0 t0 ha ht (vp_in_nI hk hn) hdg ?_
  rw [nI_clamp (Nat.lt_trans hk hn), x_nar2]
  exact kk
theorem x_last (hexec : p.tables.exec = Jvm.exec) (hb : c.code = cc) (hK : va_K D cl tys s) (hP : va_P D cl ws H) (hD : va_D A ws) (hS : va_S A H0 H locs) (q0 t0 : Nat) (ws' : va_W) {cA : ClassId} {n : Nat} {f : Nat → Int64} (ha : ws[q0]? = some (a, .inl (cA, n, .inr (.inl f)))) (ht : tys[t0]? = some (cA, .long)) {k : Nat} {x : Int64} (hw : ws.set q0 (a, .inl (cA, n, .inr (.inl (vp_updL f k x)))) = ws') (hk : k < n) (hn : n < 2147483648) (hdg : decode cc pc = .ok (.lastore, 1))
    (kk : ∀ (H1 : Heap) (locs1 : List Loc), va_P D cl ws' H1 → va_D A ws' → va_S A H0 H1 locs1 → W p l e R s m args below meth c H1 locs1 cells slots Q (F0 m (pc + 1) ls rest)) : W p l e R s m args below meth c H locs cells slots Q (F0 m pc ls (.long x :: .int (nI k) :: .ref a :: rest)) := by
  subst hw
  refine va_last hexec hb hK hP hD hS q0 t0 ha ht (vp_in_nI hk hn) hdg ?_
  rw [nI_clamp (Nat.lt_trans hk hn)]
  exact kk
theorem x_lald (hexec : p.tables.exec = Jvm.exec) (hb : c.code = cc) (hK : va_K D cl tys s) (hP : va_P D cl ws H) (q0 t0 : Nat) {cA : ClassId} {n : Nat} {f : Nat → Int64} (ha : ws[q0]? = some (a, .inl (cA, n, .inr (.inl f)))) (ht : tys[t0]? = some (cA, .long)) {k : Nat} (hk : k < n) (hn : n < 2147483648) (hdg : decode cc pc = .ok (.laload, 1))
    (kk : W p l e R s m args below meth c H locs cells slots Q (F0 m (pc + 1) ls (.long (f k) :: rest))) : W p l e R s m args below meth c H locs cells slots Q (F0 m pc ls (.int (nI k) :: .ref a :: rest)) := by
  refine va_lald hexec hb hK hP q0 t0 ha ht (vp_in_nI hk hn) hdg ?_
  rw [nI_clamp (Nat.lt_trans hk hn)]
  exact kk
/-- an array of arrays is read -/
theorem x_aald (hexec : p.tables.exec = Jvm.exec) (hb : c.code = cc) (hK : va_K D cl tys s) (hP : va_P D cl ws H) (q0 t0 : Nat) {cA : ClassId} {ty : FieldType} {n : Nat} {f : Nat → Option Nat} (ha : ws[q0]? = some (a, .inl (cA, n, .inr (.inr (.inr (.inr f)))))) (ht : tys[t0]? = some (cA, .array ty)) {k v : Nat} (hk : k < n) (hn : n < 2147483648) (hv : f k = some v) (hdg : decode cc pc = .ok (.aaload, 1))
    (kk : W p l e R s m args below meth c H locs cells slots Q (F0 m (pc + 1) ls (.ref v :: rest))) : W p l e R s m args below meth c H locs cells slots Q (F0 m pc ls (.int (nI k) :: .ref a :: rest)) := by
  have hc := nI_clamp (Nat.lt_trans hk hn)
  refine W.aald (v := .ref v) (ty := .array ty) hexec hb (hP q0 _ ha) ((hK.2 t0 _ ht).1 n (fun j => va_rf (f j))) rfl (fun q => by cases q) ?_ ?_ rfl rfl hdg kk
  · show ¬ (nI k < 0 ∨ (arrV _ _ _).slots.size ≤ _)
    rw [arrV_size]
    exact vp_in_nI hk hn
  · show (arrV _ _ _).slots[_]? = _
    rw [hc, arrV_read _ _ hk, hv]
    rfl
/-- fields of the class and of the reference -/
theorem x0_get (hexec : p.tables.exec = Jvm.exec) (hb : c.code = cc) {Ts : List Cond} (hts : ∀ w ∈ Ts, w.before args s = true) (hin : ∀ w ∈ wsX00, w ∈ Ts) (hown : s.vm.findClass RX0 = some m.cls) (hK : va_K D vwCl tys s) (hP : va_P D vwCl ws H) (q0 : Nat) {fs : List Value} (he : ws[q0]? = some (a, .inr (0, fs))) (k : Nat) (hk : k < 12) {index : Nat} (hlink : (Cond.fieldLink RX0 index "RopeTimes" (TX0 k).2.1 (TX0 k).2.2.1).before args s = true) {v : Value} (hv : fs[k]? = some v) (hdg : decode cc pc = .ok (.getfield index, 3))
    (hdc : (TX0 k).1 = "RopeTimes") (kk : W p l e R s m args below meth c H locs cells slots Q (F0 m (pc + 3) ls (v :: rest))) : W p l e R s m args below meth c H locs cells slots Q (F0 m pc ls (.ref a :: rest)) :=
  va_get (D := D) (ci := 0) (C := RX0) (T := TX0) (N := 12) hexec hb hts hin hown hK hP q0 he rfl k hk hlink (fun _ h9 => by rw [hdc] at h9; exact h9) hv hdg kk
theorem x1_get (hexec : p.tables.exec = Jvm.exec) (hb : c.code = cc) {Ts : List Cond} (hts : ∀ w ∈ Ts, w.before args s = true) (hin : ∀ w ∈ wsX10, w ∈ Ts) (hown : s.vm.findClass RX1 = some m.cls) (hK : va_K D vwCl tys s) (hP : va_P D vwCl ws H) (q0 : Nat) {fs : List Value} (he : ws[q0]? = some (a, .inr (1, fs))) (k : Nat) (hk : k < 4) {index : Nat} (hlink : (Cond.fieldLink RX1 index "RopeTimesModel" (TX1 k).2.1 (TX1 k).2.2.1).before args s = true) {v : Value} (hv : fs[k]? = some v) (hdg : decode cc pc = .ok (.getfield index, 3))
    (hdc : (TX1 k).1 = "RopeTimesModel") (kk : W p l e R s m args below meth c H locs cells slots Q (F0 m (pc + 3) ls (v :: rest))) : W p l e R s m args below meth c H locs cells slots Q (F0 m pc ls (.ref a :: rest)) :=
  va_get (D := D) (ci := 1) (C := RX1) (T := TX1) (N := 4) hexec hb hts hin hown hK hP q0 he rfl k hk hlink (fun _ h9 => by rw [hdc] at h9; exact h9) hv hdg kk
theorem x0_put (hexec : p.tables.exec = Jvm.exec) (hb : c.code = cc) {Ts : List Cond} (hts : ∀ w ∈ Ts, w.before args s = true) (hin : ∀ w ∈ wsX00, w ∈ Ts) (hown : s.vm.findClass RX0 = some m.cls) (hK : va_K D vwCl tys s) (hP : va_P D vwCl ws H) (hD : va_D A ws) (hS : va_S A H0 H locs) (q0 : Nat) (ws' : va_W) {fs : List Value} (he : ws[q0]? = some (a, .inr (0, fs))) (k : Nat) (hk : k < 12) {index : Nat} (hlink : (Cond.fieldLink RX0 index "RopeTimes" (TX0 k).2.1 (TX0 k).2.2.1).before args s = true) (hfin : (TX0 k).2.2.2 = false) {x : Int32} (hd : parseFieldDescriptor (TX0 k).2.2.1 = some .int) (hl : k < fs.length) (hw : ws.set q0 (a, .inr (0, fs.set k (.int x))) = ws') (hdg : decode cc pc = .ok (.putfield index, 3))
    (hdc : (TX0 k).1 = "RopeTimes") (kk : ∀ (H1 : Heap) (locs1 : List Loc), va_P D vwCl ws' H1 → va_D A ws' → va_S A H0 H1 locs1 → W p l e R s m args below meth c H1 locs1 cells slots Q (F0 m (pc + 3) ls rest)) : W p l e R s m args below meth c H locs cells slots Q (F0 m pc ls (.int x :: .ref a :: rest)) := by
  subst hw
  exact va_put (D := D) (ci := 0) (C := RX0) (T := TX0) (N := 12) hexec hb hts hin tyX0 tyX0_ok nmX0 hown hK hP hD hS q0 he rfl k hk hlink (fun _ h9 => by rw [hdc] at h9; exact h9) hfin hd rfl rfl hl hdg kk
theorem x1_put (hexec : p.tables.exec = Jvm.exec) (hb : c.code = cc) {Ts : List Cond} (hts : ∀ w ∈ Ts, w.before args s = true) (hin : ∀ w ∈ wsX10, w ∈ Ts) (hown : s.vm.findClass RX1 = some m.cls) (hK : va_K D vwCl tys s) (hP : va_P D vwCl ws H) (hD : va_D A ws) (hS : va_S A H0 H locs) (q0 : Nat) (ws' : va_W) {fs : List Value} (he : ws[q0]? = some (a, .inr (1, fs))) (k : Nat) (hk : k < 4) {index : Nat} (hlink : (Cond.fieldLink RX1 index "RopeTimesModel" (TX1 k).2.1 (TX1 k).2.2.1).before args s = true) (hfin : (TX1 k).2.2.2 = false) {x : Int32} (hd : parseFieldDescriptor (TX1 k).2.2.1 = some .int) (hl : k < fs.length) (hw : ws.set q0 (a, .inr (1, fs.set k (.int x))) = ws') (hdg : decode cc pc = .ok (.putfield index, 3))
    (hdc : (TX1 k).1 = "RopeTimesModel") (kk : ∀ (H1 : Heap) (locs1 : List Loc), va_P D vwCl ws' H1 → va_D A ws' → va_S A H0 H1 locs1 → W p l e R s m args below meth c H1 locs1 cells slots Q (F0 m (pc + 3) ls rest)) : W p l e R s m args below meth c H locs cells slots Q (F0 m pc ls (.int x :: .ref a :: rest)) := by
  subst hw
  exact va_put (D := D) (ci := 1) (C := RX1) (T := TX1) (N := 4) hexec hb hts hin tyX1 tyX1_ok nmX1 hown hK hP hD hS q0 he rfl k hk hlink (fun _ h9 => by rw [hdc] at h9; exact h9) hfin hd rfl rfl hl hdg kk
/-- ends of a reading method -/
theorem x_iret {r : Int32} (hexec : p.tables.exec = Jvm.exec) (hb : c.code = cc) (hr : meth.sig.returnType = some .int) (hlocks : meth.locks = false) {v : Int32} (hv : v = r) (hdg : decode cc pc = .ok (.ireturn, 1)) : W p l e R s m args below meth c s.heap [] cells slots (MQ below (xQr (.int r)) args s cells slots (fun _ => False)) (F0 m pc ls [.int v]) := by
  subst hv
  exact W.iret hexec hb hr (fun t ht _ => ⟨rfl, ht⟩) (fun _ h => nomatch h) hdg hlocks
theorem x_zret {b : Bool} (hexec : p.tables.exec = Jvm.exec) (hb : c.code = cc) (hr : meth.sig.returnType = some .boolean) (hlocks : meth.locks = false) {v : Int32} (hv : v = bI b) (hdg : decode cc pc = .ok (.ireturn, 1)) : W p l e R s m args below meth c s.heap [] cells slots (MQ below (xQr (.int (bI b))) args s cells slots (fun _ => False)) (F0 m pc ls [.int v]) := by
  subst hv
  exact W.zret hexec hb hr (x_narB b) (fun t ht _ => ⟨rfl, ht⟩) (fun _ h => nomatch h) hdg hlocks
theorem x_lret {r : Int64} (hexec : p.tables.exec = Jvm.exec) (hb : c.code = cc) (hr : meth.sig.returnType = some .long) (hlocks : meth.locks = false) {v : Int64} (hv : v = r) (hdg : decode cc pc = .ok (.lreturn, 1)) : W p l e R s m args below meth c s.heap [] cells slots (MQ below (xQr (.long r)) args s cells slots (fun _ => False)) (F0 m pc ls [.long v]) := by
  subst hv
  exact W.lret hexec hb hr (fun t ht _ => ⟨rfl, ht⟩) (fun _ h => nomatch h) hdg hlocks
/-- ends of a changing method -/
theorem xm_end {S : Type} {pu : S → Prop} {r : S → Option Value} {wc : va_W} {w1 : S → va_W} {sz : Nat} {o : Option Value} (u : S) (hsz : s.heap.size = sz) (hu : pu u) (ho : o = r u) (hP : va_P D vwCl (w1 u) H) (hD : va_D (va_A wc sz) (w1 u)) (hS : va_S (va_A wc sz) s.heap H locs) : (∀ t : State, t.heap = H → s.WarmedH t.vm → xQm D pu r wc w1 sz args s (.returned o) t) ∧ ∀ q ∈ locs, va_A wc sz q.base :=
  ⟨fun t ht _ => ⟨u, hu, by rw [ho], by rw [ht]; exact hP, hD, hS.F ht⟩, hS.2.2⟩
/-- calls of a reading method -/
theorem xr_fin {r : Value} {aa : Array Value} (hr : va_Run p l e R s m args below meth c H locs cells slots 0 0 (F0 m pc ls st0) rest (xQr r aa) (fun _ => False)) (kk : W p l e R s m args below meth c H locs cells slots Q (F0 m (pc + 3) ls (r :: rest))) : W p l e R s m args below meth c H locs cells slots Q (F0 m pc ls st0) := by
  intro T hT X
  obtain ⟨v, st₀, t, T', L, h0, X', hL, e1, e2, ⟨hv, hh⟩, st⟩ := hr T hT X
  cases hv
  obtain ⟨t2, a1, b1⟩ := kk T' (by rw [e1, hh, h0]) (Stand.forget X' (fun q h => (hL q h).elim))
  exact ⟨t2, st t2 a1, b1⟩
theorem xRo_blind (tys : List (ClassId × FieldType)) (av : List Value) (wc : va_W) : FrameBlind (xRo D tys av wc) := fun aa U g mk q => ⟨q.1, q.2.1, va_K.moved (u := U) (U := U.calling g mk aa) (Vm.Alike.refl U.vm) q.2.2⟩
section Calls
variable {y : MethodName} {bytes : ByteArray} {maxL nL mc ms n index : Nat} {ret : Option FieldType} {wsy : List Cond} {rm : Room} {Ts : List Cond} {own C : String} {b : Addr} {As : List Value} {wc : va_W}
theorem xr_V {r : Value} (S : CallFix p m c cc nL s args Ts own) (hM : Met l y wsy rm (xRo D tys (.ref b :: As) wc) (xQr r) 0 0 (fun _ => False)) (cw : CallW R s args own C index y bytes maxL ret wsy rm 0 0 n)
    (hK : va_K D vwCl tys s) (hP : va_P D vwCl ws H) (hrec : ∃ cellB : Cell, H[b]? = some cellB ∧ cellB.vm.isStatics = false ∧ s.vm.findClass C = some cellB.cls) (is : List Nat) (hs : is.filterMap (fun i => ws[i]?) = wc)
    (hn : As.length = n) (hsize : ls.size = nL) (hstack : st0 = As.reverse ++ .ref b :: rest) (hW : (rest.map fun v => v.category).sum ≤ 8) (hdg : decode cc pc = .ok (.invokevirtual index, 3)) (hc : cells ≤ R.cells ∧ slots ≤ R.slots)
    (kk : W p l e R s m args below meth c H locs cells slots Q (F0 m (pc + 3) ls (r :: rest))) : W p l e R s m args below meth c H locs cells slots Q (F0 m pc ls st0) := by
  subst hstack
  have hPc := hP.sub (ws' := wc) is hs
  exact xr_fin (va_runV S hM cw ⟨xRo_blind _ _ _, hrec, fun U hU hW => ⟨rfl, by rw [hU]; exact hPc, va_K.moved hW.alike hK⟩⟩ rfl hn hsize rfl (lv_room hW) hdg hc) kk
theorem xr_S {r : Value} (S : CallFix p m c cc nL s args Ts own) (hM : Met l y wsy rm (xRo D tys As wc) (xQr r) 0 0 (fun _ => False)) (cw : CallB R s args own index y bytes maxL ret wsy rm 0 0 n ∧ (Cond.static y).before args s = true)
    (hK : va_K D vwCl tys s) (hP : va_P D vwCl ws H) (is : List Nat) (hs : is.filterMap (fun i => ws[i]?) = wc)
    (hn : As.length = n) (hsize : ls.size = nL) (hstack : st0 = As.reverse ++ rest) (hW : (rest.map fun v => v.category).sum ≤ 8) (hdg : decode cc pc = .ok (.invokestatic index, 3)) (hc : cells ≤ R.cells ∧ slots ≤ R.slots)
    (kk : W p l e R s m args below meth c H locs cells slots Q (F0 m (pc + 3) ls (r :: rest))) : W p l e R s m args below meth c H locs cells slots Q (F0 m pc ls st0) := by
  subst hstack
  have hPc := hP.sub (ws' := wc) is hs
  exact xr_fin (va_runS S hM cw ⟨xRo_blind _ _ _, fun U hU hW => ⟨rfl, by rw [hU]; exact hPc, va_K.moved hW.alike hK⟩⟩ rfl hn hsize rfl (lv_room hW) hdg hc) kk
/-- calls of a changing method -/
theorem xMu_blind {X : State → Prop} (hX : xTrav X) (tys : List (ClassId × FieldType)) (av : List Value) (wc : va_W) (sz : Nat) : FrameBlind (xMu D tys X av wc sz) := fun aa U g mk q => ⟨q.1, q.2.1, q.2.2.1, va_K.moved (u := U) (U := U.calling g mk aa) (Vm.Alike.refl U.vm) q.2.2.2.1, q.2.2.2.2.1, hX U (U.calling g mk aa) rfl rfl q.2.2.2.2.2⟩
theorem xm_fin {S : Type} {pu : S → Prop} {r : S → Option Value} {w1 : S → va_W} {wr : va_W} {aa : Array Value} (hr : va_Run p l e R s m args below meth c H locs cells slots mc ms (F0 m pc ls st0) rest (xQm D pu r wc w1 H.size aa) (va_A wc H.size))
    (hP : va_P D vwCl ws H) (hD : va_D A0 ws) (hS : va_S A0 H0 H locs) (hA : ∀ q, H0.size ≤ q → A0 q) (isC isR : List Nat) (hC : isC.map (fun i => ws[i]?) = wc.map some) (hR : isR.map (fun i => ws[i]?) = wr.map some) (hn : va_nd isR = true) (hdis : ∀ i ∈ isR, i ∉ isC)
    (kk : ∀ (u : S) (H1 : Heap) (locs1 : List Loc), pu u → va_P D vwCl (wr ++ w1 u) H1 → va_D A0 (wr ++ w1 u) → va_S A0 H0 H1 locs1 → H.size ≤ H1.size → W p l e R s m args below meth c H1 locs1 (cells + mc) (slots + ms) Q (F0 m (pc + 3) ls ((r u).toList ++ rest))) : W p l e R s m args below meth c H locs cells slots Q (F0 m pc ls st0) := by
  have hF := va_free (wc := wc) hD hS hA isC hC
  intro T hT X
  obtain ⟨v, st₀, t, T', L, h0, X', hL, e1, e2, ⟨u, hu, hv, hP1, hD1, hz, hk⟩, st⟩ := hr T hT X
  cases hv
  rw [h0] at hz hk
  obtain ⟨hP2, hD2⟩ := va_join (wr := wr) (w1 := w1 u) hP hD isC isR hC hR hn hdis (fun q h1 h2 => hk q h1 h2) hF hP1 hD1
  obtain ⟨t2, a1, b1⟩ := kk u T'.heap (locs ++ L) hu (by rw [e1]; exact hP2) hD2
    ⟨Nat.le_trans hS.1 (by rw [e1]; exact hz), fun q h1 h2 => by rw [e1, hk q (Nat.lt_of_lt_of_le h1 hS.1) (fun z => h2 (hF q z))]; exact hS.2.1 q h1 h2, fun q hq => by
      rcases List.mem_append.mp hq with h | h
      · exact hS.2.2 q h
      · exact hF _ (hL q h)⟩ (by rw [e1]; exact hz) T' rfl X'
  exact ⟨t2, st t2 a1, b1⟩
theorem xm_V {S : Type} {pu : S → Prop} {r : S → Option Value} {w1 : S → va_W} {wr : va_W} {X : State → Prop} (SF : CallFix p m c cc nL s args Ts own) (hX : xTrav X) (hM : Met l y wsy rm (xMu D tys X (.ref b :: As) wc H.size) (xQm D pu r wc w1 H.size) mc ms (va_A wc H.size)) (cw : CallW R s args own C index y bytes maxL ret wsy rm mc ms n)
    (hK : va_K D vwCl tys s) (hP : va_P D vwCl ws H) (hD : va_D A0 ws) (hS : va_S A0 H0 H locs) (hA : ∀ q, H0.size ≤ q → A0 q) (hXs : ∀ U : State, s.WarmedH U.vm → U.heap = H → X U) (hrec : ∃ cellB : Cell, H[b]? = some cellB ∧ cellB.vm.isStatics = false ∧ s.vm.findClass C = some cellB.cls)
    (isC isR : List Nat) (hC : isC.map (fun i => ws[i]?) = wc.map some) (hR : isR.map (fun i => ws[i]?) = wr.map some) (hnC : va_nd isC = true) (hnR : va_nd isR = true) (hdis : ∀ i ∈ isR, i ∉ isC)
    (hn : As.length = n) (hsize : ls.size = nL) (hstack : st0 = As.reverse ++ .ref b :: rest) (hW : (rest.map fun v => v.category).sum ≤ 8) (hdg : decode cc pc = .ok (.invokevirtual index, 3)) (hc : cells + mc ≤ R.cells ∧ slots + ms ≤ R.slots)
    (kk : ∀ (u : S) (H1 : Heap) (locs1 : List Loc), pu u → va_P D vwCl (wr ++ w1 u) H1 → va_D A0 (wr ++ w1 u) → va_S A0 H0 H1 locs1 → H.size ≤ H1.size → W p l e R s m args below meth c H1 locs1 (cells + mc) (slots + ms) Q (F0 m (pc + 3) ls ((r u).toList ++ rest))) : W p l e R s m args below meth c H locs cells slots Q (F0 m pc ls st0) := by
  subst hstack
  have hPc : va_P D vwCl wc H := hP.sub isC (by
    have h := congrArg (fun l => l.filterMap id) hC
    simpa [List.filterMap_map] using h)
  have hDc := hD.sub isC hnC hC
  exact xm_fin (va_runV SF hM cw ⟨xMu_blind hX _ _ _ _, hrec, fun U hU hW => ⟨rfl, by rw [hU], by rw [hU]; exact hPc, va_K.moved hW.alike hK, hDc.weaken (fun _ _ _ _ => trivial), hXs U hW hU⟩⟩ rfl hn hsize rfl (lv_room hW) hdg hc) hP hD hS hA isC isR hC hR hnR hdis kk
end Calls
end XR
end
section
/-! what the methods compute: the loops as functions -/
abbrev xTy (t : Nat → ClassId) : List (ClassId × FieldType) := [(t 0, .int), (t 1, .boolean), (t 2, .long), (t 3, .array .int)]
theorem xTrav_T : xTrav (fun _ => True) := fun _ _ _ _ h => h
theorem x_inc (i : Nat) : nI i + Int32.ofInt 1 = nI (i + 1) := nI_1 i
theorem x_inc4 (i : Nat) : nI i + Int32.ofInt 4 = nI (i + 4) := nI_add i 4
def lastF (E : Nat → Int32) : Nat → Nat → Int32 → Int32
  | 0, _, mx => mx
  | n + 1, i, mx => lastF E n (i + 1) (mxI mx (E i))
def aheadF (E : Nat → Int32) (t : Nat) : Nat → Nat → Nat → Nat
  | 0, _, ah => ah
  | n + 1, i, ah => aheadF E t n (i + 1) (if E i < E t ∨ (E i = E t ∧ i < t) then ah + 1 else ah)
def countF (P : Nat → Bool) : Nat → Nat → Nat → Nat
  | 0, _, k => k
  | n + 1, i, k => countF P n (i + 1) (if P i = true then k + 1 else k)
def tightB (ro : Int32) (E : Nat → Int32) (F T : Nat → Nat) (L : Nat → Int32) (Z : Nat → Bool) (r : Nat) : Bool := decide (¬ ro = -1) && (Z r && decide (E (T r) = E (F r) + L r))
def leastF (B : Nat → Int32) (a b : Nat) : Int32 := if B (b * 12 + a) = 99999 then -99 else mxI (-99) (-(B (b * 12 + a)))
theorem countF_le (P : Nat → Bool) : ∀ n i k, countF P n i k ≤ k + n
  | 0, _, k => Nat.le_refl k
  | n + 1, i, k => by
    have h := countF_le P n (i + 1) (if P i = true then k + 1 else k)
    show countF P n (i + 1) _ ≤ _
    split at h <;> split <;> simp_all <;> omega
end
section
theorem hd_X0_isPossible : yX0_isPossible.cls = RX0 ∧ yX0_isPossible.cls ≠ "java/lang/invoke/MethodHandle" ∧ yX0_isPossible.cls ≠ "java/lang/invoke/VarHandle" ∧ (parseMethodDescriptor yX0_isPossible.desc).map (fun d => d.parameters.length) = some 0 := by decide +kernel
theorem hd_X0_boundFrom : yX0_boundFrom.cls = RX0 ∧ yX0_boundFrom.cls ≠ "java/lang/invoke/MethodHandle" ∧ yX0_boundFrom.cls ≠ "java/lang/invoke/VarHandle" ∧ (parseMethodDescriptor yX0_boundFrom.desc).map (fun d => d.parameters.length) = some 2 := by decide +kernel
theorem hd_X0_lastOf : yX0_lastOf.cls = RX0 ∧ yX0_lastOf.cls ≠ "java/lang/invoke/MethodHandle" ∧ yX0_lastOf.cls ≠ "java/lang/invoke/VarHandle" ∧ (parseMethodDescriptor yX0_lastOf.desc).map (fun d => d.parameters.length) = some 1 := by decide +kernel
theorem hd_X0_turnsAheadOf : yX0_turnsAheadOf.cls = RX0 ∧ yX0_turnsAheadOf.cls ≠ "java/lang/invoke/MethodHandle" ∧ yX0_turnsAheadOf.cls ≠ "java/lang/invoke/VarHandle" ∧ (parseMethodDescriptor yX0_turnsAheadOf.desc).map (fun d => d.parameters.length) = some 1 := by decide +kernel
theorem hd_X0_tiedRopes : yX0_tiedRopes.cls = RX0 ∧ yX0_tiedRopes.cls ≠ "java/lang/invoke/MethodHandle" ∧ yX0_tiedRopes.cls ≠ "java/lang/invoke/VarHandle" ∧ (parseMethodDescriptor yX0_tiedRopes.desc).map (fun d => d.parameters.length) = some 0 := by decide +kernel
theorem hd_X0_tiedEndsAt : yX0_tiedEndsAt.cls = RX0 ∧ yX0_tiedEndsAt.cls ≠ "java/lang/invoke/MethodHandle" ∧ yX0_tiedEndsAt.cls ≠ "java/lang/invoke/VarHandle" ∧ (parseMethodDescriptor yX0_tiedEndsAt.desc).map (fun d => d.parameters.length) = some 2 := by decide +kernel
theorem hd_X0_isTight : yX0_isTight.cls = RX0 ∧ yX0_isTight.cls ≠ "java/lang/invoke/MethodHandle" ∧ yX0_isTight.cls ≠ "java/lang/invoke/VarHandle" ∧ (parseMethodDescriptor yX0_isTight.desc).map (fun d => d.parameters.length) = some 1 := by decide +kernel
theorem hd_X0_tightRopes : yX0_tightRopes.cls = RX0 ∧ yX0_tightRopes.cls ≠ "java/lang/invoke/MethodHandle" ∧ yX0_tightRopes.cls ≠ "java/lang/invoke/VarHandle" ∧ (parseMethodDescriptor yX0_tightRopes.desc).map (fun d => d.parameters.length) = some 0 := by decide +kernel
theorem hd_X0_leastLength : yX0_leastLength.cls = RX0 ∧ yX0_leastLength.cls ≠ "java/lang/invoke/MethodHandle" ∧ yX0_leastLength.cls ≠ "java/lang/invoke/VarHandle" ∧ (parseMethodDescriptor yX0_leastLength.desc).map (fun d => d.parameters.length) = some 2 := by decide +kernel
set_option maxHeartbeats 4000000 in
set_option maxRecDepth 100000 in
theorem c_X0_isPossible (l : Launch) (D : va_G) (t : Nat → ClassId) (a : Nat → Nat) (tc rc : Nat) (ro : Int32) : Met l yX0_isPossible wsX0_isPossible ({ frames := 0, cells := 0, slots := 0, locals := 0 }) (xRo D (xTy t) [.ref (a 0)] [xObj a tc rc ro]) (xQr (.int (bI (decide (¬ ro = -1))))) 0 0 (fun _ => False) := by
  refine Met.ofW (cc := cX0_isPossible) (maxL := 1) (ret := (some .boolean)) (by decide) rfl ?_
  intro p e s m args below meth c s₁ hB9 hml hv
  obtain ⟨rfl, hP, hK⟩ := hv
  have hx := hB9.exec
  have hb := hB9.bytes
  have hr := hB9.returns
  have hts := atoms_spec (ws := wsX0_isPossible) hB9.pre
  have hown : s.vm.findClass RX0 = some m.cls := findClass_of_methodNamed hB9.named
  have hlocks := hB9.notSynchronized
  have hin : ∀ w ∈ wsX00, w ∈ wsX0_isPossible := fun _ h => List.mem_cons_of_mem _ (List.mem_append_right _ h)
  have fl_94 := hts (.fieldLink RX0 94 "RopeTimes" "rounds" "I") (by decide +kernel)
  have hl := lv_entry ([.ref (a 0)]) (n := 1) (Nat.le_of_ble_eq_true rfl)
  rw [lg_entry_eq]
  generalize (lg_sl ([.ref (a 0)]) ++ List.replicate (1 - (lg_sl ([.ref (a 0)])).length) Slot.unset).toArray = ls at hl ⊢
  have hl : lv_has ls 1 [(0, .ref (a 0))] := hl
  refine lv_aload_n hx hb dX0_isPossible_0 rfl (lv_at hl 0 rfl) ?_
  refine x0_get (v := .int ro) hx hb hts hin hown hK hP 0 rfl 6 (by decide) fl_94 rfl dX0_isPossible_1 rfl ?_
  refine lv_iconst (v := (-1)) hx hb dX0_isPossible_4 (by decide) ?_
  refine lv_icmp_eq (x := ro) (y := (-1)) (tgt := 12) hx hb dX0_isPossible_5 (by decide) (fun c_1 => ?_) (fun c_1 => ?_)
  · refine lv_iconst (v := 0) hx hb dX0_isPossible_12 (by decide) ?_
    exact x_zret (v := 0) hx hb hr hlocks (by simp [bI, c_1]) dX0_isPossible_13
  · refine lv_iconst (v := 1) hx hb dX0_isPossible_8 (by decide) ?_
    refine lv_goto (tgt := 13) hx hb dX0_isPossible_9 (by decide) ?_
    exact x_zret (v := 1) hx hb hr hlocks (by simp [bI, c_1]) dX0_isPossible_13
set_option maxHeartbeats 4000000 in
set_option maxRecDepth 100000 in
theorem c_X0_boundFrom (l : Launch) (D : va_G) (t : Nat → ClassId) (a : Nat → Nat) (tc rc : Nat) (ro : Int32) (B : Nat → Int32) (i j : Nat) (hi : i < 12) (hj : j < 12) : Met l yX0_boundFrom wsX0_boundFrom ({ frames := 0, cells := 0, slots := 0, locals := 0 }) (xRo D (xTy t) [.ref (a 0), .int (nI i), .int (nI j)] [xObj a tc rc ro, xArr (t 0) (a 6) 144 B]) (xQr (.int (B (i * 12 + j)))) 0 0 (fun _ => False) := by
  refine Met.ofW (cc := cX0_boundFrom) (maxL := 3) (ret := (some .int)) (by decide) rfl ?_
  intro p e s m args below meth c s₁ hB9 hml hv
  obtain ⟨rfl, hP, hK⟩ := hv
  have hx := hB9.exec
  have hb := hB9.bytes
  have hr := hB9.returns
  have hts := atoms_spec (ws := wsX0_boundFrom) hB9.pre
  have hown : s.vm.findClass RX0 = some m.cls := findClass_of_methodNamed hB9.named
  have hlocks := hB9.notSynchronized
  have hin : ∀ w ∈ wsX00, w ∈ wsX0_boundFrom := fun _ h => List.mem_cons_of_mem _ (List.mem_append_right _ h)
  have fl_26 := hts (.fieldLink RX0 26 "RopeTimes" "bound" "[I") (by decide +kernel)
  have hl := lv_entry ([.ref (a 0), .int (nI i), .int (nI j)]) (n := 3) (Nat.le_of_ble_eq_true rfl)
  rw [lg_entry_eq]
  generalize (lg_sl ([.ref (a 0), .int (nI i), .int (nI j)]) ++ List.replicate (3 - (lg_sl ([.ref (a 0), .int (nI i), .int (nI j)])).length) Slot.unset).toArray = ls at hl ⊢
  have hl : lv_has ls 3 [(0, .ref (a 0)), (1, .int (nI i)), (2, .int (nI j))] := hl
  refine lv_aload_n hx hb dX0_boundFrom_0 rfl (lv_at hl 0 rfl) ?_
  refine x0_get (v := .ref (a 6)) hx hb hts hin hown hK hP 0 rfl 8 (by decide) fl_26 rfl dX0_boundFrom_1 rfl ?_
  refine lv_iload_n hx hb dX0_boundFrom_4 rfl (lv_at hl 1 rfl) ?_
  refine lv_bipush (v := 12) hx hb dX0_boundFrom_5 (by decide) ?_
  refine lv_imul (x := nI i) (y := 12) hx hb dX0_boundFrom_7 ?_
  refine x_top (w := nI (i * 12)) (pk_mul i 12) ?_
  refine lv_iload_n hx hb dX0_boundFrom_8 rfl (lv_at hl 2 rfl) ?_
  refine lv_iadd (x := nI (i * 12)) (y := nI j) hx hb dX0_boundFrom_9 ?_
  refine x_top (w := nI (i * 12 + j)) (nI_add (i * 12) j) ?_
  refine x_iald (f := B) hx hb hK hP 1 0 rfl rfl (k := i * 12 + j) (by omega) (Nat.le_of_ble_eq_true rfl) dX0_boundFrom_10 ?_
  exact x_iret (v := B (i * 12 + j)) hx hb hr hlocks rfl dX0_boundFrom_11
set_option maxHeartbeats 4000000 in
set_option maxRecDepth 100000 in
theorem c_X0_lastOf (l : Launch) (D : va_G) (t : Nat → ClassId) (a : Nat → Nat) (tc rc : Nat) (ro : Int32) (q : Nat) (E : Nat → Int32) (htc : tc ≤ 12) : Met l yX0_lastOf wsX0_lastOf ({ frames := 1, cells := 0, slots := 0, locals := 21 }) (xRo D (xTy t) [.ref (a 0), .ref q] [xObj a tc rc ro, xArr (t 0) q 12 E]) (xQr (.int (lastF E tc 0 0))) 0 0 (fun _ => False) := by
  refine Met.ofW (cc := cX0_lastOf) (maxL := 4) (ret := (some .int)) (by decide) rfl ?_
  intro p e s m args below meth c s₁ hB9 hml hv
  obtain ⟨rfl, hP, hK⟩ := hv
  have hx := hB9.exec
  have hb := hB9.bytes
  have hr := hB9.returns
  have hts := atoms_spec (ws := wsX0_lastOf) hB9.pre
  have hown : s.vm.findClass RX0 = some m.cls := findClass_of_methodNamed hB9.named
  have hlocks := hB9.notSynchronized
  have hin : ∀ w ∈ wsX00, w ∈ wsX0_lastOf := fun _ h => List.mem_cons_of_mem _ (List.mem_append_right _ h)
  have fl_41 := hts (.fieldLink RX0 41 "RopeTimes" "turnCount" "I") (by decide +kernel)
  have ml_180 := hts (.methodLink RX0 180 Lib.Math.max.name) (by decide +kernel)
  have ms_max := hts (.static Lib.Math.max.name) (by decide +kernel)
  have mc_max := hts (.code Lib.Math.max.name Lib.Math.max.code 2 (some .int)) (by decide +kernel)
  have mi_Math := hts (.initialized "java/lang/Math") (by decide +kernel)
  have hl := lv_entry ([.ref (a 0), .ref q]) (n := 4) (Nat.le_of_ble_eq_true rfl)
  rw [lg_entry_eq]
  generalize (lg_sl ([.ref (a 0), .ref q]) ++ List.replicate (4 - (lg_sl ([.ref (a 0), .ref q])).length) Slot.unset).toArray = ls at hl ⊢
  have hl : lv_has ls 4 [(0, .ref (a 0)), (1, .ref q)] := hl
  refine lv_iconst (v := 0) hx hb dX0_lastOf_0 (by decide) ?_
  refine lv_istore_n (lv' := [(2, .int 0), (0, .ref (a 0)), (1, .ref q)]) hx hb dX0_lastOf_1 rfl hl (by decide) rfl (fun ls hl => ?_)
  refine lv_iconst (v := 0) hx hb dX0_lastOf_2 (by decide) ?_
  refine lv_istore_n (lv' := [(3, .int 0), (2, .int 0), (0, .ref (a 0)), (1, .ref q)]) hx hb dX0_lastOf_3 rfl hl (by decide) rfl (fun ls hl => ?_)
  have lp_4 : ∀ (n4 : Nat) (i : Nat) (mx : Int32), i + n4 = tc → lastF E n4 i mx = lastF E tc 0 0 → ∀ ls : Array Slot, lv_has ls 4 [(3, .int (nI i)), (2, .int mx), (0, .ref (a 0)), (1, .ref q)] → W p l e (headSpec wsX0_lastOf ({ frames := 1, cells := 0, slots := 0, locals := 21 } : Jvm.Room)).room s m (([.ref (a 0), .ref q] : List Value).toArray) below meth c s.heap [] 0 0 (MQ below (xQr (.int (lastF E tc 0 0))) (([.ref (a 0), .ref q] : List Value).toArray) s 0 0 (fun _ => False)) (F0 m 4 ls []) := by
    intro n4
    induction n4 using Nat.strongRecOn with
    | _ n4 ih_4 =>
      intro i mx hm_4 hfin_4 ls hl
      refine lv_iload_n hx hb dX0_lastOf_4 rfl (lv_at hl 0 rfl) ?_
      refine lv_aload_n hx hb dX0_lastOf_5 rfl (lv_at hl 2 rfl) ?_
      refine x0_get (v := .int (nI tc)) hx hb hts hin hown hK hP 0 rfl 0 (by decide) fl_41 rfl dX0_lastOf_6 rfl ?_
      refine lv_icmp_ge (x := nI i) (y := nI tc) (tgt := 26) hx hb dX0_lastOf_9 (by decide) (fun c_1 => ?_) (fun c_1 => ?_)
      · have c_1 := (nI_leI (a := tc) (b := i) (by omega) (by omega)).mp c_1
        have hn0_4 : n4 = 0 := by omega
        subst hn0_4
        obtain rfl : mx = lastF E tc 0 0 := hfin_4
        refine lv_iload_n hx hb dX0_lastOf_26 rfl (lv_at hl 1 rfl) ?_
        exact x_iret (v := lastF E tc 0 0) hx hb hr hlocks rfl dX0_lastOf_27
      · have c_1 : i < tc := Nat.lt_of_not_le (fun z9 => c_1 ((nI_leI (a := tc) (b := i) (by omega) (by omega)).mpr z9))
        obtain ⟨n49, rfl⟩ : ∃ z, n4 = z + 1 := ⟨n4 - 1, by omega⟩
        refine lv_iload_n hx hb dX0_lastOf_12 rfl (lv_at hl 1 rfl) ?_
        refine lv_aload_n hx hb dX0_lastOf_13 rfl (lv_at hl 3 rfl) ?_
        refine lv_iload_n hx hb dX0_lastOf_14 rfl (lv_at hl 0 rfl) ?_
        refine x_iald (f := E) hx hb hK hP 1 0 rfl rfl (k := i) (by omega) (Nat.le_of_ble_eq_true rfl) dX0_lastOf_15 ?_
        refine va_mmax (x := mx) (y := E i) hx hb (hml.trans hl.1.symm) hown ml_180 ms_max mi_Math mc_max (Nat.le_of_ble_eq_true rfl) (Nat.le_of_ble_eq_true rfl) (Nat.le_of_ble_eq_true rfl) (Nat.le_of_ble_eq_true rfl) dX0_lastOf_16 ?_
        refine x_top (w := mxI mx (E i)) rfl ?_
        refine lv_istore_n (lv' := [(2, .int (mxI mx (E i))), (3, .int (nI i)), (0, .ref (a 0)), (1, .ref q)]) hx hb dX0_lastOf_19 rfl hl (by decide) rfl (fun ls hl => ?_)
        refine lv_iinc (v := nI (i + 1)) (lv' := [(3, .int (nI (i + 1))), (2, .int (mxI mx (E i))), (0, .ref (a 0)), (1, .ref q)]) hx hb dX0_lastOf_20 hl (k := 1) rfl (x_inc _) (by decide) rfl (fun ls hl => ?_)
        refine lv_goto (tgt := 4) hx hb dX0_lastOf_23 (by decide) ?_
        exact ih_4 n49 (by omega) (i + 1) (mxI mx (E i)) (by omega) (by rw [← hfin_4]; simp only [lastF, c_1]; first | rfl | done) _ (lv_sub hl [0, 1, 2, 3] rfl)
  exact lp_4 tc 0 0 (by omega) rfl _ (lv_sub hl [0, 1, 2, 3] rfl)
set_option maxHeartbeats 4000000 in
set_option maxRecDepth 100000 in
theorem c_X0_turnsAheadOf (l : Launch) (D : va_G) (t : Nat → ClassId) (a : Nat → Nat) (tc rc : Nat) (ro : Int32) (E : Nat → Int32) (w : Nat) (htc : tc ≤ 12) (hw : w < tc) : Met l yX0_turnsAheadOf wsX0_turnsAheadOf ({ frames := 0, cells := 0, slots := 0, locals := 0 }) (xRo D (xTy t) [.ref (a 0), .int (nI w)] [xObj a tc rc ro, xArr (t 0) (a 5) 12 E]) (xQr (.int (nI (aheadF E w tc 0 0)))) 0 0 (fun _ => False) := by
  refine Met.ofW (cc := cX0_turnsAheadOf) (maxL := 5) (ret := (some .int)) (by decide) rfl ?_
  intro p e s m args below meth c s₁ hB9 hml hv
  obtain ⟨rfl, hP, hK⟩ := hv
  have hx := hB9.exec
  have hb := hB9.bytes
  have hr := hB9.returns
  have hts := atoms_spec (ws := wsX0_turnsAheadOf) hB9.pre
  have hown : s.vm.findClass RX0 = some m.cls := findClass_of_methodNamed hB9.named
  have hlocks := hB9.notSynchronized
  have hin : ∀ w ∈ wsX00, w ∈ wsX0_turnsAheadOf := fun _ h => List.mem_cons_of_mem _ (List.mem_append_right _ h)
  have fl_41 := hts (.fieldLink RX0 41 "RopeTimes" "turnCount" "I") (by decide +kernel)
  have fl_23 := hts (.fieldLink RX0 23 "RopeTimes" "earliest" "[I") (by decide +kernel)
  have hl := lv_entry ([.ref (a 0), .int (nI w)]) (n := 5) (Nat.le_of_ble_eq_true rfl)
  rw [lg_entry_eq]
  generalize (lg_sl ([.ref (a 0), .int (nI w)]) ++ List.replicate (5 - (lg_sl ([.ref (a 0), .int (nI w)])).length) Slot.unset).toArray = ls at hl ⊢
  have hl : lv_has ls 5 [(0, .ref (a 0)), (1, .int (nI w))] := hl
  refine lv_iconst (v := 0) hx hb dX0_turnsAheadOf_0 (by decide) ?_
  refine lv_istore_n (lv' := [(2, .int 0), (0, .ref (a 0)), (1, .int (nI w))]) hx hb dX0_turnsAheadOf_1 rfl hl (by decide) rfl (fun ls hl => ?_)
  refine lv_iconst (v := 0) hx hb dX0_turnsAheadOf_2 (by decide) ?_
  refine lv_istore_n (lv' := [(3, .int 0), (2, .int 0), (0, .ref (a 0)), (1, .int (nI w))]) hx hb dX0_turnsAheadOf_3 rfl hl (by decide) rfl (fun ls hl => ?_)
  have lp_4 : ∀ (n4 : Nat) (i : Nat) (ah : Nat), i + n4 = tc → aheadF E w n4 i ah = aheadF E w tc 0 0 → ∀ ls : Array Slot, lv_has ls 5 [(3, .int (nI i)), (2, .int (nI ah)), (0, .ref (a 0)), (1, .int (nI w))] → W p l e (headSpec wsX0_turnsAheadOf ({ frames := 0, cells := 0, slots := 0, locals := 0 } : Jvm.Room)).room s m (([.ref (a 0), .int (nI w)] : List Value).toArray) below meth c s.heap [] 0 0 (MQ below (xQr (.int (nI (aheadF E w tc 0 0)))) (([.ref (a 0), .int (nI w)] : List Value).toArray) s 0 0 (fun _ => False)) (F0 m 4 ls []) := by
    intro n4
    induction n4 using Nat.strongRecOn with
    | _ n4 ih_4 =>
      intro i ah hm_4 hfin_4 ls hl
      refine lv_iload_n hx hb dX0_turnsAheadOf_4 rfl (lv_at hl 0 rfl) ?_
      refine lv_aload_n hx hb dX0_turnsAheadOf_5 rfl (lv_at hl 2 rfl) ?_
      refine x0_get (v := .int (nI tc)) hx hb hts hin hown hK hP 0 rfl 0 (by decide) fl_41 rfl dX0_turnsAheadOf_6 rfl ?_
      refine lv_icmp_ge (x := nI i) (y := nI tc) (tgt := 68) hx hb dX0_turnsAheadOf_9 (by decide) (fun c_1 => ?_) (fun c_1 => ?_)
      · have c_1 := (nI_leI (a := tc) (b := i) (by omega) (by omega)).mp c_1
        have hn0_4 : n4 = 0 := by omega
        subst hn0_4
        obtain rfl : ah = aheadF E w tc 0 0 := hfin_4
        refine lv_iload_n hx hb dX0_turnsAheadOf_68 rfl (lv_at hl 1 rfl) ?_
        exact x_iret (v := nI (aheadF E w tc 0 0)) hx hb hr hlocks rfl dX0_turnsAheadOf_69
      · have c_1 : i < tc := Nat.lt_of_not_le (fun z9 => c_1 ((nI_leI (a := tc) (b := i) (by omega) (by omega)).mpr z9))
        obtain ⟨n49, rfl⟩ : ∃ z, n4 = z + 1 := ⟨n4 - 1, by omega⟩
        refine lv_aload_n hx hb dX0_turnsAheadOf_12 rfl (lv_at hl 2 rfl) ?_
        refine x0_get (v := .ref (a 5)) hx hb hts hin hown hK hP 0 rfl 7 (by decide) fl_23 rfl dX0_turnsAheadOf_13 rfl ?_
        refine lv_iload_n hx hb dX0_turnsAheadOf_16 rfl (lv_at hl 0 rfl) ?_
        refine x_iald (f := E) hx hb hK hP 1 0 rfl rfl (k := i) (by omega) (Nat.le_of_ble_eq_true rfl) dX0_turnsAheadOf_17 ?_
        refine lv_aload_n hx hb dX0_turnsAheadOf_18 rfl (lv_at hl 2 rfl) ?_
        refine x0_get (v := .ref (a 5)) hx hb hts hin hown hK hP 0 rfl 7 (by decide) fl_23 rfl dX0_turnsAheadOf_19 rfl ?_
        refine lv_iload_n hx hb dX0_turnsAheadOf_22 rfl (lv_at hl 3 rfl) ?_
        refine x_iald (f := E) hx hb hK hP 1 0 rfl rfl (k := w) (by omega) (Nat.le_of_ble_eq_true rfl) dX0_turnsAheadOf_23 ?_
        refine lv_icmp_ge (x := E i) (y := E w) (tgt := 31) hx hb dX0_turnsAheadOf_24 (by decide) (fun c_2 => ?_) (fun c_2 => ?_)
        · have c_2 := Int32.not_lt.mpr c_2
          refine lv_iconst (v := 0) hx hb dX0_turnsAheadOf_31 (by decide) ?_
          refine lv_istore (lv' := [(4, .int 0), (3, .int (nI i)), (2, .int (nI ah)), (0, .ref (a 0)), (1, .int (nI w))]) hx hb dX0_turnsAheadOf_32 hl (by decide) rfl (fun ls hl => ?_)
          refine lv_iload hx hb dX0_turnsAheadOf_34 (lv_at hl 0 rfl) ?_
          refine lv_if_ne (tgt := 59) hx hb dX0_turnsAheadOf_36 (by decide) (fun c_3 => ?_) (fun c_3 => ?_)
          · exact False.elim (by revert c_3; decide)
          refine lv_aload_n hx hb dX0_turnsAheadOf_39 rfl (lv_at hl 3 rfl) ?_
          refine x0_get (v := .ref (a 5)) hx hb hts hin hown hK hP 0 rfl 7 (by decide) fl_23 rfl dX0_turnsAheadOf_40 rfl ?_
          refine lv_iload_n hx hb dX0_turnsAheadOf_43 rfl (lv_at hl 1 rfl) ?_
          refine x_iald (f := E) hx hb hK hP 1 0 rfl rfl (k := i) (by omega) (Nat.le_of_ble_eq_true rfl) dX0_turnsAheadOf_44 ?_
          refine lv_aload_n hx hb dX0_turnsAheadOf_45 rfl (lv_at hl 3 rfl) ?_
          refine x0_get (v := .ref (a 5)) hx hb hts hin hown hK hP 0 rfl 7 (by decide) fl_23 rfl dX0_turnsAheadOf_46 rfl ?_
          refine lv_iload_n hx hb dX0_turnsAheadOf_49 rfl (lv_at hl 4 rfl) ?_
          refine x_iald (f := E) hx hb hK hP 1 0 rfl rfl (k := w) (by omega) (Nat.le_of_ble_eq_true rfl) dX0_turnsAheadOf_50 ?_
          refine lv_icmp_ne (x := E i) (y := E w) (tgt := 62) hx hb dX0_turnsAheadOf_51 (by decide) (fun c_4 => ?_) (fun c_4 => ?_)
          · refine lv_iinc (v := nI (i + 1)) (lv' := [(3, .int (nI (i + 1))), (4, .int 0), (2, .int (nI ah)), (0, .ref (a 0)), (1, .int (nI w))]) hx hb dX0_turnsAheadOf_62 hl (k := 1) rfl (x_inc _) (by decide) rfl (fun ls hl => ?_)
            refine lv_goto (tgt := 4) hx hb dX0_turnsAheadOf_65 (by decide) ?_
            exact ih_4 n49 (by omega) (i + 1) ah (by omega) (by rw [← hfin_4]; simp [aheadF, c_1, c_2, c_4]) _ (lv_sub hl [0, 2, 3, 4] rfl)
          · refine lv_iload_n hx hb dX0_turnsAheadOf_54 rfl (lv_at hl 1 rfl) ?_
            refine lv_iload_n hx hb dX0_turnsAheadOf_55 rfl (lv_at hl 4 rfl) ?_
            refine lv_icmp_ge (x := nI i) (y := nI w) (tgt := 62) hx hb dX0_turnsAheadOf_56 (by decide) (fun c_5 => ?_) (fun c_5 => ?_)
            · have c_5 := (nI_leI (a := w) (b := i) (by omega) (by omega)).mp c_5
              refine lv_iinc (v := nI (i + 1)) (lv' := [(3, .int (nI (i + 1))), (4, .int 0), (2, .int (nI ah)), (0, .ref (a 0)), (1, .int (nI w))]) hx hb dX0_turnsAheadOf_62 hl (k := 1) rfl (x_inc _) (by decide) rfl (fun ls hl => ?_)
              refine lv_goto (tgt := 4) hx hb dX0_turnsAheadOf_65 (by decide) ?_
              exact ih_4 n49 (by omega) (i + 1) ah (by omega) (by rw [← hfin_4]; simp [aheadF, c_1, c_2, c_4, c_5, Nat.not_lt.mpr c_5]) _ (lv_sub hl [0, 2, 3, 4] rfl)
            · have c_5 : i < w := Nat.lt_of_not_le (fun z9 => c_5 ((nI_leI (a := w) (b := i) (by omega) (by omega)).mpr z9))
              refine lv_iinc (v := nI (ah + 1)) (lv' := [(2, .int (nI (ah + 1))), (4, .int 0), (3, .int (nI i)), (0, .ref (a 0)), (1, .int (nI w))]) hx hb dX0_turnsAheadOf_59 hl (k := 2) rfl (x_inc _) (by decide) rfl (fun ls hl => ?_)
              refine lv_iinc (v := nI (i + 1)) (lv' := [(3, .int (nI (i + 1))), (2, .int (nI (ah + 1))), (4, .int 0), (0, .ref (a 0)), (1, .int (nI w))]) hx hb dX0_turnsAheadOf_62 hl (k := 2) rfl (x_inc _) (by decide) rfl (fun ls hl => ?_)
              refine lv_goto (tgt := 4) hx hb dX0_turnsAheadOf_65 (by decide) ?_
              exact ih_4 n49 (by omega) (i + 1) (ah + 1) (by omega) (by rw [← hfin_4]; simp [aheadF, c_1, c_2, c_4, c_5]) _ (lv_sub hl [0, 1, 3, 4] rfl)
        · have c_2 := Int32.not_le.mp c_2
          refine lv_iconst (v := 1) hx hb dX0_turnsAheadOf_27 (by decide) ?_
          refine lv_goto (tgt := 32) hx hb dX0_turnsAheadOf_28 (by decide) ?_
          refine lv_istore (lv' := [(4, .int 1), (3, .int (nI i)), (2, .int (nI ah)), (0, .ref (a 0)), (1, .int (nI w))]) hx hb dX0_turnsAheadOf_32 hl (by decide) rfl (fun ls hl => ?_)
          refine lv_iload hx hb dX0_turnsAheadOf_34 (lv_at hl 0 rfl) ?_
          refine lv_if_ne (tgt := 59) hx hb dX0_turnsAheadOf_36 (by decide) (fun c_6 => ?_) (fun c_6 => ?_)
          rotate_left
          · exact False.elim (by revert c_6; decide)
          refine lv_iinc (v := nI (ah + 1)) (lv' := [(2, .int (nI (ah + 1))), (4, .int 1), (3, .int (nI i)), (0, .ref (a 0)), (1, .int (nI w))]) hx hb dX0_turnsAheadOf_59 hl (k := 2) rfl (x_inc _) (by decide) rfl (fun ls hl => ?_)
          refine lv_iinc (v := nI (i + 1)) (lv' := [(3, .int (nI (i + 1))), (2, .int (nI (ah + 1))), (4, .int 1), (0, .ref (a 0)), (1, .int (nI w))]) hx hb dX0_turnsAheadOf_62 hl (k := 2) rfl (x_inc _) (by decide) rfl (fun ls hl => ?_)
          refine lv_goto (tgt := 4) hx hb dX0_turnsAheadOf_65 (by decide) ?_
          exact ih_4 n49 (by omega) (i + 1) (ah + 1) (by omega) (by rw [← hfin_4]; simp [aheadF, c_1, c_2]) _ (lv_sub hl [0, 1, 3, 4] rfl)
  exact lp_4 tc 0 0 (by omega) rfl _ (lv_sub hl [0, 1, 2, 3] rfl)
set_option maxHeartbeats 4000000 in
set_option maxRecDepth 100000 in
theorem c_X0_tiedRopes (l : Launch) (D : va_G) (t : Nat → ClassId) (a : Nat → Nat) (tc rc : Nat) (ro : Int32) (Z : Nat → Bool) (hrc : rc ≤ 30) : Met l yX0_tiedRopes wsX0_tiedRopes ({ frames := 0, cells := 0, slots := 0, locals := 0 }) (xRo D (xTy t) [.ref (a 0)] [xObj a tc rc ro, xArr (t 1) (a 4) 30 (xB Z)]) (xQr (.int (nI (countF Z rc 0 0)))) 0 0 (fun _ => False) := by
  refine Met.ofW (cc := cX0_tiedRopes) (maxL := 3) (ret := (some .int)) (by decide) rfl ?_
  intro p e s m args below meth c s₁ hB9 hml hv
  obtain ⟨rfl, hP, hK⟩ := hv
  have hx := hB9.exec
  have hb := hB9.bytes
  have hr := hB9.returns
  have hts := atoms_spec (ws := wsX0_tiedRopes) hB9.pre
  have hown : s.vm.findClass RX0 = some m.cls := findClass_of_methodNamed hB9.named
  have hlocks := hB9.notSynchronized
  have hin : ∀ w ∈ wsX00, w ∈ wsX0_tiedRopes := fun _ h => List.mem_cons_of_mem _ (List.mem_append_right _ h)
  have fl_63 := hts (.fieldLink RX0 63 "RopeTimes" "ropeCount" "I") (by decide +kernel)
  have fl_19 := hts (.fieldLink RX0 19 "RopeTimes" "tied" "[Z") (by decide +kernel)
  have hl := lv_entry ([.ref (a 0)]) (n := 3) (Nat.le_of_ble_eq_true rfl)
  rw [lg_entry_eq]
  generalize (lg_sl ([.ref (a 0)]) ++ List.replicate (3 - (lg_sl ([.ref (a 0)])).length) Slot.unset).toArray = ls at hl ⊢
  have hl : lv_has ls 3 [(0, .ref (a 0))] := hl
  refine lv_iconst (v := 0) hx hb dX0_tiedRopes_0 (by decide) ?_
  refine lv_istore_n (lv' := [(1, .int 0), (0, .ref (a 0))]) hx hb dX0_tiedRopes_1 rfl hl (by decide) rfl (fun ls hl => ?_)
  refine lv_iconst (v := 0) hx hb dX0_tiedRopes_2 (by decide) ?_
  refine lv_istore_n (lv' := [(2, .int 0), (1, .int 0), (0, .ref (a 0))]) hx hb dX0_tiedRopes_3 rfl hl (by decide) rfl (fun ls hl => ?_)
  have lp_4 : ∀ (n4 : Nat) (i : Nat) (k : Nat), i + n4 = rc → countF Z n4 i k = countF Z rc 0 0 → ∀ ls : Array Slot, lv_has ls 3 [(2, .int (nI i)), (1, .int (nI k)), (0, .ref (a 0))] → W p l e (headSpec wsX0_tiedRopes ({ frames := 0, cells := 0, slots := 0, locals := 0 } : Jvm.Room)).room s m (([.ref (a 0)] : List Value).toArray) below meth c s.heap [] 0 0 (MQ below (xQr (.int (nI (countF Z rc 0 0)))) (([.ref (a 0)] : List Value).toArray) s 0 0 (fun _ => False)) (F0 m 4 ls []) := by
    intro n4
    induction n4 using Nat.strongRecOn with
    | _ n4 ih_4 =>
      intro i k hm_4 hfin_4 ls hl
      refine lv_iload_n hx hb dX0_tiedRopes_4 rfl (lv_at hl 0 rfl) ?_
      refine lv_aload_n hx hb dX0_tiedRopes_5 rfl (lv_at hl 2 rfl) ?_
      refine x0_get (v := .int (nI rc)) hx hb hts hin hown hK hP 0 rfl 1 (by decide) fl_63 rfl dX0_tiedRopes_6 rfl ?_
      refine lv_icmp_ge (x := nI i) (y := nI rc) (tgt := 30) hx hb dX0_tiedRopes_9 (by decide) (fun c_1 => ?_) (fun c_1 => ?_)
      · have c_1 := (nI_leI (a := rc) (b := i) (by omega) (by omega)).mp c_1
        have hn0_4 : n4 = 0 := by omega
        subst hn0_4
        obtain rfl : k = countF Z rc 0 0 := hfin_4
        refine lv_iload_n hx hb dX0_tiedRopes_30 rfl (lv_at hl 1 rfl) ?_
        exact x_iret (v := nI (countF Z rc 0 0)) hx hb hr hlocks rfl dX0_tiedRopes_31
      · have c_1 : i < rc := Nat.lt_of_not_le (fun z9 => c_1 ((nI_leI (a := rc) (b := i) (by omega) (by omega)).mpr z9))
        obtain ⟨n49, rfl⟩ : ∃ z, n4 = z + 1 := ⟨n4 - 1, by omega⟩
        refine lv_aload_n hx hb dX0_tiedRopes_12 rfl (lv_at hl 2 rfl) ?_
        refine x0_get (v := .ref (a 4)) hx hb hts hin hown hK hP 0 rfl 5 (by decide) fl_19 rfl dX0_tiedRopes_13 rfl ?_
        refine lv_iload_n hx hb dX0_tiedRopes_16 rfl (lv_at hl 0 rfl) ?_
        refine x_zald (f := xB Z) hx hb hK hP 1 1 rfl rfl (k := i) (by omega) (Nat.le_of_ble_eq_true rfl) dX0_tiedRopes_17 ?_
        refine x_top (w := bI (Z i)) rfl ?_
        refine lv_if_eq (x := bI (Z i)) (tgt := 24) hx hb dX0_tiedRopes_18 (by decide) (fun c_2 => ?_) (fun c_2 => ?_)
        · have c_2 := bI_0 c_2
          refine lv_iinc (v := nI (i + 1)) (lv' := [(2, .int (nI (i + 1))), (1, .int (nI k)), (0, .ref (a 0))]) hx hb dX0_tiedRopes_24 hl (k := 0) rfl (x_inc _) (by decide) rfl (fun ls hl => ?_)
          refine lv_goto (tgt := 4) hx hb dX0_tiedRopes_27 (by decide) ?_
          exact ih_4 n49 (by omega) (i + 1) k (by omega) (by rw [← hfin_4]; simp [countF, c_1, c_2]) _ (lv_sub hl [0, 1, 2] rfl)
        · have c_2 := bI_n0 c_2
          refine lv_iinc (v := nI (k + 1)) (lv' := [(1, .int (nI (k + 1))), (2, .int (nI i)), (0, .ref (a 0))]) hx hb dX0_tiedRopes_21 hl (k := 1) rfl (x_inc _) (by decide) rfl (fun ls hl => ?_)
          refine lv_iinc (v := nI (i + 1)) (lv' := [(2, .int (nI (i + 1))), (1, .int (nI (k + 1))), (0, .ref (a 0))]) hx hb dX0_tiedRopes_24 hl (k := 1) rfl (x_inc _) (by decide) rfl (fun ls hl => ?_)
          refine lv_goto (tgt := 4) hx hb dX0_tiedRopes_27 (by decide) ?_
          exact ih_4 n49 (by omega) (i + 1) (k + 1) (by omega) (by rw [← hfin_4]; simp [countF, c_1, c_2]) _ (lv_sub hl [0, 1, 2] rfl)
  exact lp_4 rc 0 0 (by omega) rfl _ (lv_sub hl [0, 1, 2] rfl)
set_option maxHeartbeats 4000000 in
set_option maxRecDepth 100000 in
theorem c_X0_tiedEndsAt (l : Launch) (D : va_G) (t : Nat → ClassId) (a : Nat → Nat) (tc rc : Nat) (ro : Int32) (Z : Nat → Bool) (q : Nat) (G : Nat → Nat) (w : Nat) (hrc : rc ≤ 30) (hw : w < 12) (hG : ∀ r, r < rc → G r < 12) : Met l yX0_tiedEndsAt wsX0_tiedEndsAt ({ frames := 0, cells := 0, slots := 0, locals := 0 }) (xRo D (xTy t) [.ref (a 0), .int (nI w), .ref q] [xObj a tc rc ro, xArr (t 1) (a 4) 30 (xB Z), xArr (t 0) q 30 (xN G)]) (xQr (.int (nI (countF (fun r => Z r && decide (G r = w)) rc 0 0)))) 0 0 (fun _ => False) := by
  refine Met.ofW (cc := cX0_tiedEndsAt) (maxL := 5) (ret := (some .int)) (by decide) rfl ?_
  intro p e s m args below meth c s₁ hB9 hml hv
  obtain ⟨rfl, hP, hK⟩ := hv
  have hx := hB9.exec
  have hb := hB9.bytes
  have hr := hB9.returns
  have hts := atoms_spec (ws := wsX0_tiedEndsAt) hB9.pre
  have hown : s.vm.findClass RX0 = some m.cls := findClass_of_methodNamed hB9.named
  have hlocks := hB9.notSynchronized
  have hin : ∀ w ∈ wsX00, w ∈ wsX0_tiedEndsAt := fun _ h => List.mem_cons_of_mem _ (List.mem_append_right _ h)
  have fl_63 := hts (.fieldLink RX0 63 "RopeTimes" "ropeCount" "I") (by decide +kernel)
  have fl_19 := hts (.fieldLink RX0 19 "RopeTimes" "tied" "[Z") (by decide +kernel)
  have hl := lv_entry ([.ref (a 0), .int (nI w), .ref q]) (n := 5) (Nat.le_of_ble_eq_true rfl)
  rw [lg_entry_eq]
  generalize (lg_sl ([.ref (a 0), .int (nI w), .ref q]) ++ List.replicate (5 - (lg_sl ([.ref (a 0), .int (nI w), .ref q])).length) Slot.unset).toArray = ls at hl ⊢
  have hl : lv_has ls 5 [(0, .ref (a 0)), (1, .int (nI w)), (2, .ref q)] := hl
  refine lv_iconst (v := 0) hx hb dX0_tiedEndsAt_0 (by decide) ?_
  refine lv_istore_n (lv' := [(3, .int 0), (0, .ref (a 0)), (1, .int (nI w)), (2, .ref q)]) hx hb dX0_tiedEndsAt_1 rfl hl (by decide) rfl (fun ls hl => ?_)
  refine lv_iconst (v := 0) hx hb dX0_tiedEndsAt_2 (by decide) ?_
  refine lv_istore (lv' := [(4, .int 0), (3, .int 0), (0, .ref (a 0)), (1, .int (nI w)), (2, .ref q)]) hx hb dX0_tiedEndsAt_3 hl (by decide) rfl (fun ls hl => ?_)
  have lp_5 : ∀ (n5 : Nat) (i : Nat) (k : Nat), i + n5 = rc → countF (fun r => Z r && decide (G r = w)) n5 i k = countF (fun r => Z r && decide (G r = w)) rc 0 0 → ∀ ls : Array Slot, lv_has ls 5 [(4, .int (nI i)), (3, .int (nI k)), (0, .ref (a 0)), (1, .int (nI w)), (2, .ref q)] → W p l e (headSpec wsX0_tiedEndsAt ({ frames := 0, cells := 0, slots := 0, locals := 0 } : Jvm.Room)).room s m (([.ref (a 0), .int (nI w), .ref q] : List Value).toArray) below meth c s.heap [] 0 0 (MQ below (xQr (.int (nI (countF (fun r => Z r && decide (G r = w)) rc 0 0)))) (([.ref (a 0), .int (nI w), .ref q] : List Value).toArray) s 0 0 (fun _ => False)) (F0 m 5 ls []) := by
    intro n5
    induction n5 using Nat.strongRecOn with
    | _ n5 ih_5 =>
      intro i k hm_5 hfin_5 ls hl
      refine lv_iload hx hb dX0_tiedEndsAt_5 (lv_at hl 0 rfl) ?_
      refine lv_aload_n hx hb dX0_tiedEndsAt_7 rfl (lv_at hl 2 rfl) ?_
      refine x0_get (v := .int (nI rc)) hx hb hts hin hown hK hP 0 rfl 1 (by decide) fl_63 rfl dX0_tiedEndsAt_8 rfl ?_
      refine lv_icmp_ge (x := nI i) (y := nI rc) (tgt := 41) hx hb dX0_tiedEndsAt_11 (by decide) (fun c_1 => ?_) (fun c_1 => ?_)
      · have c_1 := (nI_leI (a := rc) (b := i) (by omega) (by omega)).mp c_1
        have hn0_5 : n5 = 0 := by omega
        subst hn0_5
        obtain rfl : k = countF (fun r => Z r && decide (G r = w)) rc 0 0 := hfin_5
        refine lv_iload_n hx hb dX0_tiedEndsAt_41 rfl (lv_at hl 1 rfl) ?_
        exact x_iret (v := nI (countF (fun r => Z r && decide (G r = w)) rc 0 0)) hx hb hr hlocks rfl dX0_tiedEndsAt_42
      · have c_1 : i < rc := Nat.lt_of_not_le (fun z9 => c_1 ((nI_leI (a := rc) (b := i) (by omega) (by omega)).mpr z9))
        obtain ⟨n59, rfl⟩ : ∃ z, n5 = z + 1 := ⟨n5 - 1, by omega⟩
        refine lv_aload_n hx hb dX0_tiedEndsAt_14 rfl (lv_at hl 2 rfl) ?_
        refine x0_get (v := .ref (a 4)) hx hb hts hin hown hK hP 0 rfl 5 (by decide) fl_19 rfl dX0_tiedEndsAt_15 rfl ?_
        refine lv_iload hx hb dX0_tiedEndsAt_18 (lv_at hl 0 rfl) ?_
        refine x_zald (f := xB Z) hx hb hK hP 1 1 rfl rfl (k := i) (by omega) (Nat.le_of_ble_eq_true rfl) dX0_tiedEndsAt_20 ?_
        refine x_top (w := bI (Z i)) rfl ?_
        refine lv_if_eq (x := bI (Z i)) (tgt := 35) hx hb dX0_tiedEndsAt_21 (by decide) (fun c_2 => ?_) (fun c_2 => ?_)
        · have c_2 := bI_0 c_2
          refine lv_iinc (v := nI (i + 1)) (lv' := [(4, .int (nI (i + 1))), (3, .int (nI k)), (0, .ref (a 0)), (1, .int (nI w)), (2, .ref q)]) hx hb dX0_tiedEndsAt_35 hl (k := 0) rfl (x_inc _) (by decide) rfl (fun ls hl => ?_)
          refine lv_goto (tgt := 5) hx hb dX0_tiedEndsAt_38 (by decide) ?_
          exact ih_5 n59 (by omega) (i + 1) k (by omega) (by rw [← hfin_5]; simp [countF, c_1, c_2]) _ (lv_sub hl [0, 1, 2, 3, 4] rfl)
        · have c_2 := bI_n0 c_2
          refine lv_aload_n hx hb dX0_tiedEndsAt_24 rfl (lv_at hl 4 rfl) ?_
          refine lv_iload hx hb dX0_tiedEndsAt_25 (lv_at hl 0 rfl) ?_
          refine x_iald (f := xN G) hx hb hK hP 2 0 rfl rfl (k := i) (by omega) (Nat.le_of_ble_eq_true rfl) dX0_tiedEndsAt_27 ?_
          refine x_top (w := nI (G i)) rfl ?_
          have hf_3 := hG i (by omega)
          refine lv_iload_n hx hb dX0_tiedEndsAt_28 rfl (lv_at hl 3 rfl) ?_
          refine lv_icmp_ne (x := nI (G i)) (y := nI w) (tgt := 35) hx hb dX0_tiedEndsAt_29 (by decide) (fun c_4 => ?_) (fun c_4 => ?_)
          · have c_4 : ¬ (G i) = w := fun z9 => c_4 ((nI_eq (a := G i) (b := w) (by omega) (by omega)).mpr z9)
            refine lv_iinc (v := nI (i + 1)) (lv' := [(4, .int (nI (i + 1))), (3, .int (nI k)), (0, .ref (a 0)), (1, .int (nI w)), (2, .ref q)]) hx hb dX0_tiedEndsAt_35 hl (k := 0) rfl (x_inc _) (by decide) rfl (fun ls hl => ?_)
            refine lv_goto (tgt := 5) hx hb dX0_tiedEndsAt_38 (by decide) ?_
            exact ih_5 n59 (by omega) (i + 1) k (by omega) (by rw [← hfin_5]; simp [countF, c_1, c_2, c_4]) _ (lv_sub hl [0, 1, 2, 3, 4] rfl)
          · have c_4 := (nI_eq (a := G i) (b := w) (by omega) (by omega)).mp c_4
            refine lv_iinc (v := nI (k + 1)) (lv' := [(3, .int (nI (k + 1))), (4, .int (nI i)), (0, .ref (a 0)), (1, .int (nI w)), (2, .ref q)]) hx hb dX0_tiedEndsAt_32 hl (k := 1) rfl (x_inc _) (by decide) rfl (fun ls hl => ?_)
            refine lv_iinc (v := nI (i + 1)) (lv' := [(4, .int (nI (i + 1))), (3, .int (nI (k + 1))), (0, .ref (a 0)), (1, .int (nI w)), (2, .ref q)]) hx hb dX0_tiedEndsAt_35 hl (k := 1) rfl (x_inc _) (by decide) rfl (fun ls hl => ?_)
            refine lv_goto (tgt := 5) hx hb dX0_tiedEndsAt_38 (by decide) ?_
            exact ih_5 n59 (by omega) (i + 1) (k + 1) (by omega) (by rw [← hfin_5]; simp [countF, c_1, c_2, c_4]) _ (lv_sub hl [0, 1, 2, 3, 4] rfl)
  exact lp_5 rc 0 0 (by omega) rfl _ (lv_sub hl [0, 1, 2, 3, 4] rfl)
set_option maxHeartbeats 4000000 in
set_option maxRecDepth 100000 in
theorem c_X0_isTight (l : Launch) (D : va_G) (t : Nat → ClassId) (a : Nat → Nat) (tc rc : Nat) (ro : Int32) (F T : Nat → Nat) (L : Nat → Int32) (Z : Nat → Bool) (E : Nat → Int32) (r : Nat) (htc : tc ≤ 12) (hrc : rc ≤ 30) (hF : ∀ r, r < rc → F r < tc ∧ T r < tc) (hr9 : r < rc) : Met l yX0_isTight wsX0_isTight ({ frames := 1, cells := 0, slots := 0, locals := 20 }) (xRo D (xTy t) [.ref (a 0), .int (nI r)] [xObj a tc rc ro, xArr (t 0) (a 1) 30 (xN F), xArr (t 0) (a 2) 30 (xN T), xArr (t 0) (a 3) 30 L, xArr (t 1) (a 4) 30 (xB Z), xArr (t 0) (a 5) 12 E]) (xQr (.int (bI (tightB ro E F T L Z r)))) 0 0 (fun _ => False) := by
  refine Met.ofW (cc := cX0_isTight) (maxL := 2) (ret := (some .boolean)) (by decide) rfl ?_
  intro p e s m args below meth c s₁ hB9 hml hv
  obtain ⟨rfl, hP, hK⟩ := hv
  have hx := hB9.exec
  have hb := hB9.bytes
  have hr := hB9.returns
  have hts := atoms_spec (ws := wsX0_isTight) hB9.pre
  have hown : s.vm.findClass RX0 = some m.cls := findClass_of_methodNamed hB9.named
  have hlocks := hB9.notSynchronized
  have hin : ∀ w ∈ wsX00, w ∈ wsX0_isTight := fun _ h => List.mem_cons_of_mem _ (List.mem_append_right _ h)
  have fl_19 := hts (.fieldLink RX0 19 "RopeTimes" "tied" "[Z") (by decide +kernel)
  have fl_23 := hts (.fieldLink RX0 23 "RopeTimes" "earliest" "[I") (by decide +kernel)
  have fl_13 := hts (.fieldLink RX0 13 "RopeTimes" "to" "[I") (by decide +kernel)
  have fl_9 := hts (.fieldLink RX0 9 "RopeTimes" "from" "[I") (by decide +kernel)
  have fl_16 := hts (.fieldLink RX0 16 "RopeTimes" "length" "[I") (by decide +kernel)
  have hl := lv_entry ([.ref (a 0), .int (nI r)]) (n := 2) (Nat.le_of_ble_eq_true rfl)
  rw [lg_entry_eq]
  generalize (lg_sl ([.ref (a 0), .int (nI r)]) ++ List.replicate (2 - (lg_sl ([.ref (a 0), .int (nI r)])).length) Slot.unset).toArray = ls at hl ⊢
  have hl : lv_has ls 2 [(0, .ref (a 0)), (1, .int (nI r))] := hl
  refine lv_aload_n hx hb dX0_isTight_0 rfl (lv_at hl 0 rfl) ?_
  refine xr_V (b := a 0) (As := []) (rest := []) ⟨hx, hb, hml, hown, hts⟩ (c_X0_isPossible l D t a tc rc ro) (cwV 0 hts gX0_isTight_X0_isPossible rfl rfl rfl hd_X0_isPossible ⟨Nat.le_of_ble_eq_true rfl, Nat.le_of_ble_eq_true rfl⟩) hK hP (va_recv hK hP (ci := 0) (q0 := 0) rfl rfl) [0] rfl rfl hl.1 rfl (Nat.le_of_ble_eq_true rfl) dX0_isTight_1 ⟨(Nat.le_of_ble_eq_true rfl), (Nat.le_of_ble_eq_true rfl)⟩ ?_
  refine lv_if_eq (x := bI (decide (¬ ro = -1))) (tgt := 52) hx hb dX0_isTight_4 (by decide) (fun c_1 => ?_) (fun c_1 => ?_)
  · have c_1 := Classical.not_not.mp (of_decide_eq_false (bI_0 c_1))
    refine lv_iconst (v := 0) hx hb dX0_isTight_52 (by decide) ?_
    exact x_zret (v := 0) hx hb hr hlocks (by simp_all [tightB, bI]) dX0_isTight_53
  · have c_1 := of_decide_eq_true (bI_n0 c_1)
    refine lv_aload_n hx hb dX0_isTight_7 rfl (lv_at hl 0 rfl) ?_
    refine x0_get (v := .ref (a 4)) hx hb hts hin hown hK hP 0 rfl 5 (by decide) fl_19 rfl dX0_isTight_8 rfl ?_
    refine lv_iload_n hx hb dX0_isTight_11 rfl (lv_at hl 1 rfl) ?_
    refine x_zald (f := xB Z) hx hb hK hP 4 1 rfl rfl (k := r) (by omega) (Nat.le_of_ble_eq_true rfl) dX0_isTight_12 ?_
    refine x_top (w := bI (Z r)) rfl ?_
    refine lv_if_eq (x := bI (Z r)) (tgt := 52) hx hb dX0_isTight_13 (by decide) (fun c_2 => ?_) (fun c_2 => ?_)
    · have c_2 := bI_0 c_2
      refine lv_iconst (v := 0) hx hb dX0_isTight_52 (by decide) ?_
      exact x_zret (v := 0) hx hb hr hlocks (by simp_all [tightB, bI]) dX0_isTight_53
    · have c_2 := bI_n0 c_2
      refine lv_aload_n hx hb dX0_isTight_16 rfl (lv_at hl 0 rfl) ?_
      refine x0_get (v := .ref (a 5)) hx hb hts hin hown hK hP 0 rfl 7 (by decide) fl_23 rfl dX0_isTight_17 rfl ?_
      refine lv_aload_n hx hb dX0_isTight_20 rfl (lv_at hl 0 rfl) ?_
      refine x0_get (v := .ref (a 2)) hx hb hts hin hown hK hP 0 rfl 3 (by decide) fl_13 rfl dX0_isTight_21 rfl ?_
      refine lv_iload_n hx hb dX0_isTight_24 rfl (lv_at hl 1 rfl) ?_
      refine x_iald (f := xN T) hx hb hK hP 2 0 rfl rfl (k := r) (by omega) (Nat.le_of_ble_eq_true rfl) dX0_isTight_25 ?_
      refine x_top (w := nI (T r)) rfl ?_
      have hf_3 := hF r (by omega)
      refine x_iald (f := E) hx hb hK hP 5 0 rfl rfl (k := T r) (by omega) (Nat.le_of_ble_eq_true rfl) dX0_isTight_26 ?_
      refine lv_aload_n hx hb dX0_isTight_27 rfl (lv_at hl 0 rfl) ?_
      refine x0_get (v := .ref (a 5)) hx hb hts hin hown hK hP 0 rfl 7 (by decide) fl_23 rfl dX0_isTight_28 rfl ?_
      refine lv_aload_n hx hb dX0_isTight_31 rfl (lv_at hl 0 rfl) ?_
      refine x0_get (v := .ref (a 1)) hx hb hts hin hown hK hP 0 rfl 2 (by decide) fl_9 rfl dX0_isTight_32 rfl ?_
      refine lv_iload_n hx hb dX0_isTight_35 rfl (lv_at hl 1 rfl) ?_
      refine x_iald (f := xN F) hx hb hK hP 1 0 rfl rfl (k := r) (by omega) (Nat.le_of_ble_eq_true rfl) dX0_isTight_36 ?_
      refine x_top (w := nI (F r)) rfl ?_
      have hf_4 := hF r (by omega)
      refine x_iald (f := E) hx hb hK hP 5 0 rfl rfl (k := F r) (by omega) (Nat.le_of_ble_eq_true rfl) dX0_isTight_37 ?_
      refine lv_aload_n hx hb dX0_isTight_38 rfl (lv_at hl 0 rfl) ?_
      refine x0_get (v := .ref (a 3)) hx hb hts hin hown hK hP 0 rfl 4 (by decide) fl_16 rfl dX0_isTight_39 rfl ?_
      refine lv_iload_n hx hb dX0_isTight_42 rfl (lv_at hl 1 rfl) ?_
      refine x_iald (f := L) hx hb hK hP 3 0 rfl rfl (k := r) (by omega) (Nat.le_of_ble_eq_true rfl) dX0_isTight_43 ?_
      refine lv_iadd (x := E (F r)) (y := L r) hx hb dX0_isTight_44 ?_
      refine lv_icmp_ne (x := E (T r)) (y := (E (F r)) + (L r)) (tgt := 52) hx hb dX0_isTight_45 (by decide) (fun c_5 => ?_) (fun c_5 => ?_)
      · refine lv_iconst (v := 0) hx hb dX0_isTight_52 (by decide) ?_
        exact x_zret (v := 0) hx hb hr hlocks (by simp_all [tightB, bI]) dX0_isTight_53
      · refine lv_iconst (v := 1) hx hb dX0_isTight_48 (by decide) ?_
        refine lv_goto (tgt := 53) hx hb dX0_isTight_49 (by decide) ?_
        exact x_zret (v := 1) hx hb hr hlocks (by simp_all [tightB, bI]) dX0_isTight_53
set_option maxHeartbeats 4000000 in
set_option maxRecDepth 100000 in
theorem c_X0_tightRopes (l : Launch) (D : va_G) (t : Nat → ClassId) (a : Nat → Nat) (tc rc : Nat) (ro : Int32) (F T : Nat → Nat) (L : Nat → Int32) (Z : Nat → Bool) (E : Nat → Int32) (htc : tc ≤ 12) (hrc : rc ≤ 30) (hF : ∀ r, r < rc → F r < tc ∧ T r < tc) : Met l yX0_tightRopes wsX0_tightRopes ({ frames := 2, cells := 0, slots := 0, locals := 41 }) (xRo D (xTy t) [.ref (a 0)] [xObj a tc rc ro, xArr (t 0) (a 1) 30 (xN F), xArr (t 0) (a 2) 30 (xN T), xArr (t 0) (a 3) 30 L, xArr (t 1) (a 4) 30 (xB Z), xArr (t 0) (a 5) 12 E]) (xQr (.int (nI (countF (tightB ro E F T L Z) rc 0 0)))) 0 0 (fun _ => False) := by
  refine Met.ofW (cc := cX0_tightRopes) (maxL := 3) (ret := (some .int)) (by decide) rfl ?_
  intro p e s m args below meth c s₁ hB9 hml hv
  obtain ⟨rfl, hP, hK⟩ := hv
  have hx := hB9.exec
  have hb := hB9.bytes
  have hr := hB9.returns
  have hts := atoms_spec (ws := wsX0_tightRopes) hB9.pre
  have hown : s.vm.findClass RX0 = some m.cls := findClass_of_methodNamed hB9.named
  have hlocks := hB9.notSynchronized
  have hin : ∀ w ∈ wsX00, w ∈ wsX0_tightRopes := fun _ h => List.mem_cons_of_mem _ (List.mem_append_right _ h)
  have fl_63 := hts (.fieldLink RX0 63 "RopeTimes" "ropeCount" "I") (by decide +kernel)
  have hl := lv_entry ([.ref (a 0)]) (n := 3) (Nat.le_of_ble_eq_true rfl)
  rw [lg_entry_eq]
  generalize (lg_sl ([.ref (a 0)]) ++ List.replicate (3 - (lg_sl ([.ref (a 0)])).length) Slot.unset).toArray = ls at hl ⊢
  have hl : lv_has ls 3 [(0, .ref (a 0))] := hl
  refine lv_iconst (v := 0) hx hb dX0_tightRopes_0 (by decide) ?_
  refine lv_istore_n (lv' := [(1, .int 0), (0, .ref (a 0))]) hx hb dX0_tightRopes_1 rfl hl (by decide) rfl (fun ls hl => ?_)
  refine lv_iconst (v := 0) hx hb dX0_tightRopes_2 (by decide) ?_
  refine lv_istore_n (lv' := [(2, .int 0), (1, .int 0), (0, .ref (a 0))]) hx hb dX0_tightRopes_3 rfl hl (by decide) rfl (fun ls hl => ?_)
  have lp_4 : ∀ (n4 : Nat) (i : Nat) (k : Nat), i + n4 = rc → countF (tightB ro E F T L Z) n4 i k = countF (tightB ro E F T L Z) rc 0 0 → ∀ ls : Array Slot, lv_has ls 3 [(2, .int (nI i)), (1, .int (nI k)), (0, .ref (a 0))] → W p l e (headSpec wsX0_tightRopes ({ frames := 2, cells := 0, slots := 0, locals := 41 } : Jvm.Room)).room s m (([.ref (a 0)] : List Value).toArray) below meth c s.heap [] 0 0 (MQ below (xQr (.int (nI (countF (tightB ro E F T L Z) rc 0 0)))) (([.ref (a 0)] : List Value).toArray) s 0 0 (fun _ => False)) (F0 m 4 ls []) := by
    intro n4
    induction n4 using Nat.strongRecOn with
    | _ n4 ih_4 =>
      intro i k hm_4 hfin_4 ls hl
      refine lv_iload_n hx hb dX0_tightRopes_4 rfl (lv_at hl 0 rfl) ?_
      refine lv_aload_n hx hb dX0_tightRopes_5 rfl (lv_at hl 2 rfl) ?_
      refine x0_get (v := .int (nI rc)) hx hb hts hin hown hK hP 0 rfl 1 (by decide) fl_63 rfl dX0_tightRopes_6 rfl ?_
      refine lv_icmp_ge (x := nI i) (y := nI rc) (tgt := 29) hx hb dX0_tightRopes_9 (by decide) (fun c_1 => ?_) (fun c_1 => ?_)
      · have c_1 := (nI_leI (a := rc) (b := i) (by omega) (by omega)).mp c_1
        have hn0_4 : n4 = 0 := by omega
        subst hn0_4
        obtain rfl : k = countF (tightB ro E F T L Z) rc 0 0 := hfin_4
        refine lv_iload_n hx hb dX0_tightRopes_29 rfl (lv_at hl 1 rfl) ?_
        exact x_iret (v := nI (countF (tightB ro E F T L Z) rc 0 0)) hx hb hr hlocks rfl dX0_tightRopes_30
      · have c_1 : i < rc := Nat.lt_of_not_le (fun z9 => c_1 ((nI_leI (a := rc) (b := i) (by omega) (by omega)).mpr z9))
        obtain ⟨n49, rfl⟩ : ∃ z, n4 = z + 1 := ⟨n4 - 1, by omega⟩
        refine lv_aload_n hx hb dX0_tightRopes_12 rfl (lv_at hl 2 rfl) ?_
        refine lv_iload_n hx hb dX0_tightRopes_13 rfl (lv_at hl 0 rfl) ?_
        refine xr_V (b := a 0) (As := [.int (nI i)]) (rest := []) ⟨hx, hb, hml, hown, hts⟩ (c_X0_isTight l D t a tc rc ro F T L Z E i (by omega) (by omega) hF (by omega)) (cwV 1 hts gX0_tightRopes_X0_isTight rfl rfl rfl hd_X0_isTight ⟨Nat.le_of_ble_eq_true rfl, Nat.le_of_ble_eq_true rfl⟩) hK hP (va_recv hK hP (ci := 0) (q0 := 0) rfl rfl) [0, 1, 2, 3, 4, 5] rfl rfl hl.1 rfl (Nat.le_of_ble_eq_true rfl) dX0_tightRopes_14 ⟨(Nat.le_of_ble_eq_true rfl), (Nat.le_of_ble_eq_true rfl)⟩ ?_
        refine lv_if_eq (x := bI (tightB ro E F T L Z i)) (tgt := 23) hx hb dX0_tightRopes_17 (by decide) (fun c_2 => ?_) (fun c_2 => ?_)
        · have c_2 := bI_0 c_2
          refine lv_iinc (v := nI (i + 1)) (lv' := [(2, .int (nI (i + 1))), (1, .int (nI k)), (0, .ref (a 0))]) hx hb dX0_tightRopes_23 hl (k := 0) rfl (x_inc _) (by decide) rfl (fun ls hl => ?_)
          refine lv_goto (tgt := 4) hx hb dX0_tightRopes_26 (by decide) ?_
          exact ih_4 n49 (by omega) (i + 1) k (by omega) (by rw [← hfin_4]; simp [countF, c_1, c_2]) _ (lv_sub hl [0, 1, 2] rfl)
        · have c_2 := bI_n0 c_2
          refine lv_iinc (v := nI (k + 1)) (lv' := [(1, .int (nI (k + 1))), (2, .int (nI i)), (0, .ref (a 0))]) hx hb dX0_tightRopes_20 hl (k := 1) rfl (x_inc _) (by decide) rfl (fun ls hl => ?_)
          refine lv_iinc (v := nI (i + 1)) (lv' := [(2, .int (nI (i + 1))), (1, .int (nI (k + 1))), (0, .ref (a 0))]) hx hb dX0_tightRopes_23 hl (k := 1) rfl (x_inc _) (by decide) rfl (fun ls hl => ?_)
          refine lv_goto (tgt := 4) hx hb dX0_tightRopes_26 (by decide) ?_
          exact ih_4 n49 (by omega) (i + 1) (k + 1) (by omega) (by rw [← hfin_4]; simp [countF, c_1, c_2]) _ (lv_sub hl [0, 1, 2] rfl)
  exact lp_4 rc 0 0 (by omega) rfl _ (lv_sub hl [0, 1, 2] rfl)
set_option maxHeartbeats 4000000 in
set_option maxRecDepth 100000 in
theorem c_X0_leastLength (l : Launch) (D : va_G) (t : Nat → ClassId) (a : Nat → Nat) (tc rc : Nat) (ro : Int32) (B : Nat → Int32) (i j : Nat) (hi : i < 12) (hj : j < 12) : Met l yX0_leastLength wsX0_leastLength ({ frames := 1, cells := 0, slots := 0, locals := 22 }) (xRo D (xTy t) [.ref (a 0), .int (nI i), .int (nI j)] [xObj a tc rc ro, xArr (t 0) (a 6) 144 B]) (xQr (.int (leastF B i j))) 0 0 (fun _ => False) := by
  refine Met.ofW (cc := cX0_leastLength) (maxL := 4) (ret := (some .int)) (by decide) rfl ?_
  intro p e s m args below meth c s₁ hB9 hml hv
  obtain ⟨rfl, hP, hK⟩ := hv
  have hx := hB9.exec
  have hb := hB9.bytes
  have hr := hB9.returns
  have hts := atoms_spec (ws := wsX0_leastLength) hB9.pre
  have hown : s.vm.findClass RX0 = some m.cls := findClass_of_methodNamed hB9.named
  have hlocks := hB9.notSynchronized
  have hin : ∀ w ∈ wsX00, w ∈ wsX0_leastLength := fun _ h => List.mem_cons_of_mem _ (List.mem_append_right _ h)
  have kc_121 := hts (.constant RX0 121 (99999)) (by decide +kernel)
  have ml_180 := hts (.methodLink RX0 180 Lib.Math.max.name) (by decide +kernel)
  have ms_max := hts (.static Lib.Math.max.name) (by decide +kernel)
  have mc_max := hts (.code Lib.Math.max.name Lib.Math.max.code 2 (some .int)) (by decide +kernel)
  have mi_Math := hts (.initialized "java/lang/Math") (by decide +kernel)
  have hl := lv_entry ([.ref (a 0), .int (nI i), .int (nI j)]) (n := 4) (Nat.le_of_ble_eq_true rfl)
  rw [lg_entry_eq]
  generalize (lg_sl ([.ref (a 0), .int (nI i), .int (nI j)]) ++ List.replicate (4 - (lg_sl ([.ref (a 0), .int (nI i), .int (nI j)])).length) Slot.unset).toArray = ls at hl ⊢
  have hl : lv_has ls 4 [(0, .ref (a 0)), (1, .int (nI i)), (2, .int (nI j))] := hl
  refine lv_aload_n hx hb dX0_leastLength_0 rfl (lv_at hl 0 rfl) ?_
  refine lv_iload_n hx hb dX0_leastLength_1 rfl (lv_at hl 2 rfl) ?_
  refine lv_iload_n hx hb dX0_leastLength_2 rfl (lv_at hl 1 rfl) ?_
  refine xr_V (b := a 0) (As := [.int (nI j), .int (nI i)]) (rest := []) ⟨hx, hb, hml, hown, hts⟩ (c_X0_boundFrom l D t a tc rc ro B j i (by omega) (by omega)) (cwV 2 hts gX0_leastLength_X0_boundFrom rfl rfl rfl hd_X0_boundFrom ⟨Nat.le_of_ble_eq_true rfl, Nat.le_of_ble_eq_true rfl⟩) hK hP (va_recv hK hP (ci := 0) (q0 := 0) rfl rfl) [0, 1] rfl rfl hl.1 rfl (Nat.le_of_ble_eq_true rfl) dX0_leastLength_3 ⟨(Nat.le_of_ble_eq_true rfl), (Nat.le_of_ble_eq_true rfl)⟩ ?_
  refine lv_istore_n (lv' := [(3, .int (B (j * 12 + i))), (0, .ref (a 0)), (1, .int (nI i)), (2, .int (nI j))]) hx hb dX0_leastLength_6 rfl hl (by decide) rfl (fun ls hl => ?_)
  refine lv_iload_n hx hb dX0_leastLength_7 rfl (lv_at hl 0 rfl) ?_
  refine lv_ldc (v := 99999) hx hb hown kc_121 dX0_leastLength_8 ?_
  refine lv_icmp_ne (x := B (j * 12 + i)) (y := 99999) (tgt := 18) hx hb dX0_leastLength_10 (by decide) (fun c_1 => ?_) (fun c_1 => ?_)
  · refine lv_bipush (v := (-99)) hx hb dX0_leastLength_18 (by decide) ?_
    refine lv_iload_n hx hb dX0_leastLength_20 rfl (lv_at hl 0 rfl) ?_
    refine lv_ineg hx hb dX0_leastLength_21 ?_
    refine va_mmax (x := (-99)) (y := -(B (j * 12 + i))) hx hb (hml.trans hl.1.symm) hown ml_180 ms_max mi_Math mc_max (Nat.le_of_ble_eq_true rfl) (Nat.le_of_ble_eq_true rfl) (Nat.le_of_ble_eq_true rfl) (Nat.le_of_ble_eq_true rfl) dX0_leastLength_22 ?_
    refine x_top (w := mxI (-99) (-(B (j * 12 + i)))) rfl ?_
    exact x_iret (v := mxI (-99) (-(B (j * 12 + i)))) hx hb hr hlocks (by simp [leastF, c_1]) dX0_leastLength_25
  · refine lv_bipush (v := (-99)) hx hb dX0_leastLength_13 (by decide) ?_
    refine lv_goto (tgt := 25) hx hb dX0_leastLength_15 (by decide) ?_
    exact x_iret (v := (-99)) hx hb hr hlocks (by simp [leastF, c_1]) dX0_leastLength_25
end
section
def actC (Z : Nat → Bool) (lo : Int32) : Nat → Bool := fun r => Z r && !(decide (nI r = lo))
def passF (F T : Nat → Nat) (L : Nat → Int32) (A : Nat → Bool) : Nat → Nat → (Nat → Int32) → Bool → (Nat → Int32) × Bool
  | 0, _, E, ch => (E, ch)
  | n + 1, r, E, ch => if A r = true ∧ E (F r) < E (T r) - L r then passF F T L A n (r + 1) (upd E (F r) (E (T r) - L r)) true else passF F T L A n (r + 1) E ch
def fillF (v : Int32) : Nat → Nat → (Nat → Int32) → Nat → Int32
  | 0, _, E => E
  | n + 1, i, E => fillF v n (i + 1) (upd E i v)
def rndF (F T : Nat → Nat) (L : Nat → Int32) (A : Nat → Bool) (rc : Nat) : Nat → Nat → (Nat → Int32) → (Nat → Int32) × Int32
  | 0, _, E => (E, -1)
  | n + 1, k, E => if (passF F T L A rc 0 E false).2 = true then rndF F T L A rc n (k + 1) (passF F T L A rc 0 E false).1 else ((passF F T L A rc 0 E false).1, nI (k + 1))
def findE (F T : Nat → Nat) (L : Nat → Int32) (A : Nat → Bool) (tc rc : Nat) (E : Nat → Int32) : (Nat → Int32) × Int32 := rndF F T L A rc (tc + 1) 0 (fillF 0 tc 0 E)
def shortB (B : Nat → Int32) (a b : Nat) (w : Int32) : Nat → Int32 := upd B (a * 12 + b) (mnI (B (a * 12 + b)) w)
def sbR (a : Nat) : Nat → Nat → (Nat → Int32) → Nat → Int32
  | 0, _, B => B
  | n + 1, b, B => sbR a n (b + 1) (upd B (a * 12 + b) (if a = b then 0 else 99999))
def sbA (tc : Nat) : Nat → Nat → (Nat → Int32) → Nat → Int32
  | 0, _, B => B
  | n + 1, a, B => sbA tc n (a + 1) (sbR a tc 0 B)
def sbW (F T : Nat → Nat) (L : Nat → Int32) (Z : Nat → Bool) : Nat → Nat → (Nat → Int32) → Nat → Int32
  | 0, _, B => B
  | n + 1, r, B => sbW F T L Z n (r + 1) (if Z r = true then shortB B (F r) (T r) (L r) else B)
def startF (F T : Nat → Nat) (L : Nat → Int32) (Z : Nat → Bool) (tc rc : Nat) (B : Nat → Int32) : Nat → Int32 := sbW F T L Z rc 0 (sbA tc tc 0 B)
def goF (a mid : Nat) (first : Int32) : Nat → Nat → (Nat → Int32) → Nat → Int32
  | 0, _, B => B
  | n + 1, b, B => goF a mid first n (b + 1) (if B (mid * 12 + b) = 99999 then B else shortB B a b (first + B (mid * 12 + b)))
def fbA (mid tc : Nat) : Nat → Nat → (Nat → Int32) → Nat → Int32
  | 0, _, B => B
  | n + 1, a, B => fbA mid tc n (a + 1) (if B (a * 12 + mid) = 99999 then B else goF a mid (B (a * 12 + mid)) tc 0 B)
def fbM (tc : Nat) : Nat → Nat → (Nat → Int32) → Nat → Int32
  | 0, _, B => B
  | n + 1, mid, B => fbM tc n (mid + 1) (fbA mid tc tc 0 B)
def findB (F T : Nat → Nat) (L : Nat → Int32) (Z : Nat → Bool) (tc rc : Nat) (B : Nat → Int32) : Nat → Int32 := fbM tc tc 0 (startF F T L Z tc rc B)
def sRo (F T : Nat → Nat) (L : Nat → Int32) (Z : Nat → Bool) (tc rc : Nat) (E : Nat → Int32) : Int32 := (findE F T L (actC Z (-1)) tc rc E).2
def sE (F T : Nat → Nat) (L : Nat → Int32) (Z : Nat → Bool) (tc rc : Nat) (E : Nat → Int32) : Nat → Int32 := (findE F T L (actC Z (-1)) tc rc E).1
def sB (F T : Nat → Nat) (L : Nat → Int32) (Z : Nat → Bool) (tc rc : Nat) (E B : Nat → Int32) : Nat → Int32 := if sRo F T L Z tc rc E = -1 then B else findB F T L Z tc rc B
/-- rounds, earliest, bound -/
abbrev xS3 : Type := Int32 × (Nat → Int32) × (Nat → Int32)
def settF (F T : Nat → Nat) (L : Nat → Int32) (Z : Nat → Bool) (tc rc : Nat) (E B : Nat → Int32) : xS3 := (sRo F T L Z tc rc E, sE F T L Z tc rc E, sB F T L Z tc rc E B)
/-- length, rounds, earliest, bound -/
abbrev xS4 : Type := (Nat → Int32) × xS3
def tOneD (F T : Nat → Nat) (r : Nat) (q : xS4) : Int32 := q.1 r - leastF q.2.2.2 (F r) (T r)
def tOneS (F T : Nat → Nat) (Z : Nat → Bool) (tc rc r : Nat) (q : xS4) : xS4 :=
  if 0 < tOneD F T r q then (upd q.1 r (q.1 r - tOneD F T r q), settF F T (upd q.1 r (q.1 r - tOneD F T r q)) Z tc rc q.2.2.1 q.2.2.2) else q
def tAll (F T : Nat → Nat) (Z : Nat → Bool) (tc rc : Nat) : Nat → Nat → Int32 → xS4 → Int32 × xS4
  | 0, _, sm, q => (sm, q)
  | n + 1, r, sm, q => if Z r = true then tAll F T Z tc rc n (r + 1) (sm + tOneD F T r q) (tOneS F T Z tc rc r q) else tAll F T Z tc rc n (r + 1) sm q
def goW (F T : Nat → Nat) (L : Nat → Int32) (Z : Nat → Bool) (R : Nat → Int32) : Nat → Nat → (Nat → Int32) → Nat → Int32
  | 0, _, N => N
  | n + 1, r, N => goW F T L Z R n (r + 1) (if Z r = true ∧ ¬ R (F r) = 99999 then upd N (T r) (mnI (N (T r)) (R (F r) + L r)) else N)
def copyF (N : Nat → Int32) : Nat → Nat → (Nat → Int32) → Nat → Int32
  | 0, _, R => R
  | n + 1, i, R => copyF N n (i + 1) (upd R i (N i))
/-- reach, nextReach behind one rope more -/
def oneR (F T : Nat → Nat) (L : Nat → Int32) (Z : Nat → Bool) (tc rc : Nat) (q : (Nat → Int32) × (Nat → Int32)) : (Nat → Int32) × (Nat → Int32) :=
  (copyF (goW F T L Z q.1 rc 0 (fillF 99999 tc 0 q.2)) tc 0 q.1, goW F T L Z q.1 rc 0 (fillF 99999 tc 0 q.2))
/-- how many ropes, or 0; reach, nextReach -/
def ringL (F T : Nat → Nat) (L : Nat → Int32) (Z : Nat → Bool) (tc rc st : Nat) : Nat → Nat → (Nat → Int32) × (Nat → Int32) → Nat × (Nat → Int32) × (Nat → Int32)
  | 0, _, q => (0, q)
  | n + 1, k, q => if (oneR F T L Z tc rc q).1 st < 0 then (k, oneR F T L Z tc rc q) else ringL F T L Z tc rc st n (k + 1) (oneR F T L Z tc rc q)
def ringS (F T : Nat → Nat) (L : Nat → Int32) (Z : Nat → Bool) (tc rc st : Nat) (q : (Nat → Int32) × (Nat → Int32)) : Nat × (Nat → Int32) × (Nat → Int32) :=
  ringL F T L Z tc rc st tc 1 (upd (fillF 99999 tc 0 q.1) st 0, q.2)
def ringA (F T : Nat → Nat) (L : Nat → Int32) (Z : Nat → Bool) (tc rc : Nat) : Nat → Nat → Nat → (Nat → Int32) × (Nat → Int32) → Nat × (Nat → Int32) × (Nat → Int32)
  | 0, _, few, q => (few, q)
  | n + 1, st, few, q => ringA F T L Z tc rc n (st + 1) (if ¬ (ringS F T L Z tc rc st q).1 = 0 ∧ (few = 0 ∨ (ringS F T L Z tc rc st q).1 < few) then (ringS F T L Z tc rc st q).1 else few) (ringS F T L Z tc rc st q).2
def tightA (F T : Nat → Nat) (Z : Nat → Bool) (tc rc : Nat) (q : xS4) : Int32 × xS4 := if q.2.1 = -1 then (0, q) else tAll F T Z tc rc rc 0 0 q
theorem ringL_le (F T : Nat → Nat) (L : Nat → Int32) (Z : Nat → Bool) (tc rc st : Nat) : ∀ n k q, (ringL F T L Z tc rc st n k q).1 ≤ k + n
  | 0, _, _ => Nat.zero_le _
  | n + 1, k, q => by
    show (if _ then _ else _ : Nat × (Nat → Int32) × (Nat → Int32)).1 ≤ _
    split
    · show k ≤ _
      omega
    · have := ringL_le F T L Z tc rc st n (k + 1) (oneR F T L Z tc rc q)
      omega
theorem ringS_le (F T : Nat → Nat) (L : Nat → Int32) (Z : Nat → Bool) (tc rc st : Nat) (q : (Nat → Int32) × (Nat → Int32)) : (ringS F T L Z tc rc st q).1 ≤ tc + 1 := by
  have := ringL_le F T L Z tc rc st tc 1 (upd (fillF 99999 tc 0 q.1) st 0, q.2)
  unfold ringS
  omega
end
section
theorem hd_X0_pushOnce : yX0_pushOnce.cls = RX0 ∧ yX0_pushOnce.cls ≠ "java/lang/invoke/MethodHandle" ∧ yX0_pushOnce.cls ≠ "java/lang/invoke/VarHandle" ∧ (parseMethodDescriptor yX0_pushOnce.desc).map (fun d => d.parameters.length) = some 2 := by decide +kernel
theorem hd_X0_findEarliest : yX0_findEarliest.cls = RX0 ∧ yX0_findEarliest.cls ≠ "java/lang/invoke/MethodHandle" ∧ yX0_findEarliest.cls ≠ "java/lang/invoke/VarHandle" ∧ (parseMethodDescriptor yX0_findEarliest.desc).map (fun d => d.parameters.length) = some 2 := by decide +kernel
theorem hd_X0_shortenBound : yX0_shortenBound.cls = RX0 ∧ yX0_shortenBound.cls ≠ "java/lang/invoke/MethodHandle" ∧ yX0_shortenBound.cls ≠ "java/lang/invoke/VarHandle" ∧ (parseMethodDescriptor yX0_shortenBound.desc).map (fun d => d.parameters.length) = some 3 := by decide +kernel
theorem hd_X0_startBounds : yX0_startBounds.cls = RX0 ∧ yX0_startBounds.cls ≠ "java/lang/invoke/MethodHandle" ∧ yX0_startBounds.cls ≠ "java/lang/invoke/VarHandle" ∧ (parseMethodDescriptor yX0_startBounds.desc).map (fun d => d.parameters.length) = some 0 := by decide +kernel
theorem hd_X0_goOnOver : yX0_goOnOver.cls = RX0 ∧ yX0_goOnOver.cls ≠ "java/lang/invoke/MethodHandle" ∧ yX0_goOnOver.cls ≠ "java/lang/invoke/VarHandle" ∧ (parseMethodDescriptor yX0_goOnOver.desc).map (fun d => d.parameters.length) = some 2 := by decide +kernel
theorem hd_X0_findBounds : yX0_findBounds.cls = RX0 ∧ yX0_findBounds.cls ≠ "java/lang/invoke/MethodHandle" ∧ yX0_findBounds.cls ≠ "java/lang/invoke/VarHandle" ∧ (parseMethodDescriptor yX0_findBounds.desc).map (fun d => d.parameters.length) = some 0 := by decide +kernel
theorem hd_X0_settle : yX0_settle.cls = RX0 ∧ yX0_settle.cls ≠ "java/lang/invoke/MethodHandle" ∧ yX0_settle.cls ≠ "java/lang/invoke/VarHandle" ∧ (parseMethodDescriptor yX0_settle.desc).map (fun d => d.parameters.length) = some 0 := by decide +kernel
theorem hd_X0_goOneRope : yX0_goOneRope.cls = RX0 ∧ yX0_goOneRope.cls ≠ "java/lang/invoke/MethodHandle" ∧ yX0_goOneRope.cls ≠ "java/lang/invoke/VarHandle" ∧ (parseMethodDescriptor yX0_goOneRope.desc).map (fun d => d.parameters.length) = some 0 := by decide +kernel
theorem hd_X0_shortRingFrom : yX0_shortRingFrom.cls = RX0 ∧ yX0_shortRingFrom.cls ≠ "java/lang/invoke/MethodHandle" ∧ yX0_shortRingFrom.cls ≠ "java/lang/invoke/VarHandle" ∧ (parseMethodDescriptor yX0_shortRingFrom.desc).map (fun d => d.parameters.length) = some 1 := by decide +kernel
theorem hd_X0_shortRingLength : yX0_shortRingLength.cls = RX0 ∧ yX0_shortRingLength.cls ≠ "java/lang/invoke/MethodHandle" ∧ yX0_shortRingLength.cls ≠ "java/lang/invoke/VarHandle" ∧ (parseMethodDescriptor yX0_shortRingLength.desc).map (fun d => d.parameters.length) = some 0 := by decide +kernel
theorem hd_X0_tightenOne : yX0_tightenOne.cls = RX0 ∧ yX0_tightenOne.cls ≠ "java/lang/invoke/MethodHandle" ∧ yX0_tightenOne.cls ≠ "java/lang/invoke/VarHandle" ∧ (parseMethodDescriptor yX0_tightenOne.desc).map (fun d => d.parameters.length) = some 1 := by decide +kernel
theorem hd_X0_tighten : yX0_tighten.cls = RX0 ∧ yX0_tighten.cls ≠ "java/lang/invoke/MethodHandle" ∧ yX0_tighten.cls ≠ "java/lang/invoke/VarHandle" ∧ (parseMethodDescriptor yX0_tighten.desc).map (fun d => d.parameters.length) = some 0 := by decide +kernel
set_option maxHeartbeats 4000000 in
set_option maxRecDepth 100000 in
theorem c_X0_pushOnce (l : Launch) (D : va_G) (t : Nat → ClassId) (a : Nat → Nat) (tc rc : Nat) (ro : Int32) (F T : Nat → Nat) (L : Nat → Int32) (Z : Nat → Bool) (q : Nat) (E : Nat → Int32) (lo : Int32) (sz : Nat) (htc : tc ≤ 12) (hrc : rc ≤ 30) (hF : ∀ r, r < rc → F r < tc ∧ T r < tc) : Met l yX0_pushOnce wsX0_pushOnce ({ frames := 0, cells := 0, slots := 0, locals := 0 }) (xMu D (xTy t) (fun _ => True) [.ref (a 0), .ref q, .int lo] [xObj a tc rc ro, xArr (t 0) (a 1) 30 (xN F), xArr (t 0) (a 2) 30 (xN T), xArr (t 0) (a 3) 30 L, xArr (t 1) (a 4) 30 (xB Z), xArr (t 0) q 12 E] sz) (xQm D (fun u : Unit => True) (fun u : Unit => some (.int (bI ((passF F T L (actC Z lo) rc 0 E false).2)))) [xObj a tc rc ro, xArr (t 0) (a 1) 30 (xN F), xArr (t 0) (a 2) 30 (xN T), xArr (t 0) (a 3) 30 L, xArr (t 1) (a 4) 30 (xB Z), xArr (t 0) q 12 E] (fun u : Unit => [xObj a tc rc ro, xArr (t 0) (a 1) 30 (xN F), xArr (t 0) (a 2) 30 (xN T), xArr (t 0) (a 3) 30 L, xArr (t 1) (a 4) 30 (xB Z), xArr (t 0) q 12 ((passF F T L (actC Z lo) rc 0 E false).1)]) sz) 0 0 (va_A [xObj a tc rc ro, xArr (t 0) (a 1) 30 (xN F), xArr (t 0) (a 2) 30 (xN T), xArr (t 0) (a 3) 30 L, xArr (t 1) (a 4) 30 (xB Z), xArr (t 0) q 12 E] sz) := by
  refine Met.ofW (cc := cX0_pushOnce) (maxL := 6) (ret := (some .boolean)) (by decide) rfl ?_
  intro p e s m args below meth c s₁ hB9 hml hv
  obtain ⟨rfl, hsz, hP, hK, hD0, hXX⟩ := hv
  have hx := hB9.exec
  have hb := hB9.bytes
  have hr := hB9.returns
  have hts := atoms_spec (ws := wsX0_pushOnce) hB9.pre
  have hown : s.vm.findClass RX0 = some m.cls := findClass_of_methodNamed hB9.named
  have hlocks := hB9.notSynchronized
  have hin : ∀ w ∈ wsX00, w ∈ wsX0_pushOnce := fun _ h => List.mem_cons_of_mem _ (List.mem_append_right _ h)
  have fl_63 := hts (.fieldLink RX0 63 "RopeTimes" "ropeCount" "I") (by decide +kernel)
  have fl_19 := hts (.fieldLink RX0 19 "RopeTimes" "tied" "[Z") (by decide +kernel)
  have fl_13 := hts (.fieldLink RX0 13 "RopeTimes" "to" "[I") (by decide +kernel)
  have fl_16 := hts (.fieldLink RX0 16 "RopeTimes" "length" "[I") (by decide +kernel)
  have fl_9 := hts (.fieldLink RX0 9 "RopeTimes" "from" "[I") (by decide +kernel)
  subst hsz
  have hD := hD0.self (sz := s.heap.size)
  generalize hAe : va_A ([xObj a tc rc ro, xArr (t 0) (a 1) 30 (xN F), xArr (t 0) (a 2) 30 (xN T), xArr (t 0) (a 3) 30 L, xArr (t 1) (a 4) 30 (xB Z), xArr (t 0) q 12 E]) s.heap.size = A at hD ⊢
  have hA : ∀ q : Nat, s.heap.size ≤ q → A q := fun q h => by rw [← hAe]; exact Or.inr h
  have hS : va_S A s.heap s.heap [] := va_S.rf
  have hP : va_P D vwCl ([xObj a tc rc ro, xArr (t 0) (a 1) 30 (xN F), xArr (t 0) (a 2) 30 (xN T), xArr (t 0) (a 3) 30 L, xArr (t 1) (a 4) 30 (xB Z), xArr (t 0) q 12 E]) s.heap := hP
  have hD : va_D A ([xObj a tc rc ro, xArr (t 0) (a 1) 30 (xN F), xArr (t 0) (a 2) 30 (xN T), xArr (t 0) (a 3) 30 L, xArr (t 1) (a 4) 30 (xB Z), xArr (t 0) q 12 E]) := hD
  have hl := lv_entry ([.ref (a 0), .ref q, .int lo]) (n := 6) (Nat.le_of_ble_eq_true rfl)
  rw [lg_entry_eq]
  generalize (lg_sl ([.ref (a 0), .ref q, .int lo]) ++ List.replicate (6 - (lg_sl ([.ref (a 0), .ref q, .int lo])).length) Slot.unset).toArray = ls at hl ⊢
  have hl : lv_has ls 6 [(0, .ref (a 0)), (1, .ref q), (2, .int lo)] := hl
  refine lv_iconst (v := 0) hx hb dX0_pushOnce_0 (by decide) ?_
  refine lv_istore_n (lv' := [(3, .int 0), (0, .ref (a 0)), (1, .ref q), (2, .int lo)]) hx hb dX0_pushOnce_1 rfl hl (by decide) rfl (fun ls hl => ?_)
  refine lv_iconst (v := 0) hx hb dX0_pushOnce_2 (by decide) ?_
  refine lv_istore (lv' := [(4, .int 0), (3, .int 0), (0, .ref (a 0)), (1, .ref q), (2, .int lo)]) hx hb dX0_pushOnce_3 hl (by decide) rfl (fun ls hl => ?_)
  have lp_5 : ∀ (n5 : Nat) (r : Nat) (E1 : Nat → Int32) (ch : Bool), r + n5 = rc → passF F T L (actC Z lo) n5 r E1 ch = passF F T L (actC Z lo) rc 0 E false → ∀ (H : Heap) (locs : List Loc), va_P D vwCl ([xObj a tc rc ro, xArr (t 0) (a 1) 30 (xN F), xArr (t 0) (a 2) 30 (xN T), xArr (t 0) (a 3) 30 L, xArr (t 1) (a 4) 30 (xB Z), xArr (t 0) q 12 E1]) H → va_D A ([xObj a tc rc ro, xArr (t 0) (a 1) 30 (xN F), xArr (t 0) (a 2) 30 (xN T), xArr (t 0) (a 3) 30 L, xArr (t 1) (a 4) 30 (xB Z), xArr (t 0) q 12 E1]) → va_S A s.heap H locs → ∀ ls : Array Slot, lv_has ls 6 [(4, .int (nI r)), (3, .int (bI ch)), (0, .ref (a 0)), (1, .ref q), (2, .int lo)] → W p l e (headSpec wsX0_pushOnce ({ frames := 0, cells := 0, slots := 0, locals := 0 } : Jvm.Room)).room s m (([.ref (a 0), .ref q, .int lo] : List Value).toArray) below meth c H locs 0 0 (MQ below (xQm D (fun u : Unit => True) (fun u : Unit => some (.int (bI ((passF F T L (actC Z lo) rc 0 E false).2)))) [xObj a tc rc ro, xArr (t 0) (a 1) 30 (xN F), xArr (t 0) (a 2) 30 (xN T), xArr (t 0) (a 3) 30 L, xArr (t 1) (a 4) 30 (xB Z), xArr (t 0) q 12 E] (fun u : Unit => [xObj a tc rc ro, xArr (t 0) (a 1) 30 (xN F), xArr (t 0) (a 2) 30 (xN T), xArr (t 0) (a 3) 30 L, xArr (t 1) (a 4) 30 (xB Z), xArr (t 0) q 12 ((passF F T L (actC Z lo) rc 0 E false).1)]) s.heap.size) (([.ref (a 0), .ref q, .int lo] : List Value).toArray) s 0 0 A) (F0 m 5 ls []) := by
    intro n5
    induction n5 using Nat.strongRecOn with
    | _ n5 ih_5 =>
      intro r E1 ch hm_5 hfin_5 H locs hP hD hS ls hl
      refine lv_iload hx hb dX0_pushOnce_5 (lv_at hl 0 rfl) ?_
      refine lv_aload_n hx hb dX0_pushOnce_7 rfl (lv_at hl 2 rfl) ?_
      refine x0_get (v := .int (nI rc)) hx hb hts hin hown hK hP 0 rfl 1 (by decide) fl_63 rfl dX0_pushOnce_8 rfl ?_
      refine lv_icmp_ge (x := nI r) (y := nI rc) (tgt := 82) hx hb dX0_pushOnce_11 (by decide) (fun c_1 => ?_) (fun c_1 => ?_)
      · have c_1 := (nI_leI (a := rc) (b := r) (by omega) (by omega)).mp c_1
        have hn0_5 : n5 = 0 := by omega
        subst hn0_5
        obtain rfl : E1 = (passF F T L (actC Z lo) rc 0 E false).1 := congrArg (fun z => z.1) hfin_5
        obtain rfl : ch = (passF F T L (actC Z lo) rc 0 E false).2 := congrArg (fun z => z.2) hfin_5
        refine lv_iload_n hx hb dX0_pushOnce_82 rfl (lv_at hl 1 rfl) ?_
        subst hAe
        obtain ⟨hq9, hf9⟩ := xm_end (S := Unit) (pu := (fun u : Unit => True)) (r := (fun u : Unit => some (.int (bI ((passF F T L (actC Z lo) rc 0 E false).2))))) (wc := [xObj a tc rc ro, xArr (t 0) (a 1) 30 (xN F), xArr (t 0) (a 2) 30 (xN T), xArr (t 0) (a 3) 30 L, xArr (t 1) (a 4) 30 (xB Z), xArr (t 0) q 12 E]) (w1 := (fun u : Unit => [xObj a tc rc ro, xArr (t 0) (a 1) 30 (xN F), xArr (t 0) (a 2) 30 (xN T), xArr (t 0) (a 3) 30 L, xArr (t 1) (a 4) 30 (xB Z), xArr (t 0) q 12 ((passF F T L (actC Z lo) rc 0 E false).1)])) (o := some (.int (bI ((passF F T L (actC Z lo) rc 0 E false).2)))) (args := ([.ref (a 0), .ref q, .int lo] : List Value).toArray) () rfl trivial rfl hP hD hS
        exact W.zret hx hb hr (x_narB _) hq9 hf9 dX0_pushOnce_83 hlocks
      · have c_1 : r < rc := Nat.lt_of_not_le (fun z9 => c_1 ((nI_leI (a := rc) (b := r) (by omega) (by omega)).mpr z9))
        obtain ⟨n59, rfl⟩ : ∃ z, n5 = z + 1 := ⟨n5 - 1, by omega⟩
        refine lv_aload_n hx hb dX0_pushOnce_14 rfl (lv_at hl 2 rfl) ?_
        refine x0_get (v := .ref (a 4)) hx hb hts hin hown hK hP 0 rfl 5 (by decide) fl_19 rfl dX0_pushOnce_15 rfl ?_
        refine lv_iload hx hb dX0_pushOnce_18 (lv_at hl 0 rfl) ?_
        refine x_zald (f := xB Z) hx hb hK hP 4 1 rfl rfl (k := r) (by omega) (Nat.le_of_ble_eq_true rfl) dX0_pushOnce_20 ?_
        refine x_top (w := bI (Z r)) rfl ?_
        refine lv_if_eq (x := bI (Z r)) (tgt := 76) hx hb dX0_pushOnce_21 (by decide) (fun c_2 => ?_) (fun c_2 => ?_)
        · have c_2 := bI_0 c_2
          refine lv_iinc (v := nI (r + 1)) (lv' := [(4, .int (nI (r + 1))), (3, .int (bI ch)), (0, .ref (a 0)), (1, .ref q), (2, .int lo)]) hx hb dX0_pushOnce_76 hl (k := 0) rfl (x_inc _) (by decide) rfl (fun ls hl => ?_)
          refine lv_goto (tgt := 5) hx hb dX0_pushOnce_79 (by decide) ?_
          exact ih_5 n59 (by omega) (r + 1) E1 ch (by omega) (by rw [← hfin_5]; simp [passF, actC, c_1, c_2]) _ _ hP hD hS _ (lv_sub hl [0, 1, 2, 3, 4] rfl)
        · have c_2 := bI_n0 c_2
          refine lv_iload hx hb dX0_pushOnce_24 (lv_at hl 0 rfl) ?_
          refine lv_iload_n hx hb dX0_pushOnce_26 rfl (lv_at hl 4 rfl) ?_
          refine lv_icmp_eq (x := nI r) (y := lo) (tgt := 76) hx hb dX0_pushOnce_27 (by decide) (fun c_3 => ?_) (fun c_3 => ?_)
          · refine lv_iinc (v := nI (r + 1)) (lv' := [(4, .int (nI (r + 1))), (3, .int (bI ch)), (0, .ref (a 0)), (1, .ref q), (2, .int lo)]) hx hb dX0_pushOnce_76 hl (k := 0) rfl (x_inc _) (by decide) rfl (fun ls hl => ?_)
            refine lv_goto (tgt := 5) hx hb dX0_pushOnce_79 (by decide) ?_
            exact ih_5 n59 (by omega) (r + 1) E1 ch (by omega) (by rw [← hfin_5]; simp [passF, actC, c_1, c_2, c_3]) _ _ hP hD hS _ (lv_sub hl [0, 1, 2, 3, 4] rfl)
          · refine lv_aload_n hx hb dX0_pushOnce_30 rfl (lv_at hl 3 rfl) ?_
            refine lv_aload_n hx hb dX0_pushOnce_31 rfl (lv_at hl 2 rfl) ?_
            refine x0_get (v := .ref (a 2)) hx hb hts hin hown hK hP 0 rfl 3 (by decide) fl_13 rfl dX0_pushOnce_32 rfl ?_
            refine lv_iload hx hb dX0_pushOnce_35 (lv_at hl 0 rfl) ?_
            refine x_iald (f := xN T) hx hb hK hP 2 0 rfl rfl (k := r) (by omega) (Nat.le_of_ble_eq_true rfl) dX0_pushOnce_37 ?_
            refine x_top (w := nI (T r)) rfl ?_
            have hf_4 := hF r (by omega)
            refine x_iald (f := E1) hx hb hK hP 5 0 rfl rfl (k := T r) (by omega) (Nat.le_of_ble_eq_true rfl) dX0_pushOnce_38 ?_
            refine lv_aload_n hx hb dX0_pushOnce_39 rfl (lv_at hl 2 rfl) ?_
            refine x0_get (v := .ref (a 3)) hx hb hts hin hown hK hP 0 rfl 4 (by decide) fl_16 rfl dX0_pushOnce_40 rfl ?_
            refine lv_iload hx hb dX0_pushOnce_43 (lv_at hl 0 rfl) ?_
            refine x_iald (f := L) hx hb hK hP 3 0 rfl rfl (k := r) (by omega) (Nat.le_of_ble_eq_true rfl) dX0_pushOnce_45 ?_
            refine lv_isub (x := E1 (T r)) (y := L r) hx hb dX0_pushOnce_46 ?_
            refine lv_istore (lv' := [(5, .int ((E1 (T r)) - (L r))), (4, .int (nI r)), (3, .int (bI ch)), (0, .ref (a 0)), (1, .ref q), (2, .int lo)]) hx hb dX0_pushOnce_47 hl (by decide) rfl (fun ls hl => ?_)
            refine lv_aload_n hx hb dX0_pushOnce_49 rfl (lv_at hl 4 rfl) ?_
            refine lv_aload_n hx hb dX0_pushOnce_50 rfl (lv_at hl 3 rfl) ?_
            refine x0_get (v := .ref (a 1)) hx hb hts hin hown hK hP 0 rfl 2 (by decide) fl_9 rfl dX0_pushOnce_51 rfl ?_
            refine lv_iload hx hb dX0_pushOnce_54 (lv_at hl 1 rfl) ?_
            refine x_iald (f := xN F) hx hb hK hP 1 0 rfl rfl (k := r) (by omega) (Nat.le_of_ble_eq_true rfl) dX0_pushOnce_56 ?_
            refine x_top (w := nI (F r)) rfl ?_
            have hf_5 := hF r (by omega)
            refine x_iald (f := E1) hx hb hK hP 5 0 rfl rfl (k := F r) (by omega) (Nat.le_of_ble_eq_true rfl) dX0_pushOnce_57 ?_
            refine lv_iload hx hb dX0_pushOnce_58 (lv_at hl 0 rfl) ?_
            refine lv_icmp_ge (x := E1 (F r)) (y := (E1 (T r)) - (L r)) (tgt := 76) hx hb dX0_pushOnce_60 (by decide) (fun c_6 => ?_) (fun c_6 => ?_)
            · have c_6 := Int32.not_lt.mpr c_6
              refine lv_iinc (v := nI (r + 1)) (lv' := [(4, .int (nI (r + 1))), (5, .int ((E1 (T r)) - (L r))), (3, .int (bI ch)), (0, .ref (a 0)), (1, .ref q), (2, .int lo)]) hx hb dX0_pushOnce_76 hl (k := 1) rfl (x_inc _) (by decide) rfl (fun ls hl => ?_)
              refine lv_goto (tgt := 5) hx hb dX0_pushOnce_79 (by decide) ?_
              exact ih_5 n59 (by omega) (r + 1) E1 ch (by omega) (by rw [← hfin_5]; simp [passF, actC, c_1, c_2, c_3, c_6]) _ _ hP hD hS _ (lv_sub hl [0, 2, 3, 4, 5] rfl)
            · have c_6 := Int32.not_le.mp c_6
              refine lv_aload_n hx hb dX0_pushOnce_63 rfl (lv_at hl 4 rfl) ?_
              refine lv_aload_n hx hb dX0_pushOnce_64 rfl (lv_at hl 3 rfl) ?_
              refine x0_get (v := .ref (a 1)) hx hb hts hin hown hK hP 0 rfl 2 (by decide) fl_9 rfl dX0_pushOnce_65 rfl ?_
              refine lv_iload hx hb dX0_pushOnce_68 (lv_at hl 1 rfl) ?_
              refine x_iald (f := xN F) hx hb hK hP 1 0 rfl rfl (k := r) (by omega) (Nat.le_of_ble_eq_true rfl) dX0_pushOnce_70 ?_
              refine x_top (w := nI (F r)) rfl ?_
              have hf_7 := hF r (by omega)
              refine lv_iload hx hb dX0_pushOnce_71 (lv_at hl 0 rfl) ?_
              refine x_iast (x := (E1 (T r)) - (L r)) (f := E1) hx hb hK hP hD hS 5 0 ([xObj a tc rc ro, xArr (t 0) (a 1) 30 (xN F), xArr (t 0) (a 2) 30 (xN T), xArr (t 0) (a 3) 30 L, xArr (t 1) (a 4) 30 (xB Z), xArr (t 0) q 12 (upd E1 (F r) ((E1 (T r)) - (L r)))]) rfl rfl (k := F r) rfl (by omega) (Nat.le_of_ble_eq_true rfl) dX0_pushOnce_73 (fun H locs hP hD hS => ?_)
              refine lv_iconst (v := 1) hx hb dX0_pushOnce_74 (by decide) ?_
              refine lv_istore_n (lv' := [(3, .int 1), (5, .int ((E1 (T r)) - (L r))), (4, .int (nI r)), (0, .ref (a 0)), (1, .ref q), (2, .int lo)]) hx hb dX0_pushOnce_75 rfl hl (by decide) rfl (fun ls hl => ?_)
              refine lv_iinc (v := nI (r + 1)) (lv' := [(4, .int (nI (r + 1))), (3, .int 1), (5, .int ((E1 (T r)) - (L r))), (0, .ref (a 0)), (1, .ref q), (2, .int lo)]) hx hb dX0_pushOnce_76 hl (k := 2) rfl (x_inc _) (by decide) rfl (fun ls hl => ?_)
              refine lv_goto (tgt := 5) hx hb dX0_pushOnce_79 (by decide) ?_
              exact ih_5 n59 (by omega) (r + 1) (upd E1 (F r) ((E1 (T r)) - (L r))) true (by omega) (by rw [← hfin_5]; simp [passF, actC, c_1, c_2, c_3, c_6]) _ _ hP hD hS _ (lv_sub hl [0, 1, 3, 4, 5] rfl)
  exact lp_5 rc 0 E false (by omega) rfl _ _ hP hD hS _ (lv_sub hl [0, 1, 2, 3, 4] rfl)
set_option maxHeartbeats 4000000 in
set_option maxRecDepth 100000 in
theorem c_X0_findEarliest (l : Launch) (D : va_G) (t : Nat → ClassId) (a : Nat → Nat) (tc rc : Nat) (ro : Int32) (F T : Nat → Nat) (L : Nat → Int32) (Z : Nat → Bool) (q : Nat) (E : Nat → Int32) (lo : Int32) (sz : Nat) (htc : tc ≤ 12) (hrc : rc ≤ 30) (hF : ∀ r, r < rc → F r < tc ∧ T r < tc) : Met l yX0_findEarliest wsX0_findEarliest ({ frames := 1, cells := 0, slots := 0, locals := 25 }) (xMu D (xTy t) (fun _ => True) [.ref (a 0), .ref q, .int lo] [xObj a tc rc ro, xArr (t 0) (a 1) 30 (xN F), xArr (t 0) (a 2) 30 (xN T), xArr (t 0) (a 3) 30 L, xArr (t 1) (a 4) 30 (xB Z), xArr (t 0) q 12 E] sz) (xQm D (fun u : Unit => True) (fun u : Unit => some (.int ((findE F T L (actC Z lo) tc rc E).2))) [xObj a tc rc ro, xArr (t 0) (a 1) 30 (xN F), xArr (t 0) (a 2) 30 (xN T), xArr (t 0) (a 3) 30 L, xArr (t 1) (a 4) 30 (xB Z), xArr (t 0) q 12 E] (fun u : Unit => [xObj a tc rc ro, xArr (t 0) (a 1) 30 (xN F), xArr (t 0) (a 2) 30 (xN T), xArr (t 0) (a 3) 30 L, xArr (t 1) (a 4) 30 (xB Z), xArr (t 0) q 12 ((findE F T L (actC Z lo) tc rc E).1)]) sz) 0 0 (va_A [xObj a tc rc ro, xArr (t 0) (a 1) 30 (xN F), xArr (t 0) (a 2) 30 (xN T), xArr (t 0) (a 3) 30 L, xArr (t 1) (a 4) 30 (xB Z), xArr (t 0) q 12 E] sz) := by
  refine Met.ofW (cc := cX0_findEarliest) (maxL := 4) (ret := (some .int)) (by decide) rfl ?_
  intro p e s m args below meth c s₁ hB9 hml hv
  obtain ⟨rfl, hsz, hP, hK, hD0, hXX⟩ := hv
  have hx := hB9.exec
  have hb := hB9.bytes
  have hr := hB9.returns
  have hts := atoms_spec (ws := wsX0_findEarliest) hB9.pre
  have hown : s.vm.findClass RX0 = some m.cls := findClass_of_methodNamed hB9.named
  have hlocks := hB9.notSynchronized
  have hin : ∀ w ∈ wsX00, w ∈ wsX0_findEarliest := fun _ h => List.mem_cons_of_mem _ (List.mem_append_right _ h)
  have fl_41 := hts (.fieldLink RX0 41 "RopeTimes" "turnCount" "I") (by decide +kernel)
  subst hsz
  have hD := hD0.self (sz := s.heap.size)
  generalize hAe : va_A ([xObj a tc rc ro, xArr (t 0) (a 1) 30 (xN F), xArr (t 0) (a 2) 30 (xN T), xArr (t 0) (a 3) 30 L, xArr (t 1) (a 4) 30 (xB Z), xArr (t 0) q 12 E]) s.heap.size = A at hD ⊢
  have hA : ∀ q : Nat, s.heap.size ≤ q → A q := fun q h => by rw [← hAe]; exact Or.inr h
  have hS : va_S A s.heap s.heap [] := va_S.rf
  have hP : va_P D vwCl ([xObj a tc rc ro, xArr (t 0) (a 1) 30 (xN F), xArr (t 0) (a 2) 30 (xN T), xArr (t 0) (a 3) 30 L, xArr (t 1) (a 4) 30 (xB Z), xArr (t 0) q 12 E]) s.heap := hP
  have hD : va_D A ([xObj a tc rc ro, xArr (t 0) (a 1) 30 (xN F), xArr (t 0) (a 2) 30 (xN T), xArr (t 0) (a 3) 30 L, xArr (t 1) (a 4) 30 (xB Z), xArr (t 0) q 12 E]) := hD
  have hl := lv_entry ([.ref (a 0), .ref q, .int lo]) (n := 4) (Nat.le_of_ble_eq_true rfl)
  rw [lg_entry_eq]
  generalize (lg_sl ([.ref (a 0), .ref q, .int lo]) ++ List.replicate (4 - (lg_sl ([.ref (a 0), .ref q, .int lo])).length) Slot.unset).toArray = ls at hl ⊢
  have hl : lv_has ls 4 [(0, .ref (a 0)), (1, .ref q), (2, .int lo)] := hl
  refine lv_iconst (v := 0) hx hb dX0_findEarliest_0 (by decide) ?_
  refine lv_istore_n (lv' := [(3, .int 0), (0, .ref (a 0)), (1, .ref q), (2, .int lo)]) hx hb dX0_findEarliest_1 rfl hl (by decide) rfl (fun ls hl => ?_)
  have lp_2 : ∀ (n2 : Nat) (i : Nat) (E1 : Nat → Int32), i + n2 = tc → fillF 0 n2 i E1 = fillF 0 tc 0 E → ∀ (H : Heap) (locs : List Loc), va_P D vwCl ([xObj a tc rc ro, xArr (t 0) (a 1) 30 (xN F), xArr (t 0) (a 2) 30 (xN T), xArr (t 0) (a 3) 30 L, xArr (t 1) (a 4) 30 (xB Z), xArr (t 0) q 12 E1]) H → va_D A ([xObj a tc rc ro, xArr (t 0) (a 1) 30 (xN F), xArr (t 0) (a 2) 30 (xN T), xArr (t 0) (a 3) 30 L, xArr (t 1) (a 4) 30 (xB Z), xArr (t 0) q 12 E1]) → va_S A s.heap H locs → ∀ ls : Array Slot, lv_has ls 4 [(3, .int (nI i)), (0, .ref (a 0)), (1, .ref q), (2, .int lo)] → W p l e (headSpec wsX0_findEarliest ({ frames := 1, cells := 0, slots := 0, locals := 25 } : Jvm.Room)).room s m (([.ref (a 0), .ref q, .int lo] : List Value).toArray) below meth c H locs 0 0 (MQ below (xQm D (fun u : Unit => True) (fun u : Unit => some (.int ((findE F T L (actC Z lo) tc rc E).2))) [xObj a tc rc ro, xArr (t 0) (a 1) 30 (xN F), xArr (t 0) (a 2) 30 (xN T), xArr (t 0) (a 3) 30 L, xArr (t 1) (a 4) 30 (xB Z), xArr (t 0) q 12 E] (fun u : Unit => [xObj a tc rc ro, xArr (t 0) (a 1) 30 (xN F), xArr (t 0) (a 2) 30 (xN T), xArr (t 0) (a 3) 30 L, xArr (t 1) (a 4) 30 (xB Z), xArr (t 0) q 12 ((findE F T L (actC Z lo) tc rc E).1)]) s.heap.size) (([.ref (a 0), .ref q, .int lo] : List Value).toArray) s 0 0 A) (F0 m 2 ls []) := by
    intro n2
    induction n2 using Nat.strongRecOn with
    | _ n2 ih_2 =>
      intro i E1 hm_2 hfin_2 H locs hP hD hS ls hl
      refine lv_iload_n hx hb dX0_findEarliest_2 rfl (lv_at hl 0 rfl) ?_
      refine lv_aload_n hx hb dX0_findEarliest_3 rfl (lv_at hl 1 rfl) ?_
      refine x0_get (v := .int (nI tc)) hx hb hts hin hown hK hP 0 rfl 0 (by decide) fl_41 rfl dX0_findEarliest_4 rfl ?_
      refine lv_icmp_ge (x := nI i) (y := nI tc) (tgt := 20) hx hb dX0_findEarliest_7 (by decide) (fun c_1 => ?_) (fun c_1 => ?_)
      · have c_1 := (nI_leI (a := tc) (b := i) (by omega) (by omega)).mp c_1
        have hn0_2 : n2 = 0 := by omega
        subst hn0_2
        obtain rfl : E1 = fillF 0 tc 0 E := hfin_2
        refine lv_iconst (v := 0) hx hb dX0_findEarliest_20 (by decide) ?_
        refine lv_istore_n (lv' := [(3, .int 0), (0, .ref (a 0)), (1, .ref q), (2, .int lo)]) hx hb dX0_findEarliest_21 rfl hl (by decide) rfl (fun ls hl => ?_)
        have lp_22 : ∀ (n22 : Nat) (k : Nat) (E1 : Nat → Int32), k + n22 = tc + 1 → rndF F T L (actC Z lo) rc n22 k E1 = rndF F T L (actC Z lo) rc (tc + 1) 0 (fillF 0 tc 0 E) → ∀ (H : Heap) (locs : List Loc), va_P D vwCl ([xObj a tc rc ro, xArr (t 0) (a 1) 30 (xN F), xArr (t 0) (a 2) 30 (xN T), xArr (t 0) (a 3) 30 L, xArr (t 1) (a 4) 30 (xB Z), xArr (t 0) q 12 E1]) H → va_D A ([xObj a tc rc ro, xArr (t 0) (a 1) 30 (xN F), xArr (t 0) (a 2) 30 (xN T), xArr (t 0) (a 3) 30 L, xArr (t 1) (a 4) 30 (xB Z), xArr (t 0) q 12 E1]) → va_S A s.heap H locs → ∀ ls : Array Slot, lv_has ls 4 [(3, .int (nI k)), (0, .ref (a 0)), (1, .ref q), (2, .int lo)] → W p l e (headSpec wsX0_findEarliest ({ frames := 1, cells := 0, slots := 0, locals := 25 } : Jvm.Room)).room s m (([.ref (a 0), .ref q, .int lo] : List Value).toArray) below meth c H locs 0 0 (MQ below (xQm D (fun u : Unit => True) (fun u : Unit => some (.int ((findE F T L (actC Z lo) tc rc E).2))) [xObj a tc rc ro, xArr (t 0) (a 1) 30 (xN F), xArr (t 0) (a 2) 30 (xN T), xArr (t 0) (a 3) 30 L, xArr (t 1) (a 4) 30 (xB Z), xArr (t 0) q 12 E] (fun u : Unit => [xObj a tc rc ro, xArr (t 0) (a 1) 30 (xN F), xArr (t 0) (a 2) 30 (xN T), xArr (t 0) (a 3) 30 L, xArr (t 1) (a 4) 30 (xB Z), xArr (t 0) q 12 ((findE F T L (actC Z lo) tc rc E).1)]) s.heap.size) (([.ref (a 0), .ref q, .int lo] : List Value).toArray) s 0 0 A) (F0 m 22 ls []) := by
          intro n22
          induction n22 using Nat.strongRecOn with
          | _ n22 ih_22 =>
            intro k E1 hm_22 hfin_22 H locs hP hD hS ls hl
            refine lv_iload_n hx hb dX0_findEarliest_22 rfl (lv_at hl 0 rfl) ?_
            refine lv_aload_n hx hb dX0_findEarliest_23 rfl (lv_at hl 1 rfl) ?_
            refine x0_get (v := .int (nI tc)) hx hb hts hin hown hK hP 0 rfl 0 (by decide) fl_41 rfl dX0_findEarliest_24 rfl ?_
            refine lv_icmp_gt (x := nI k) (y := nI tc) (tgt := 49) hx hb dX0_findEarliest_27 (by decide) (fun c_2 => ?_) (fun c_2 => ?_)
            · have c_2 := (nI_ltI (a := tc) (b := k) (by omega) (by omega)).mp c_2
              have hn0_22 : n22 = 0 := by omega
              subst hn0_22
              
              refine lv_iconst (v := (-1)) hx hb dX0_findEarliest_49 (by decide) ?_
              have e9 : (E1, (-1)) = findE F T L (actC Z lo) tc rc E := by unfold findE; rw [← hfin_22]; simp [rndF, c_1, Nat.not_lt.mpr c_1, c_2]
              have hP9 : va_P D vwCl ([xObj a tc rc ro, xArr (t 0) (a 1) 30 (xN F), xArr (t 0) (a 2) 30 (xN T), xArr (t 0) (a 3) 30 L, xArr (t 1) (a 4) 30 (xB Z), xArr (t 0) q 12 ((findE F T L (actC Z lo) tc rc E).1)]) H := by rw [← e9]; exact hP
              have hD9 : va_D A ([xObj a tc rc ro, xArr (t 0) (a 1) 30 (xN F), xArr (t 0) (a 2) 30 (xN T), xArr (t 0) (a 3) 30 L, xArr (t 1) (a 4) 30 (xB Z), xArr (t 0) q 12 ((findE F T L (actC Z lo) tc rc E).1)]) := by rw [← e9]; exact hD
              subst hAe
              obtain ⟨hq9, hf9⟩ := xm_end (S := Unit) (pu := (fun u : Unit => True)) (r := (fun u : Unit => some (.int ((findE F T L (actC Z lo) tc rc E).2)))) (wc := [xObj a tc rc ro, xArr (t 0) (a 1) 30 (xN F), xArr (t 0) (a 2) 30 (xN T), xArr (t 0) (a 3) 30 L, xArr (t 1) (a 4) 30 (xB Z), xArr (t 0) q 12 E]) (w1 := (fun u : Unit => [xObj a tc rc ro, xArr (t 0) (a 1) 30 (xN F), xArr (t 0) (a 2) 30 (xN T), xArr (t 0) (a 3) 30 L, xArr (t 1) (a 4) 30 (xB Z), xArr (t 0) q 12 ((findE F T L (actC Z lo) tc rc E).1)])) (o := some (.int (-1))) (args := ([.ref (a 0), .ref q, .int lo] : List Value).toArray) () rfl trivial (by rw [← e9]) hP9 hD9 hS
              exact W.iret hx hb hr hq9 hf9 dX0_findEarliest_50 hlocks
            · have c_2 : k ≤ tc := Nat.le_of_not_lt (fun z9 => c_2 ((nI_ltI (a := tc) (b := k) (by omega) (by omega)).mpr z9))
              obtain ⟨n229, rfl⟩ : ∃ z, n22 = z + 1 := ⟨n22 - 1, by omega⟩
              refine lv_aload_n hx hb dX0_findEarliest_30 rfl (lv_at hl 1 rfl) ?_
              refine lv_aload_n hx hb dX0_findEarliest_31 rfl (lv_at hl 2 rfl) ?_
              refine lv_iload_n hx hb dX0_findEarliest_32 rfl (lv_at hl 3 rfl) ?_
              refine xm_V (b := a 0) (As := [.ref q, .int lo]) (rest := []) (wr := []) ⟨hx, hb, hml, hown, hts⟩ xTrav_T (c_X0_pushOnce l D t a tc rc ro F T L Z q E1 lo _ (by omega) (by omega) hF) (cwV 2 hts gX0_findEarliest_X0_pushOnce rfl rfl rfl hd_X0_pushOnce ⟨Nat.le_of_ble_eq_true rfl, Nat.le_of_ble_eq_true rfl⟩) hK hP hD hS hA (fun _ _ _ => trivial) (va_recv hK hP (ci := 0) (q0 := 0) rfl rfl) [0, 1, 2, 3, 4, 5] [] rfl rfl (by decide) (by decide) (by decide) rfl hl.1 rfl (Nat.le_of_ble_eq_true rfl) dX0_findEarliest_33 ⟨(Nat.le_of_ble_eq_true rfl), (Nat.le_of_ble_eq_true rfl)⟩ (fun u_3 H locs hu hP hD hS hz => ?_)
              have hP : va_P D vwCl ([xObj a tc rc ro, xArr (t 0) (a 1) 30 (xN F), xArr (t 0) (a 2) 30 (xN T), xArr (t 0) (a 3) 30 L, xArr (t 1) (a 4) 30 (xB Z), xArr (t 0) q 12 ((passF F T L (actC Z lo) rc 0 E1 false).1)]) H := hP.sub [0, 1, 2, 3, 4, 5] rfl
              have hD : va_D _ ([xObj a tc rc ro, xArr (t 0) (a 1) 30 (xN F), xArr (t 0) (a 2) 30 (xN T), xArr (t 0) (a 3) 30 L, xArr (t 1) (a 4) 30 (xB Z), xArr (t 0) q 12 ((passF F T L (actC Z lo) rc 0 E1 false).1)]) := hD.sub [0, 1, 2, 3, 4, 5] (by decide) rfl
              refine lv_if_ne (x := bI ((passF F T L (actC Z lo) rc 0 E1 false).2)) (tgt := 43) hx hb dX0_findEarliest_36 (by decide) (fun c_4 => ?_) (fun c_4 => ?_)
              · have c_4 := bI_n0 c_4
                refine lv_iinc (v := nI (k + 1)) (lv' := [(3, .int (nI (k + 1))), (0, .ref (a 0)), (1, .ref q), (2, .int lo)]) hx hb dX0_findEarliest_43 hl (k := 0) rfl (x_inc _) (by decide) rfl (fun ls hl => ?_)
                refine lv_goto (tgt := 22) hx hb dX0_findEarliest_46 (by decide) ?_
                exact ih_22 n229 (by omega) (k + 1) ((passF F T L (actC Z lo) rc 0 E1 false).1) (by omega) (by rw [← hfin_22]; simp [rndF, c_2, Nat.not_lt.mpr c_2, c_4]) _ _ hP hD hS _ (lv_sub hl [0, 1, 2, 3] rfl)
              · have c_4 := bI_0 c_4
                refine lv_iload_n hx hb dX0_findEarliest_39 rfl (lv_at hl 0 rfl) ?_
                refine lv_iconst (v := 1) hx hb dX0_findEarliest_40 (by decide) ?_
                refine lv_iadd (x := nI k) (y := 1) hx hb dX0_findEarliest_41 ?_
                refine x_top (w := nI (k + 1)) (nI_add k 1) ?_
                have e9 : ((passF F T L (actC Z lo) rc 0 E1 false).1, nI (k + 1)) = findE F T L (actC Z lo) tc rc E := by unfold findE; rw [← hfin_22]; simp [rndF, c_1, Nat.not_lt.mpr c_1, c_2, Nat.not_lt.mpr c_2, c_4]
                have hP9 : va_P D vwCl ([xObj a tc rc ro, xArr (t 0) (a 1) 30 (xN F), xArr (t 0) (a 2) 30 (xN T), xArr (t 0) (a 3) 30 L, xArr (t 1) (a 4) 30 (xB Z), xArr (t 0) q 12 ((findE F T L (actC Z lo) tc rc E).1)]) H := by rw [← e9]; exact hP
                have hD9 : va_D A ([xObj a tc rc ro, xArr (t 0) (a 1) 30 (xN F), xArr (t 0) (a 2) 30 (xN T), xArr (t 0) (a 3) 30 L, xArr (t 1) (a 4) 30 (xB Z), xArr (t 0) q 12 ((findE F T L (actC Z lo) tc rc E).1)]) := by rw [← e9]; exact hD
                subst hAe
                obtain ⟨hq9, hf9⟩ := xm_end (S := Unit) (pu := (fun u : Unit => True)) (r := (fun u : Unit => some (.int ((findE F T L (actC Z lo) tc rc E).2)))) (wc := [xObj a tc rc ro, xArr (t 0) (a 1) 30 (xN F), xArr (t 0) (a 2) 30 (xN T), xArr (t 0) (a 3) 30 L, xArr (t 1) (a 4) 30 (xB Z), xArr (t 0) q 12 E]) (w1 := (fun u : Unit => [xObj a tc rc ro, xArr (t 0) (a 1) 30 (xN F), xArr (t 0) (a 2) 30 (xN T), xArr (t 0) (a 3) 30 L, xArr (t 1) (a 4) 30 (xB Z), xArr (t 0) q 12 ((findE F T L (actC Z lo) tc rc E).1)])) (o := some (.int (nI (k + 1)))) (args := ([.ref (a 0), .ref q, .int lo] : List Value).toArray) () rfl trivial (by rw [← e9]) hP9 hD9 hS
                exact W.iret hx hb hr hq9 hf9 dX0_findEarliest_42 hlocks
        exact lp_22 (tc + 1) 0 (fillF 0 tc 0 E) (by omega) rfl _ _ hP hD hS _ (lv_sub hl [0, 1, 2, 3] rfl)
      · have c_1 : i < tc := Nat.lt_of_not_le (fun z9 => c_1 ((nI_leI (a := tc) (b := i) (by omega) (by omega)).mpr z9))
        obtain ⟨n29, rfl⟩ : ∃ z, n2 = z + 1 := ⟨n2 - 1, by omega⟩
        refine lv_aload_n hx hb dX0_findEarliest_10 rfl (lv_at hl 2 rfl) ?_
        refine lv_iload_n hx hb dX0_findEarliest_11 rfl (lv_at hl 0 rfl) ?_
        refine lv_iconst (v := 0) hx hb dX0_findEarliest_12 (by decide) ?_
        refine x_iast (x := 0) (f := E1) hx hb hK hP hD hS 5 0 ([xObj a tc rc ro, xArr (t 0) (a 1) 30 (xN F), xArr (t 0) (a 2) 30 (xN T), xArr (t 0) (a 3) 30 L, xArr (t 1) (a 4) 30 (xB Z), xArr (t 0) q 12 (upd E1 i 0)]) rfl rfl (k := i) rfl (by omega) (Nat.le_of_ble_eq_true rfl) dX0_findEarliest_13 (fun H locs hP hD hS => ?_)
        refine lv_iinc (v := nI (i + 1)) (lv' := [(3, .int (nI (i + 1))), (0, .ref (a 0)), (1, .ref q), (2, .int lo)]) hx hb dX0_findEarliest_14 hl (k := 0) rfl (x_inc _) (by decide) rfl (fun ls hl => ?_)
        refine lv_goto (tgt := 2) hx hb dX0_findEarliest_17 (by decide) ?_
        exact ih_2 n29 (by omega) (i + 1) (upd E1 i 0) (by omega) (by rw [← hfin_2]; rfl) _ _ hP hD hS _ (lv_sub hl [0, 1, 2, 3] rfl)
  exact lp_2 tc 0 E (by omega) rfl _ _ hP hD hS _ (lv_sub hl [0, 1, 2, 3] rfl)
set_option maxHeartbeats 4000000 in
set_option maxRecDepth 100000 in
theorem c_X0_shortenBound (l : Launch) (D : va_G) (t : Nat → ClassId) (a : Nat → Nat) (tc rc : Nat) (ro : Int32) (B : Nat → Int32) (i j : Nat) (w : Int32) (sz : Nat) (hi : i < 12) (hj : j < 12) : Met l yX0_shortenBound wsX0_shortenBound ({ frames := 1, cells := 0, slots := 0, locals := 21 }) (xMu D (xTy t) (fun _ => True) [.ref (a 0), .int (nI i), .int (nI j), .int w] [xObj a tc rc ro, xArr (t 0) (a 6) 144 B] sz) (xQm D (fun u : Unit => True) (fun u : Unit => none) [xObj a tc rc ro, xArr (t 0) (a 6) 144 B] (fun u : Unit => [xObj a tc rc ro, xArr (t 0) (a 6) 144 (shortB B i j w)]) sz) 0 0 (va_A [xObj a tc rc ro, xArr (t 0) (a 6) 144 B] sz) := by
  refine Met.ofW (cc := cX0_shortenBound) (maxL := 5) (ret := none) (by decide) rfl ?_
  intro p e s m args below meth c s₁ hB9 hml hv
  obtain ⟨rfl, hsz, hP, hK, hD0, hXX⟩ := hv
  have hx := hB9.exec
  have hb := hB9.bytes
  have hr := hB9.returns
  have hts := atoms_spec (ws := wsX0_shortenBound) hB9.pre
  have hown : s.vm.findClass RX0 = some m.cls := findClass_of_methodNamed hB9.named
  have hlocks := hB9.notSynchronized
  have hin : ∀ w ∈ wsX00, w ∈ wsX0_shortenBound := fun _ h => List.mem_cons_of_mem _ (List.mem_append_right _ h)
  have fl_26 := hts (.fieldLink RX0 26 "RopeTimes" "bound" "[I") (by decide +kernel)
  have ml_122 := hts (.methodLink RX0 122 Lib.Math.min.name) (by decide +kernel)
  have ms_min := hts (.static Lib.Math.min.name) (by decide +kernel)
  have mc_min := hts (.code Lib.Math.min.name Lib.Math.min.code 2 (some .int)) (by decide +kernel)
  have mi_Math := hts (.initialized "java/lang/Math") (by decide +kernel)
  subst hsz
  have hD := hD0.self (sz := s.heap.size)
  generalize hAe : va_A ([xObj a tc rc ro, xArr (t 0) (a 6) 144 B]) s.heap.size = A at hD ⊢
  have hA : ∀ q : Nat, s.heap.size ≤ q → A q := fun q h => by rw [← hAe]; exact Or.inr h
  have hS : va_S A s.heap s.heap [] := va_S.rf
  have hP : va_P D vwCl ([xObj a tc rc ro, xArr (t 0) (a 6) 144 B]) s.heap := hP
  have hD : va_D A ([xObj a tc rc ro, xArr (t 0) (a 6) 144 B]) := hD
  have hl := lv_entry ([.ref (a 0), .int (nI i), .int (nI j), .int w]) (n := 5) (Nat.le_of_ble_eq_true rfl)
  rw [lg_entry_eq]
  generalize (lg_sl ([.ref (a 0), .int (nI i), .int (nI j), .int w]) ++ List.replicate (5 - (lg_sl ([.ref (a 0), .int (nI i), .int (nI j), .int w])).length) Slot.unset).toArray = ls at hl ⊢
  have hl : lv_has ls 5 [(0, .ref (a 0)), (1, .int (nI i)), (2, .int (nI j)), (3, .int w)] := hl
  refine lv_iload_n hx hb dX0_shortenBound_0 rfl (lv_at hl 1 rfl) ?_
  refine lv_bipush (v := 12) hx hb dX0_shortenBound_1 (by decide) ?_
  refine lv_imul (x := nI i) (y := 12) hx hb dX0_shortenBound_3 ?_
  refine x_top (w := nI (i * 12)) (pk_mul i 12) ?_
  refine lv_iload_n hx hb dX0_shortenBound_4 rfl (lv_at hl 2 rfl) ?_
  refine lv_iadd (x := nI (i * 12)) (y := nI j) hx hb dX0_shortenBound_5 ?_
  refine x_top (w := nI (i * 12 + j)) (nI_add (i * 12) j) ?_
  refine lv_istore (lv' := [(4, .int (nI (i * 12 + j))), (0, .ref (a 0)), (1, .int (nI i)), (2, .int (nI j)), (3, .int w)]) hx hb dX0_shortenBound_6 hl (by decide) rfl (fun ls hl => ?_)
  refine lv_aload_n hx hb dX0_shortenBound_8 rfl (lv_at hl 1 rfl) ?_
  refine x0_get (v := .ref (a 6)) hx hb hts hin hown hK hP 0 rfl 8 (by decide) fl_26 rfl dX0_shortenBound_9 rfl ?_
  refine lv_iload hx hb dX0_shortenBound_12 (lv_at hl 0 rfl) ?_
  refine lv_aload_n hx hb dX0_shortenBound_14 rfl (lv_at hl 1 rfl) ?_
  refine x0_get (v := .ref (a 6)) hx hb hts hin hown hK hP 0 rfl 8 (by decide) fl_26 rfl dX0_shortenBound_15 rfl ?_
  refine lv_iload hx hb dX0_shortenBound_18 (lv_at hl 0 rfl) ?_
  refine x_iald (f := B) hx hb hK hP 1 0 rfl rfl (k := i * 12 + j) (by omega) (Nat.le_of_ble_eq_true rfl) dX0_shortenBound_20 ?_
  refine lv_iload_n hx hb dX0_shortenBound_21 rfl (lv_at hl 4 rfl) ?_
  refine va_mmin (x := B (i * 12 + j)) (y := w) hx hb (hml.trans hl.1.symm) hown ml_122 ms_min mi_Math mc_min (Nat.le_of_ble_eq_true rfl) (Nat.le_of_ble_eq_true rfl) (Nat.le_of_ble_eq_true rfl) (Nat.le_of_ble_eq_true rfl) dX0_shortenBound_22 ?_
  refine x_top (w := mnI (B (i * 12 + j)) w) rfl ?_
  refine x_iast (x := mnI (B (i * 12 + j)) w) (f := B) hx hb hK hP hD hS 1 0 ([xObj a tc rc ro, xArr (t 0) (a 6) 144 (upd B (i * 12 + j) (mnI (B (i * 12 + j)) w))]) rfl rfl (k := i * 12 + j) rfl (by omega) (Nat.le_of_ble_eq_true rfl) dX0_shortenBound_25 (fun H locs hP hD hS => ?_)
  subst hAe
  obtain ⟨hq9, hf9⟩ := xm_end (S := Unit) (pu := (fun u : Unit => True)) (r := (fun u : Unit => none)) (wc := [xObj a tc rc ro, xArr (t 0) (a 6) 144 B]) (w1 := (fun u : Unit => [xObj a tc rc ro, xArr (t 0) (a 6) 144 (shortB B i j w)])) (o := none) (args := ([.ref (a 0), .int (nI i), .int (nI j), .int w] : List Value).toArray) () rfl trivial rfl hP hD hS
  exact W.vret hx hb hr hq9 hf9 dX0_shortenBound_26 hlocks
set_option maxHeartbeats 4000000 in
set_option maxRecDepth 100000 in
theorem c_X0_startBounds (l : Launch) (D : va_G) (t : Nat → ClassId) (a : Nat → Nat) (tc rc : Nat) (ro : Int32) (F T : Nat → Nat) (L : Nat → Int32) (Z : Nat → Bool) (B : Nat → Int32) (sz : Nat) (htc : tc ≤ 12) (hrc : rc ≤ 30) (hF : ∀ r, r < rc → F r < tc ∧ T r < tc) : Met l yX0_startBounds wsX0_startBounds ({ frames := 2, cells := 0, slots := 0, locals := 45 }) (xMu D (xTy t) (fun _ => True) [.ref (a 0)] [xObj a tc rc ro, xArr (t 0) (a 1) 30 (xN F), xArr (t 0) (a 2) 30 (xN T), xArr (t 0) (a 3) 30 L, xArr (t 1) (a 4) 30 (xB Z), xArr (t 0) (a 6) 144 B] sz) (xQm D (fun u : Unit => True) (fun u : Unit => none) [xObj a tc rc ro, xArr (t 0) (a 1) 30 (xN F), xArr (t 0) (a 2) 30 (xN T), xArr (t 0) (a 3) 30 L, xArr (t 1) (a 4) 30 (xB Z), xArr (t 0) (a 6) 144 B] (fun u : Unit => [xObj a tc rc ro, xArr (t 0) (a 1) 30 (xN F), xArr (t 0) (a 2) 30 (xN T), xArr (t 0) (a 3) 30 L, xArr (t 1) (a 4) 30 (xB Z), xArr (t 0) (a 6) 144 (startF F T L Z tc rc B)]) sz) 0 0 (va_A [xObj a tc rc ro, xArr (t 0) (a 1) 30 (xN F), xArr (t 0) (a 2) 30 (xN T), xArr (t 0) (a 3) 30 L, xArr (t 1) (a 4) 30 (xB Z), xArr (t 0) (a 6) 144 B] sz) := by
  refine Met.ofW (cc := cX0_startBounds) (maxL := 3) (ret := none) (by decide) rfl ?_
  intro p e s m args below meth c s₁ hB9 hml hv
  obtain ⟨rfl, hsz, hP, hK, hD0, hXX⟩ := hv
  have hx := hB9.exec
  have hb := hB9.bytes
  have hr := hB9.returns
  have hts := atoms_spec (ws := wsX0_startBounds) hB9.pre
  have hown : s.vm.findClass RX0 = some m.cls := findClass_of_methodNamed hB9.named
  have hlocks := hB9.notSynchronized
  have hin : ∀ w ∈ wsX00, w ∈ wsX0_startBounds := fun _ h => List.mem_cons_of_mem _ (List.mem_append_right _ h)
  have fl_41 := hts (.fieldLink RX0 41 "RopeTimes" "turnCount" "I") (by decide +kernel)
  have fl_26 := hts (.fieldLink RX0 26 "RopeTimes" "bound" "[I") (by decide +kernel)
  have kc_121 := hts (.constant RX0 121 (99999)) (by decide +kernel)
  have fl_63 := hts (.fieldLink RX0 63 "RopeTimes" "ropeCount" "I") (by decide +kernel)
  have fl_19 := hts (.fieldLink RX0 19 "RopeTimes" "tied" "[Z") (by decide +kernel)
  have fl_9 := hts (.fieldLink RX0 9 "RopeTimes" "from" "[I") (by decide +kernel)
  have fl_13 := hts (.fieldLink RX0 13 "RopeTimes" "to" "[I") (by decide +kernel)
  have fl_16 := hts (.fieldLink RX0 16 "RopeTimes" "length" "[I") (by decide +kernel)
  subst hsz
  have hD := hD0.self (sz := s.heap.size)
  generalize hAe : va_A ([xObj a tc rc ro, xArr (t 0) (a 1) 30 (xN F), xArr (t 0) (a 2) 30 (xN T), xArr (t 0) (a 3) 30 L, xArr (t 1) (a 4) 30 (xB Z), xArr (t 0) (a 6) 144 B]) s.heap.size = A at hD ⊢
  have hA : ∀ q : Nat, s.heap.size ≤ q → A q := fun q h => by rw [← hAe]; exact Or.inr h
  have hS : va_S A s.heap s.heap [] := va_S.rf
  have hP : va_P D vwCl ([xObj a tc rc ro, xArr (t 0) (a 1) 30 (xN F), xArr (t 0) (a 2) 30 (xN T), xArr (t 0) (a 3) 30 L, xArr (t 1) (a 4) 30 (xB Z), xArr (t 0) (a 6) 144 B]) s.heap := hP
  have hD : va_D A ([xObj a tc rc ro, xArr (t 0) (a 1) 30 (xN F), xArr (t 0) (a 2) 30 (xN T), xArr (t 0) (a 3) 30 L, xArr (t 1) (a 4) 30 (xB Z), xArr (t 0) (a 6) 144 B]) := hD
  have hl := lv_entry ([.ref (a 0)]) (n := 3) (Nat.le_of_ble_eq_true rfl)
  rw [lg_entry_eq]
  generalize (lg_sl ([.ref (a 0)]) ++ List.replicate (3 - (lg_sl ([.ref (a 0)])).length) Slot.unset).toArray = ls at hl ⊢
  have hl : lv_has ls 3 [(0, .ref (a 0))] := hl
  refine lv_iconst (v := 0) hx hb dX0_startBounds_0 (by decide) ?_
  refine lv_istore_n (lv' := [(1, .int 0), (0, .ref (a 0))]) hx hb dX0_startBounds_1 rfl hl (by decide) rfl (fun ls hl => ?_)
  have lp_2 : ∀ (n2 : Nat) (i : Nat) (B1 : Nat → Int32), i + n2 = tc → sbA tc n2 i B1 = sbA tc tc 0 B → ∀ (H : Heap) (locs : List Loc), va_P D vwCl ([xObj a tc rc ro, xArr (t 0) (a 1) 30 (xN F), xArr (t 0) (a 2) 30 (xN T), xArr (t 0) (a 3) 30 L, xArr (t 1) (a 4) 30 (xB Z), xArr (t 0) (a 6) 144 B1]) H → va_D A ([xObj a tc rc ro, xArr (t 0) (a 1) 30 (xN F), xArr (t 0) (a 2) 30 (xN T), xArr (t 0) (a 3) 30 L, xArr (t 1) (a 4) 30 (xB Z), xArr (t 0) (a 6) 144 B1]) → va_S A s.heap H locs → ∀ ls : Array Slot, lv_has ls 3 [(1, .int (nI i)), (0, .ref (a 0))] → W p l e (headSpec wsX0_startBounds ({ frames := 2, cells := 0, slots := 0, locals := 45 } : Jvm.Room)).room s m (([.ref (a 0)] : List Value).toArray) below meth c H locs 0 0 (MQ below (xQm D (fun u : Unit => True) (fun u : Unit => none) [xObj a tc rc ro, xArr (t 0) (a 1) 30 (xN F), xArr (t 0) (a 2) 30 (xN T), xArr (t 0) (a 3) 30 L, xArr (t 1) (a 4) 30 (xB Z), xArr (t 0) (a 6) 144 B] (fun u : Unit => [xObj a tc rc ro, xArr (t 0) (a 1) 30 (xN F), xArr (t 0) (a 2) 30 (xN T), xArr (t 0) (a 3) 30 L, xArr (t 1) (a 4) 30 (xB Z), xArr (t 0) (a 6) 144 (startF F T L Z tc rc B)]) s.heap.size) (([.ref (a 0)] : List Value).toArray) s 0 0 A) (F0 m 2 ls []) := by
    intro n2
    induction n2 using Nat.strongRecOn with
    | _ n2 ih_2 =>
      intro i B1 hm_2 hfin_2 H locs hP hD hS ls hl
      refine lv_iload_n hx hb dX0_startBounds_2 rfl (lv_at hl 0 rfl) ?_
      refine lv_aload_n hx hb dX0_startBounds_3 rfl (lv_at hl 1 rfl) ?_
      refine x0_get (v := .int (nI tc)) hx hb hts hin hown hK hP 0 rfl 0 (by decide) fl_41 rfl dX0_startBounds_4 rfl ?_
      refine lv_icmp_ge (x := nI i) (y := nI tc) (tgt := 54) hx hb dX0_startBounds_7 (by decide) (fun c_1 => ?_) (fun c_1 => ?_)
      · have c_1 := (nI_leI (a := tc) (b := i) (by omega) (by omega)).mp c_1
        have hn0_2 : n2 = 0 := by omega
        subst hn0_2
        obtain rfl : B1 = sbA tc tc 0 B := hfin_2
        refine lv_iconst (v := 0) hx hb dX0_startBounds_54 (by decide) ?_
        refine lv_istore_n (lv' := [(1, .int 0), (0, .ref (a 0))]) hx hb dX0_startBounds_55 rfl hl (by decide) rfl (fun ls hl => ?_)
        have lp_56 : ∀ (n56 : Nat) (r : Nat) (B3 : Nat → Int32), r + n56 = rc → sbW F T L Z n56 r B3 = sbW F T L Z rc 0 (sbA tc tc 0 B) → ∀ (H : Heap) (locs : List Loc), va_P D vwCl ([xObj a tc rc ro, xArr (t 0) (a 1) 30 (xN F), xArr (t 0) (a 2) 30 (xN T), xArr (t 0) (a 3) 30 L, xArr (t 1) (a 4) 30 (xB Z), xArr (t 0) (a 6) 144 B3]) H → va_D A ([xObj a tc rc ro, xArr (t 0) (a 1) 30 (xN F), xArr (t 0) (a 2) 30 (xN T), xArr (t 0) (a 3) 30 L, xArr (t 1) (a 4) 30 (xB Z), xArr (t 0) (a 6) 144 B3]) → va_S A s.heap H locs → ∀ ls : Array Slot, lv_has ls 3 [(1, .int (nI r)), (0, .ref (a 0))] → W p l e (headSpec wsX0_startBounds ({ frames := 2, cells := 0, slots := 0, locals := 45 } : Jvm.Room)).room s m (([.ref (a 0)] : List Value).toArray) below meth c H locs 0 0 (MQ below (xQm D (fun u : Unit => True) (fun u : Unit => none) [xObj a tc rc ro, xArr (t 0) (a 1) 30 (xN F), xArr (t 0) (a 2) 30 (xN T), xArr (t 0) (a 3) 30 L, xArr (t 1) (a 4) 30 (xB Z), xArr (t 0) (a 6) 144 B] (fun u : Unit => [xObj a tc rc ro, xArr (t 0) (a 1) 30 (xN F), xArr (t 0) (a 2) 30 (xN T), xArr (t 0) (a 3) 30 L, xArr (t 1) (a 4) 30 (xB Z), xArr (t 0) (a 6) 144 (startF F T L Z tc rc B)]) s.heap.size) (([.ref (a 0)] : List Value).toArray) s 0 0 A) (F0 m 56 ls []) := by
          intro n56
          induction n56 using Nat.strongRecOn with
          | _ n56 ih_56 =>
            intro r B3 hm_56 hfin_56 H locs hP hD hS ls hl
            refine lv_iload_n hx hb dX0_startBounds_56 rfl (lv_at hl 0 rfl) ?_
            refine lv_aload_n hx hb dX0_startBounds_57 rfl (lv_at hl 1 rfl) ?_
            refine x0_get (v := .int (nI rc)) hx hb hts hin hown hK hP 0 rfl 1 (by decide) fl_63 rfl dX0_startBounds_58 rfl ?_
            refine lv_icmp_ge (x := nI r) (y := nI rc) (tgt := 101) hx hb dX0_startBounds_61 (by decide) (fun c_2 => ?_) (fun c_2 => ?_)
            · have c_2 := (nI_leI (a := rc) (b := r) (by omega) (by omega)).mp c_2
              have hn0_56 : n56 = 0 := by omega
              subst hn0_56
              obtain rfl : B3 = sbW F T L Z rc 0 (sbA tc tc 0 B) := hfin_56
              subst hAe
              obtain ⟨hq9, hf9⟩ := xm_end (S := Unit) (pu := (fun u : Unit => True)) (r := (fun u : Unit => none)) (wc := [xObj a tc rc ro, xArr (t 0) (a 1) 30 (xN F), xArr (t 0) (a 2) 30 (xN T), xArr (t 0) (a 3) 30 L, xArr (t 1) (a 4) 30 (xB Z), xArr (t 0) (a 6) 144 B]) (w1 := (fun u : Unit => [xObj a tc rc ro, xArr (t 0) (a 1) 30 (xN F), xArr (t 0) (a 2) 30 (xN T), xArr (t 0) (a 3) 30 L, xArr (t 1) (a 4) 30 (xB Z), xArr (t 0) (a 6) 144 (startF F T L Z tc rc B)])) (o := none) (args := ([.ref (a 0)] : List Value).toArray) () rfl trivial rfl hP hD hS
              exact W.vret hx hb hr hq9 hf9 dX0_startBounds_101 hlocks
            · have c_2 : r < rc := Nat.lt_of_not_le (fun z9 => c_2 ((nI_leI (a := rc) (b := r) (by omega) (by omega)).mpr z9))
              obtain ⟨n569, rfl⟩ : ∃ z, n56 = z + 1 := ⟨n56 - 1, by omega⟩
              refine lv_aload_n hx hb dX0_startBounds_64 rfl (lv_at hl 1 rfl) ?_
              refine x0_get (v := .ref (a 4)) hx hb hts hin hown hK hP 0 rfl 5 (by decide) fl_19 rfl dX0_startBounds_65 rfl ?_
              refine lv_iload_n hx hb dX0_startBounds_68 rfl (lv_at hl 0 rfl) ?_
              refine x_zald (f := xB Z) hx hb hK hP 4 1 rfl rfl (k := r) (by omega) (Nat.le_of_ble_eq_true rfl) dX0_startBounds_69 ?_
              refine x_top (w := bI (Z r)) rfl ?_
              refine lv_if_eq (x := bI (Z r)) (tgt := 95) hx hb dX0_startBounds_70 (by decide) (fun c_3 => ?_) (fun c_3 => ?_)
              · have c_3 := bI_0 c_3
                refine lv_iinc (v := nI (r + 1)) (lv' := [(1, .int (nI (r + 1))), (0, .ref (a 0))]) hx hb dX0_startBounds_95 hl (k := 0) rfl (x_inc _) (by decide) rfl (fun ls hl => ?_)
                refine lv_goto (tgt := 56) hx hb dX0_startBounds_98 (by decide) ?_
                exact ih_56 n569 (by omega) (r + 1) B3 (by omega) (by rw [← hfin_56]; simp [sbW, c_2, c_3]) _ _ hP hD hS _ (lv_sub hl [0, 1] rfl)
              · have c_3 := bI_n0 c_3
                refine lv_aload_n hx hb dX0_startBounds_73 rfl (lv_at hl 1 rfl) ?_
                refine lv_aload_n hx hb dX0_startBounds_74 rfl (lv_at hl 1 rfl) ?_
                refine x0_get (v := .ref (a 1)) hx hb hts hin hown hK hP 0 rfl 2 (by decide) fl_9 rfl dX0_startBounds_75 rfl ?_
                refine lv_iload_n hx hb dX0_startBounds_78 rfl (lv_at hl 0 rfl) ?_
                refine x_iald (f := xN F) hx hb hK hP 1 0 rfl rfl (k := r) (by omega) (Nat.le_of_ble_eq_true rfl) dX0_startBounds_79 ?_
                refine x_top (w := nI (F r)) rfl ?_
                have hf_4 := hF r (by omega)
                refine lv_aload_n hx hb dX0_startBounds_80 rfl (lv_at hl 1 rfl) ?_
                refine x0_get (v := .ref (a 2)) hx hb hts hin hown hK hP 0 rfl 3 (by decide) fl_13 rfl dX0_startBounds_81 rfl ?_
                refine lv_iload_n hx hb dX0_startBounds_84 rfl (lv_at hl 0 rfl) ?_
                refine x_iald (f := xN T) hx hb hK hP 2 0 rfl rfl (k := r) (by omega) (Nat.le_of_ble_eq_true rfl) dX0_startBounds_85 ?_
                refine x_top (w := nI (T r)) rfl ?_
                have hf_5 := hF r (by omega)
                refine lv_aload_n hx hb dX0_startBounds_86 rfl (lv_at hl 1 rfl) ?_
                refine x0_get (v := .ref (a 3)) hx hb hts hin hown hK hP 0 rfl 4 (by decide) fl_16 rfl dX0_startBounds_87 rfl ?_
                refine lv_iload_n hx hb dX0_startBounds_90 rfl (lv_at hl 0 rfl) ?_
                refine x_iald (f := L) hx hb hK hP 3 0 rfl rfl (k := r) (by omega) (Nat.le_of_ble_eq_true rfl) dX0_startBounds_91 ?_
                refine xm_V (b := a 0) (As := [.int (nI (F r)), .int (nI (T r)), .int (L r)]) (rest := []) (wr := [xArr (t 0) (a 1) 30 (xN F), xArr (t 0) (a 2) 30 (xN T), xArr (t 0) (a 3) 30 L, xArr (t 1) (a 4) 30 (xB Z)]) ⟨hx, hb, hml, hown, hts⟩ xTrav_T (c_X0_shortenBound l D t a tc rc ro B3 (F r) (T r) (L r) _ (by omega) (by omega)) (cwV 3 hts gX0_startBounds_X0_shortenBound rfl rfl rfl hd_X0_shortenBound ⟨Nat.le_of_ble_eq_true rfl, Nat.le_of_ble_eq_true rfl⟩) hK hP hD hS hA (fun _ _ _ => trivial) (va_recv hK hP (ci := 0) (q0 := 0) rfl rfl) [0, 5] [1, 2, 3, 4] rfl rfl (by decide) (by decide) (by decide) rfl hl.1 rfl (Nat.le_of_ble_eq_true rfl) dX0_startBounds_92 ⟨(Nat.le_of_ble_eq_true rfl), (Nat.le_of_ble_eq_true rfl)⟩ (fun u_6 H locs hu hP hD hS hz => ?_)
                have hP : va_P D vwCl ([xObj a tc rc ro, xArr (t 0) (a 1) 30 (xN F), xArr (t 0) (a 2) 30 (xN T), xArr (t 0) (a 3) 30 L, xArr (t 1) (a 4) 30 (xB Z), xArr (t 0) (a 6) 144 (shortB B3 (F r) (T r) (L r))]) H := hP.sub [4, 0, 1, 2, 3, 5] rfl
                have hD : va_D _ ([xObj a tc rc ro, xArr (t 0) (a 1) 30 (xN F), xArr (t 0) (a 2) 30 (xN T), xArr (t 0) (a 3) 30 L, xArr (t 1) (a 4) 30 (xB Z), xArr (t 0) (a 6) 144 (shortB B3 (F r) (T r) (L r))]) := hD.sub [4, 0, 1, 2, 3, 5] (by decide) rfl
                refine lv_iinc (v := nI (r + 1)) (lv' := [(1, .int (nI (r + 1))), (0, .ref (a 0))]) hx hb dX0_startBounds_95 hl (k := 0) rfl (x_inc _) (by decide) rfl (fun ls hl => ?_)
                refine lv_goto (tgt := 56) hx hb dX0_startBounds_98 (by decide) ?_
                exact ih_56 n569 (by omega) (r + 1) (shortB B3 (F r) (T r) (L r)) (by omega) (by rw [← hfin_56]; simp [sbW, c_2, c_3]) _ _ hP hD hS _ (lv_sub hl [0, 1] rfl)
        exact lp_56 rc 0 (sbA tc tc 0 B) (by omega) rfl _ _ hP hD hS _ (lv_sub hl [0, 1] rfl)
      · have c_1 : i < tc := Nat.lt_of_not_le (fun z9 => c_1 ((nI_leI (a := tc) (b := i) (by omega) (by omega)).mpr z9))
        obtain ⟨n29, rfl⟩ : ∃ z, n2 = z + 1 := ⟨n2 - 1, by omega⟩
        refine lv_iconst (v := 0) hx hb dX0_startBounds_10 (by decide) ?_
        refine lv_istore_n (lv' := [(2, .int 0), (1, .int (nI i)), (0, .ref (a 0))]) hx hb dX0_startBounds_11 rfl hl (by decide) rfl (fun ls hl => ?_)
        have lp_12 : ∀ (n12 : Nat) (j : Nat) (B2 : Nat → Int32), j + n12 = tc → sbR i n12 j B2 = sbR i tc 0 B1 → ∀ (H : Heap) (locs : List Loc), va_P D vwCl ([xObj a tc rc ro, xArr (t 0) (a 1) 30 (xN F), xArr (t 0) (a 2) 30 (xN T), xArr (t 0) (a 3) 30 L, xArr (t 1) (a 4) 30 (xB Z), xArr (t 0) (a 6) 144 B2]) H → va_D A ([xObj a tc rc ro, xArr (t 0) (a 1) 30 (xN F), xArr (t 0) (a 2) 30 (xN T), xArr (t 0) (a 3) 30 L, xArr (t 1) (a 4) 30 (xB Z), xArr (t 0) (a 6) 144 B2]) → va_S A s.heap H locs → ∀ ls : Array Slot, lv_has ls 3 [(2, .int (nI j)), (1, .int (nI i)), (0, .ref (a 0))] → W p l e (headSpec wsX0_startBounds ({ frames := 2, cells := 0, slots := 0, locals := 45 } : Jvm.Room)).room s m (([.ref (a 0)] : List Value).toArray) below meth c H locs 0 0 (MQ below (xQm D (fun u : Unit => True) (fun u : Unit => none) [xObj a tc rc ro, xArr (t 0) (a 1) 30 (xN F), xArr (t 0) (a 2) 30 (xN T), xArr (t 0) (a 3) 30 L, xArr (t 1) (a 4) 30 (xB Z), xArr (t 0) (a 6) 144 B] (fun u : Unit => [xObj a tc rc ro, xArr (t 0) (a 1) 30 (xN F), xArr (t 0) (a 2) 30 (xN T), xArr (t 0) (a 3) 30 L, xArr (t 1) (a 4) 30 (xB Z), xArr (t 0) (a 6) 144 (startF F T L Z tc rc B)]) s.heap.size) (([.ref (a 0)] : List Value).toArray) s 0 0 A) (F0 m 12 ls []) := by
          intro n12
          induction n12 using Nat.strongRecOn with
          | _ n12 ih_12 =>
            intro j B2 hm_12 hfin_12 H locs hP hD hS ls hl
            refine lv_iload_n hx hb dX0_startBounds_12 rfl (lv_at hl 0 rfl) ?_
            refine lv_aload_n hx hb dX0_startBounds_13 rfl (lv_at hl 2 rfl) ?_
            refine x0_get (v := .int (nI tc)) hx hb hts hin hown hK hP 0 rfl 0 (by decide) fl_41 rfl dX0_startBounds_14 rfl ?_
            refine lv_icmp_ge (x := nI j) (y := nI tc) (tgt := 48) hx hb dX0_startBounds_17 (by decide) (fun c_7 => ?_) (fun c_7 => ?_)
            · have c_7 := (nI_leI (a := tc) (b := j) (by omega) (by omega)).mp c_7
              have hn0_12 : n12 = 0 := by omega
              subst hn0_12
              obtain rfl : B2 = sbR i tc 0 B1 := hfin_12
              refine lv_iinc (v := nI (i + 1)) (lv' := [(1, .int (nI (i + 1))), (2, .int (nI j)), (0, .ref (a 0))]) hx hb dX0_startBounds_48 hl (k := 1) rfl (x_inc _) (by decide) rfl (fun ls hl => ?_)
              refine lv_goto (tgt := 2) hx hb dX0_startBounds_51 (by decide) ?_
              exact ih_2 n29 (by omega) (i + 1) (sbR i tc 0 B1) (by omega) (by rw [← hfin_2]; rfl) _ _ hP hD hS _ (lv_sub hl [0, 2] rfl)
            · have c_7 : j < tc := Nat.lt_of_not_le (fun z9 => c_7 ((nI_leI (a := tc) (b := j) (by omega) (by omega)).mpr z9))
              obtain ⟨n129, rfl⟩ : ∃ z, n12 = z + 1 := ⟨n12 - 1, by omega⟩
              refine lv_aload_n hx hb dX0_startBounds_20 rfl (lv_at hl 2 rfl) ?_
              refine x0_get (v := .ref (a 6)) hx hb hts hin hown hK hP 0 rfl 8 (by decide) fl_26 rfl dX0_startBounds_21 rfl ?_
              refine lv_iload_n hx hb dX0_startBounds_24 rfl (lv_at hl 1 rfl) ?_
              refine lv_bipush (v := 12) hx hb dX0_startBounds_25 (by decide) ?_
              refine lv_imul (x := nI i) (y := 12) hx hb dX0_startBounds_27 ?_
              refine x_top (w := nI (i * 12)) (pk_mul i 12) ?_
              refine lv_iload_n hx hb dX0_startBounds_28 rfl (lv_at hl 0 rfl) ?_
              refine lv_iadd (x := nI (i * 12)) (y := nI j) hx hb dX0_startBounds_29 ?_
              refine x_top (w := nI (i * 12 + j)) (nI_add (i * 12) j) ?_
              refine lv_iload_n hx hb dX0_startBounds_30 rfl (lv_at hl 1 rfl) ?_
              refine lv_iload_n hx hb dX0_startBounds_31 rfl (lv_at hl 0 rfl) ?_
              refine lv_icmp_ne (x := nI i) (y := nI j) (tgt := 39) hx hb dX0_startBounds_32 (by decide) (fun c_8 => ?_) (fun c_8 => ?_)
              · have c_8 : ¬ i = j := fun z9 => c_8 ((nI_eq (a := i) (b := j) (by omega) (by omega)).mpr z9)
                refine lv_ldc (v := 99999) hx hb hown kc_121 dX0_startBounds_39 ?_
                refine x_iast (x := 99999) (f := B2) hx hb hK hP hD hS 5 0 ([xObj a tc rc ro, xArr (t 0) (a 1) 30 (xN F), xArr (t 0) (a 2) 30 (xN T), xArr (t 0) (a 3) 30 L, xArr (t 1) (a 4) 30 (xB Z), xArr (t 0) (a 6) 144 (upd B2 (i * 12 + j) 99999)]) rfl rfl (k := i * 12 + j) rfl (by omega) (Nat.le_of_ble_eq_true rfl) dX0_startBounds_41 (fun H locs hP hD hS => ?_)
                refine lv_iinc (v := nI (j + 1)) (lv' := [(2, .int (nI (j + 1))), (1, .int (nI i)), (0, .ref (a 0))]) hx hb dX0_startBounds_42 hl (k := 0) rfl (x_inc _) (by decide) rfl (fun ls hl => ?_)
                refine lv_goto (tgt := 12) hx hb dX0_startBounds_45 (by decide) ?_
                exact ih_12 n129 (by omega) (j + 1) (upd B2 (i * 12 + j) 99999) (by omega) (by rw [← hfin_12]; simp [sbR, c_7, c_8]) _ _ hP hD hS _ (lv_sub hl [0, 1, 2] rfl)
              · have c_8 := (nI_eq (a := i) (b := j) (by omega) (by omega)).mp c_8
                refine lv_iconst (v := 0) hx hb dX0_startBounds_35 (by decide) ?_
                refine lv_goto (tgt := 41) hx hb dX0_startBounds_36 (by decide) ?_
                refine x_iast (x := 0) (f := B2) hx hb hK hP hD hS 5 0 ([xObj a tc rc ro, xArr (t 0) (a 1) 30 (xN F), xArr (t 0) (a 2) 30 (xN T), xArr (t 0) (a 3) 30 L, xArr (t 1) (a 4) 30 (xB Z), xArr (t 0) (a 6) 144 (upd B2 (i * 12 + j) 0)]) rfl rfl (k := i * 12 + j) rfl (by omega) (Nat.le_of_ble_eq_true rfl) dX0_startBounds_41 (fun H locs hP hD hS => ?_)
                refine lv_iinc (v := nI (j + 1)) (lv' := [(2, .int (nI (j + 1))), (1, .int (nI i)), (0, .ref (a 0))]) hx hb dX0_startBounds_42 hl (k := 0) rfl (x_inc _) (by decide) rfl (fun ls hl => ?_)
                refine lv_goto (tgt := 12) hx hb dX0_startBounds_45 (by decide) ?_
                exact ih_12 n129 (by omega) (j + 1) (upd B2 (i * 12 + j) 0) (by omega) (by rw [← hfin_12]; simp [sbR, c_7, c_8]) _ _ hP hD hS _ (lv_sub hl [0, 1, 2] rfl)
        exact lp_12 tc 0 B1 (by omega) rfl _ _ hP hD hS _ (lv_sub hl [0, 1, 2] rfl)
  exact lp_2 tc 0 B (by omega) rfl _ _ hP hD hS _ (lv_sub hl [0, 1] rfl)
set_option maxHeartbeats 4000000 in
set_option maxRecDepth 100000 in
theorem c_X0_goOnOver (l : Launch) (D : va_G) (t : Nat → ClassId) (a : Nat → Nat) (tc rc : Nat) (ro : Int32) (B : Nat → Int32) (i mid : Nat) (sz : Nat) (htc : tc ≤ 12) (hi : i < tc) (hj : mid < tc) : Met l yX0_goOnOver wsX0_goOnOver ({ frames := 2, cells := 0, slots := 0, locals := 45 }) (xMu D (xTy t) (fun _ => True) [.ref (a 0), .int (nI i), .int (nI mid)] [xObj a tc rc ro, xArr (t 0) (a 6) 144 B] sz) (xQm D (fun u : Unit => True) (fun u : Unit => none) [xObj a tc rc ro, xArr (t 0) (a 6) 144 B] (fun u : Unit => [xObj a tc rc ro, xArr (t 0) (a 6) 144 (goF i mid (B (i * 12 + mid)) tc 0 B)]) sz) 0 0 (va_A [xObj a tc rc ro, xArr (t 0) (a 6) 144 B] sz) := by
  refine Met.ofW (cc := cX0_goOnOver) (maxL := 6) (ret := none) (by decide) rfl ?_
  intro p e s m args below meth c s₁ hB9 hml hv
  obtain ⟨rfl, hsz, hP, hK, hD0, hXX⟩ := hv
  have hx := hB9.exec
  have hb := hB9.bytes
  have hr := hB9.returns
  have hts := atoms_spec (ws := wsX0_goOnOver) hB9.pre
  have hown : s.vm.findClass RX0 = some m.cls := findClass_of_methodNamed hB9.named
  have hlocks := hB9.notSynchronized
  have hin : ∀ w ∈ wsX00, w ∈ wsX0_goOnOver := fun _ h => List.mem_cons_of_mem _ (List.mem_append_right _ h)
  have fl_41 := hts (.fieldLink RX0 41 "RopeTimes" "turnCount" "I") (by decide +kernel)
  have kc_121 := hts (.constant RX0 121 (99999)) (by decide +kernel)
  subst hsz
  have hD := hD0.self (sz := s.heap.size)
  generalize hAe : va_A ([xObj a tc rc ro, xArr (t 0) (a 6) 144 B]) s.heap.size = A at hD ⊢
  have hA : ∀ q : Nat, s.heap.size ≤ q → A q := fun q h => by rw [← hAe]; exact Or.inr h
  have hS : va_S A s.heap s.heap [] := va_S.rf
  have hP : va_P D vwCl ([xObj a tc rc ro, xArr (t 0) (a 6) 144 B]) s.heap := hP
  have hD : va_D A ([xObj a tc rc ro, xArr (t 0) (a 6) 144 B]) := hD
  have hl := lv_entry ([.ref (a 0), .int (nI i), .int (nI mid)]) (n := 6) (Nat.le_of_ble_eq_true rfl)
  rw [lg_entry_eq]
  generalize (lg_sl ([.ref (a 0), .int (nI i), .int (nI mid)]) ++ List.replicate (6 - (lg_sl ([.ref (a 0), .int (nI i), .int (nI mid)])).length) Slot.unset).toArray = ls at hl ⊢
  have hl : lv_has ls 6 [(0, .ref (a 0)), (1, .int (nI i)), (2, .int (nI mid))] := hl
  refine lv_aload_n hx hb dX0_goOnOver_0 rfl (lv_at hl 0 rfl) ?_
  refine lv_iload_n hx hb dX0_goOnOver_1 rfl (lv_at hl 1 rfl) ?_
  refine lv_iload_n hx hb dX0_goOnOver_2 rfl (lv_at hl 2 rfl) ?_
  refine xr_V (b := a 0) (As := [.int (nI i), .int (nI mid)]) (rest := []) ⟨hx, hb, hml, hown, hts⟩ (c_X0_boundFrom l D t a tc rc ro B i mid (by omega) (by omega)) (cwV 2 hts gX0_goOnOver_X0_boundFrom rfl rfl rfl hd_X0_boundFrom ⟨Nat.le_of_ble_eq_true rfl, Nat.le_of_ble_eq_true rfl⟩) hK hP (va_recv hK hP (ci := 0) (q0 := 0) rfl rfl) [0, 1] rfl rfl hl.1 rfl (Nat.le_of_ble_eq_true rfl) dX0_goOnOver_3 ⟨(Nat.le_of_ble_eq_true rfl), (Nat.le_of_ble_eq_true rfl)⟩ ?_
  refine lv_istore_n (lv' := [(3, .int (B (i * 12 + mid))), (0, .ref (a 0)), (1, .int (nI i)), (2, .int (nI mid))]) hx hb dX0_goOnOver_6 rfl hl (by decide) rfl (fun ls hl => ?_)
  refine lv_iconst (v := 0) hx hb dX0_goOnOver_7 (by decide) ?_
  refine lv_istore (lv' := [(4, .int 0), (3, .int (B (i * 12 + mid))), (0, .ref (a 0)), (1, .int (nI i)), (2, .int (nI mid))]) hx hb dX0_goOnOver_8 hl (by decide) rfl (fun ls hl => ?_)
  have lp_10 : ∀ (n10 : Nat) (j : Nat) (B1 : Nat → Int32), j + n10 = tc → goF i mid (B (i * 12 + mid)) n10 j B1 = goF i mid (B (i * 12 + mid)) tc 0 B → ∀ (H : Heap) (locs : List Loc), va_P D vwCl ([xObj a tc rc ro, xArr (t 0) (a 6) 144 B1]) H → va_D A ([xObj a tc rc ro, xArr (t 0) (a 6) 144 B1]) → va_S A s.heap H locs → ∀ ls : Array Slot, lv_has ls 6 [(4, .int (nI j)), (3, .int (B (i * 12 + mid))), (0, .ref (a 0)), (1, .int (nI i)), (2, .int (nI mid))] → W p l e (headSpec wsX0_goOnOver ({ frames := 2, cells := 0, slots := 0, locals := 45 } : Jvm.Room)).room s m (([.ref (a 0), .int (nI i), .int (nI mid)] : List Value).toArray) below meth c H locs 0 0 (MQ below (xQm D (fun u : Unit => True) (fun u : Unit => none) [xObj a tc rc ro, xArr (t 0) (a 6) 144 B] (fun u : Unit => [xObj a tc rc ro, xArr (t 0) (a 6) 144 (goF i mid (B (i * 12 + mid)) tc 0 B)]) s.heap.size) (([.ref (a 0), .int (nI i), .int (nI mid)] : List Value).toArray) s 0 0 A) (F0 m 10 ls []) := by
    intro n10
    induction n10 using Nat.strongRecOn with
    | _ n10 ih_10 =>
      intro j B1 hm_10 hfin_10 H locs hP hD hS ls hl
      refine lv_iload hx hb dX0_goOnOver_10 (lv_at hl 0 rfl) ?_
      refine lv_aload_n hx hb dX0_goOnOver_12 rfl (lv_at hl 2 rfl) ?_
      refine x0_get (v := .int (nI tc)) hx hb hts hin hown hK hP 0 rfl 0 (by decide) fl_41 rfl dX0_goOnOver_13 rfl ?_
      refine lv_icmp_ge (x := nI j) (y := nI tc) (tgt := 52) hx hb dX0_goOnOver_16 (by decide) (fun c_1 => ?_) (fun c_1 => ?_)
      · have c_1 := (nI_leI (a := tc) (b := j) (by omega) (by omega)).mp c_1
        have hn0_10 : n10 = 0 := by omega
        subst hn0_10
        obtain rfl : B1 = goF i mid (B (i * 12 + mid)) tc 0 B := hfin_10
        subst hAe
        obtain ⟨hq9, hf9⟩ := xm_end (S := Unit) (pu := (fun u : Unit => True)) (r := (fun u : Unit => none)) (wc := [xObj a tc rc ro, xArr (t 0) (a 6) 144 B]) (w1 := (fun u : Unit => [xObj a tc rc ro, xArr (t 0) (a 6) 144 (goF i mid (B (i * 12 + mid)) tc 0 B)])) (o := none) (args := ([.ref (a 0), .int (nI i), .int (nI mid)] : List Value).toArray) () rfl trivial rfl hP hD hS
        exact W.vret hx hb hr hq9 hf9 dX0_goOnOver_52 hlocks
      · have c_1 : j < tc := Nat.lt_of_not_le (fun z9 => c_1 ((nI_leI (a := tc) (b := j) (by omega) (by omega)).mpr z9))
        obtain ⟨n109, rfl⟩ : ∃ z, n10 = z + 1 := ⟨n10 - 1, by omega⟩
        refine lv_aload_n hx hb dX0_goOnOver_19 rfl (lv_at hl 2 rfl) ?_
        refine lv_iload_n hx hb dX0_goOnOver_20 rfl (lv_at hl 4 rfl) ?_
        refine lv_iload hx hb dX0_goOnOver_21 (lv_at hl 0 rfl) ?_
        refine xr_V (b := a 0) (As := [.int (nI mid), .int (nI j)]) (rest := []) ⟨hx, hb, hml, hown, hts⟩ (c_X0_boundFrom l D t a tc rc ro B1 mid j (by omega) (by omega)) (cwV 2 hts gX0_goOnOver_X0_boundFrom rfl rfl rfl hd_X0_boundFrom ⟨Nat.le_of_ble_eq_true rfl, Nat.le_of_ble_eq_true rfl⟩) hK hP (va_recv hK hP (ci := 0) (q0 := 0) rfl rfl) [0, 1] rfl rfl hl.1 rfl (Nat.le_of_ble_eq_true rfl) dX0_goOnOver_23 ⟨(Nat.le_of_ble_eq_true rfl), (Nat.le_of_ble_eq_true rfl)⟩ ?_
        refine lv_istore (lv' := [(5, .int (B1 (mid * 12 + j))), (4, .int (nI j)), (3, .int (B (i * 12 + mid))), (0, .ref (a 0)), (1, .int (nI i)), (2, .int (nI mid))]) hx hb dX0_goOnOver_26 hl (by decide) rfl (fun ls hl => ?_)
        refine lv_iload hx hb dX0_goOnOver_28 (lv_at hl 0 rfl) ?_
        refine lv_ldc (v := 99999) hx hb hown kc_121 dX0_goOnOver_30 ?_
        refine lv_icmp_eq (x := B1 (mid * 12 + j)) (y := 99999) (tgt := 46) hx hb dX0_goOnOver_32 (by decide) (fun c_2 => ?_) (fun c_2 => ?_)
        · refine lv_iinc (v := nI (j + 1)) (lv' := [(4, .int (nI (j + 1))), (5, .int (B1 (mid * 12 + j))), (3, .int (B (i * 12 + mid))), (0, .ref (a 0)), (1, .int (nI i)), (2, .int (nI mid))]) hx hb dX0_goOnOver_46 hl (k := 1) rfl (x_inc _) (by decide) rfl (fun ls hl => ?_)
          refine lv_goto (tgt := 10) hx hb dX0_goOnOver_49 (by decide) ?_
          exact ih_10 n109 (by omega) (j + 1) B1 (by omega) (by rw [← hfin_10]; simp [goF, c_1, c_2]) _ _ hP hD hS _ (lv_sub hl [0, 2, 3, 4, 5] rfl)
        · refine lv_aload_n hx hb dX0_goOnOver_35 rfl (lv_at hl 3 rfl) ?_
          refine lv_iload_n hx hb dX0_goOnOver_36 rfl (lv_at hl 4 rfl) ?_
          refine lv_iload hx hb dX0_goOnOver_37 (lv_at hl 1 rfl) ?_
          refine lv_iload_n hx hb dX0_goOnOver_39 rfl (lv_at hl 2 rfl) ?_
          refine lv_iload hx hb dX0_goOnOver_40 (lv_at hl 0 rfl) ?_
          refine lv_iadd (x := B (i * 12 + mid)) (y := B1 (mid * 12 + j)) hx hb dX0_goOnOver_42 ?_
          refine xm_V (b := a 0) (As := [.int (nI i), .int (nI j), .int ((B (i * 12 + mid)) + (B1 (mid * 12 + j)))]) (rest := []) (wr := []) ⟨hx, hb, hml, hown, hts⟩ xTrav_T (c_X0_shortenBound l D t a tc rc ro B1 i j ((B (i * 12 + mid)) + (B1 (mid * 12 + j))) _ (by omega) (by omega)) (cwV 3 hts gX0_goOnOver_X0_shortenBound rfl rfl rfl hd_X0_shortenBound ⟨Nat.le_of_ble_eq_true rfl, Nat.le_of_ble_eq_true rfl⟩) hK hP hD hS hA (fun _ _ _ => trivial) (va_recv hK hP (ci := 0) (q0 := 0) rfl rfl) [0, 1] [] rfl rfl (by decide) (by decide) (by decide) rfl hl.1 rfl (Nat.le_of_ble_eq_true rfl) dX0_goOnOver_43 ⟨(Nat.le_of_ble_eq_true rfl), (Nat.le_of_ble_eq_true rfl)⟩ (fun u_3 H locs hu hP hD hS hz => ?_)
          have hP : va_P D vwCl ([xObj a tc rc ro, xArr (t 0) (a 6) 144 (shortB B1 i j ((B (i * 12 + mid)) + (B1 (mid * 12 + j))))]) H := hP.sub [0, 1] rfl
          have hD : va_D _ ([xObj a tc rc ro, xArr (t 0) (a 6) 144 (shortB B1 i j ((B (i * 12 + mid)) + (B1 (mid * 12 + j))))]) := hD.sub [0, 1] (by decide) rfl
          refine lv_iinc (v := nI (j + 1)) (lv' := [(4, .int (nI (j + 1))), (5, .int (B1 (mid * 12 + j))), (3, .int (B (i * 12 + mid))), (0, .ref (a 0)), (1, .int (nI i)), (2, .int (nI mid))]) hx hb dX0_goOnOver_46 hl (k := 1) rfl (x_inc _) (by decide) rfl (fun ls hl => ?_)
          refine lv_goto (tgt := 10) hx hb dX0_goOnOver_49 (by decide) ?_
          exact ih_10 n109 (by omega) (j + 1) (shortB B1 i j ((B (i * 12 + mid)) + (B1 (mid * 12 + j)))) (by omega) (by rw [← hfin_10]; simp [goF, c_1, c_2]) _ _ hP hD hS _ (lv_sub hl [0, 2, 3, 4, 5] rfl)
  exact lp_10 tc 0 B (by omega) rfl _ _ hP hD hS _ (lv_sub hl [0, 1, 2, 3, 4] rfl)
set_option maxHeartbeats 4000000 in
set_option maxRecDepth 100000 in
theorem c_X0_findBounds (l : Launch) (D : va_G) (t : Nat → ClassId) (a : Nat → Nat) (tc rc : Nat) (ro : Int32) (F T : Nat → Nat) (L : Nat → Int32) (Z : Nat → Bool) (B : Nat → Int32) (sz : Nat) (htc : tc ≤ 12) (hrc : rc ≤ 30) (hF : ∀ r, r < rc → F r < tc ∧ T r < tc) : Met l yX0_findBounds wsX0_findBounds ({ frames := 3, cells := 0, slots := 0, locals := 70 }) (xMu D (xTy t) (fun _ => True) [.ref (a 0)] [xObj a tc rc ro, xArr (t 0) (a 1) 30 (xN F), xArr (t 0) (a 2) 30 (xN T), xArr (t 0) (a 3) 30 L, xArr (t 1) (a 4) 30 (xB Z), xArr (t 0) (a 6) 144 B] sz) (xQm D (fun u : Unit => True) (fun u : Unit => none) [xObj a tc rc ro, xArr (t 0) (a 1) 30 (xN F), xArr (t 0) (a 2) 30 (xN T), xArr (t 0) (a 3) 30 L, xArr (t 1) (a 4) 30 (xB Z), xArr (t 0) (a 6) 144 B] (fun u : Unit => [xObj a tc rc ro, xArr (t 0) (a 1) 30 (xN F), xArr (t 0) (a 2) 30 (xN T), xArr (t 0) (a 3) 30 L, xArr (t 1) (a 4) 30 (xB Z), xArr (t 0) (a 6) 144 (findB F T L Z tc rc B)]) sz) 0 0 (va_A [xObj a tc rc ro, xArr (t 0) (a 1) 30 (xN F), xArr (t 0) (a 2) 30 (xN T), xArr (t 0) (a 3) 30 L, xArr (t 1) (a 4) 30 (xB Z), xArr (t 0) (a 6) 144 B] sz) := by
  refine Met.ofW (cc := cX0_findBounds) (maxL := 3) (ret := none) (by decide) rfl ?_
  intro p e s m args below meth c s₁ hB9 hml hv
  obtain ⟨rfl, hsz, hP, hK, hD0, hXX⟩ := hv
  have hx := hB9.exec
  have hb := hB9.bytes
  have hr := hB9.returns
  have hts := atoms_spec (ws := wsX0_findBounds) hB9.pre
  have hown : s.vm.findClass RX0 = some m.cls := findClass_of_methodNamed hB9.named
  have hlocks := hB9.notSynchronized
  have hin : ∀ w ∈ wsX00, w ∈ wsX0_findBounds := fun _ h => List.mem_cons_of_mem _ (List.mem_append_right _ h)
  have fl_41 := hts (.fieldLink RX0 41 "RopeTimes" "turnCount" "I") (by decide +kernel)
  have kc_121 := hts (.constant RX0 121 (99999)) (by decide +kernel)
  subst hsz
  have hD := hD0.self (sz := s.heap.size)
  generalize hAe : va_A ([xObj a tc rc ro, xArr (t 0) (a 1) 30 (xN F), xArr (t 0) (a 2) 30 (xN T), xArr (t 0) (a 3) 30 L, xArr (t 1) (a 4) 30 (xB Z), xArr (t 0) (a 6) 144 B]) s.heap.size = A at hD ⊢
  have hA : ∀ q : Nat, s.heap.size ≤ q → A q := fun q h => by rw [← hAe]; exact Or.inr h
  have hS : va_S A s.heap s.heap [] := va_S.rf
  have hP : va_P D vwCl ([xObj a tc rc ro, xArr (t 0) (a 1) 30 (xN F), xArr (t 0) (a 2) 30 (xN T), xArr (t 0) (a 3) 30 L, xArr (t 1) (a 4) 30 (xB Z), xArr (t 0) (a 6) 144 B]) s.heap := hP
  have hD : va_D A ([xObj a tc rc ro, xArr (t 0) (a 1) 30 (xN F), xArr (t 0) (a 2) 30 (xN T), xArr (t 0) (a 3) 30 L, xArr (t 1) (a 4) 30 (xB Z), xArr (t 0) (a 6) 144 B]) := hD
  have hl := lv_entry ([.ref (a 0)]) (n := 3) (Nat.le_of_ble_eq_true rfl)
  rw [lg_entry_eq]
  generalize (lg_sl ([.ref (a 0)]) ++ List.replicate (3 - (lg_sl ([.ref (a 0)])).length) Slot.unset).toArray = ls at hl ⊢
  have hl : lv_has ls 3 [(0, .ref (a 0))] := hl
  refine lv_aload_n hx hb dX0_findBounds_0 rfl (lv_at hl 0 rfl) ?_
  refine xm_V (b := a 0) (As := []) (rest := []) (wr := []) ⟨hx, hb, hml, hown, hts⟩ xTrav_T (c_X0_startBounds l D t a tc rc ro F T L Z B _ (by omega) (by omega) hF) (cwV 0 hts gX0_findBounds_X0_startBounds rfl rfl rfl hd_X0_startBounds ⟨Nat.le_of_ble_eq_true rfl, Nat.le_of_ble_eq_true rfl⟩) hK hP hD hS hA (fun _ _ _ => trivial) (va_recv hK hP (ci := 0) (q0 := 0) rfl rfl) [0, 1, 2, 3, 4, 5] [] rfl rfl (by decide) (by decide) (by decide) rfl hl.1 rfl (Nat.le_of_ble_eq_true rfl) dX0_findBounds_1 ⟨(Nat.le_of_ble_eq_true rfl), (Nat.le_of_ble_eq_true rfl)⟩ (fun u_1 H locs hu hP hD hS hz => ?_)
  have hP : va_P D vwCl ([xObj a tc rc ro, xArr (t 0) (a 1) 30 (xN F), xArr (t 0) (a 2) 30 (xN T), xArr (t 0) (a 3) 30 L, xArr (t 1) (a 4) 30 (xB Z), xArr (t 0) (a 6) 144 (startF F T L Z tc rc B)]) H := hP.sub [0, 1, 2, 3, 4, 5] rfl
  have hD : va_D _ ([xObj a tc rc ro, xArr (t 0) (a 1) 30 (xN F), xArr (t 0) (a 2) 30 (xN T), xArr (t 0) (a 3) 30 L, xArr (t 1) (a 4) 30 (xB Z), xArr (t 0) (a 6) 144 (startF F T L Z tc rc B)]) := hD.sub [0, 1, 2, 3, 4, 5] (by decide) rfl
  refine lv_iconst (v := 0) hx hb dX0_findBounds_4 (by decide) ?_
  refine lv_istore_n (lv' := [(1, .int 0), (0, .ref (a 0))]) hx hb dX0_findBounds_5 rfl hl (by decide) rfl (fun ls hl => ?_)
  have lp_6 : ∀ (n6 : Nat) (mid : Nat) (B1 : Nat → Int32), mid + n6 = tc → fbM tc n6 mid B1 = fbM tc tc 0 (startF F T L Z tc rc B) → ∀ (H : Heap) (locs : List Loc), va_P D vwCl ([xObj a tc rc ro, xArr (t 0) (a 1) 30 (xN F), xArr (t 0) (a 2) 30 (xN T), xArr (t 0) (a 3) 30 L, xArr (t 1) (a 4) 30 (xB Z), xArr (t 0) (a 6) 144 B1]) H → va_D A ([xObj a tc rc ro, xArr (t 0) (a 1) 30 (xN F), xArr (t 0) (a 2) 30 (xN T), xArr (t 0) (a 3) 30 L, xArr (t 1) (a 4) 30 (xB Z), xArr (t 0) (a 6) 144 B1]) → va_S A s.heap H locs → ∀ ls : Array Slot, lv_has ls 3 [(1, .int (nI mid)), (0, .ref (a 0))] → W p l e (headSpec wsX0_findBounds ({ frames := 3, cells := 0, slots := 0, locals := 70 } : Jvm.Room)).room s m (([.ref (a 0)] : List Value).toArray) below meth c H locs 0 0 (MQ below (xQm D (fun u : Unit => True) (fun u : Unit => none) [xObj a tc rc ro, xArr (t 0) (a 1) 30 (xN F), xArr (t 0) (a 2) 30 (xN T), xArr (t 0) (a 3) 30 L, xArr (t 1) (a 4) 30 (xB Z), xArr (t 0) (a 6) 144 B] (fun u : Unit => [xObj a tc rc ro, xArr (t 0) (a 1) 30 (xN F), xArr (t 0) (a 2) 30 (xN T), xArr (t 0) (a 3) 30 L, xArr (t 1) (a 4) 30 (xB Z), xArr (t 0) (a 6) 144 (findB F T L Z tc rc B)]) s.heap.size) (([.ref (a 0)] : List Value).toArray) s 0 0 A) (F0 m 6 ls []) := by
    intro n6
    induction n6 using Nat.strongRecOn with
    | _ n6 ih_6 =>
      intro mid B1 hm_6 hfin_6 H locs hP hD hS ls hl
      refine lv_iload_n hx hb dX0_findBounds_6 rfl (lv_at hl 0 rfl) ?_
      refine lv_aload_n hx hb dX0_findBounds_7 rfl (lv_at hl 1 rfl) ?_
      refine x0_get (v := .int (nI tc)) hx hb hts hin hown hK hP 0 rfl 0 (by decide) fl_41 rfl dX0_findBounds_8 rfl ?_
      refine lv_icmp_ge (x := nI mid) (y := nI tc) (tgt := 53) hx hb dX0_findBounds_11 (by decide) (fun c_2 => ?_) (fun c_2 => ?_)
      · have c_2 := (nI_leI (a := tc) (b := mid) (by omega) (by omega)).mp c_2
        have hn0_6 : n6 = 0 := by omega
        subst hn0_6
        obtain rfl : B1 = fbM tc tc 0 (startF F T L Z tc rc B) := hfin_6
        subst hAe
        obtain ⟨hq9, hf9⟩ := xm_end (S := Unit) (pu := (fun u : Unit => True)) (r := (fun u : Unit => none)) (wc := [xObj a tc rc ro, xArr (t 0) (a 1) 30 (xN F), xArr (t 0) (a 2) 30 (xN T), xArr (t 0) (a 3) 30 L, xArr (t 1) (a 4) 30 (xB Z), xArr (t 0) (a 6) 144 B]) (w1 := (fun u : Unit => [xObj a tc rc ro, xArr (t 0) (a 1) 30 (xN F), xArr (t 0) (a 2) 30 (xN T), xArr (t 0) (a 3) 30 L, xArr (t 1) (a 4) 30 (xB Z), xArr (t 0) (a 6) 144 (findB F T L Z tc rc B)])) (o := none) (args := ([.ref (a 0)] : List Value).toArray) () rfl trivial rfl hP hD hS
        exact W.vret hx hb hr hq9 hf9 dX0_findBounds_53 hlocks
      · have c_2 : mid < tc := Nat.lt_of_not_le (fun z9 => c_2 ((nI_leI (a := tc) (b := mid) (by omega) (by omega)).mpr z9))
        obtain ⟨n69, rfl⟩ : ∃ z, n6 = z + 1 := ⟨n6 - 1, by omega⟩
        refine lv_iconst (v := 0) hx hb dX0_findBounds_14 (by decide) ?_
        refine lv_istore_n (lv' := [(2, .int 0), (1, .int (nI mid)), (0, .ref (a 0))]) hx hb dX0_findBounds_15 rfl hl (by decide) rfl (fun ls hl => ?_)
        have lp_16 : ∀ (n16 : Nat) (i : Nat) (B2 : Nat → Int32), i + n16 = tc → fbA mid tc n16 i B2 = fbA mid tc tc 0 B1 → ∀ (H : Heap) (locs : List Loc), va_P D vwCl ([xObj a tc rc ro, xArr (t 0) (a 1) 30 (xN F), xArr (t 0) (a 2) 30 (xN T), xArr (t 0) (a 3) 30 L, xArr (t 1) (a 4) 30 (xB Z), xArr (t 0) (a 6) 144 B2]) H → va_D A ([xObj a tc rc ro, xArr (t 0) (a 1) 30 (xN F), xArr (t 0) (a 2) 30 (xN T), xArr (t 0) (a 3) 30 L, xArr (t 1) (a 4) 30 (xB Z), xArr (t 0) (a 6) 144 B2]) → va_S A s.heap H locs → ∀ ls : Array Slot, lv_has ls 3 [(2, .int (nI i)), (1, .int (nI mid)), (0, .ref (a 0))] → W p l e (headSpec wsX0_findBounds ({ frames := 3, cells := 0, slots := 0, locals := 70 } : Jvm.Room)).room s m (([.ref (a 0)] : List Value).toArray) below meth c H locs 0 0 (MQ below (xQm D (fun u : Unit => True) (fun u : Unit => none) [xObj a tc rc ro, xArr (t 0) (a 1) 30 (xN F), xArr (t 0) (a 2) 30 (xN T), xArr (t 0) (a 3) 30 L, xArr (t 1) (a 4) 30 (xB Z), xArr (t 0) (a 6) 144 B] (fun u : Unit => [xObj a tc rc ro, xArr (t 0) (a 1) 30 (xN F), xArr (t 0) (a 2) 30 (xN T), xArr (t 0) (a 3) 30 L, xArr (t 1) (a 4) 30 (xB Z), xArr (t 0) (a 6) 144 (findB F T L Z tc rc B)]) s.heap.size) (([.ref (a 0)] : List Value).toArray) s 0 0 A) (F0 m 16 ls []) := by
          intro n16
          induction n16 using Nat.strongRecOn with
          | _ n16 ih_16 =>
            intro i B2 hm_16 hfin_16 H locs hP hD hS ls hl
            refine lv_iload_n hx hb dX0_findBounds_16 rfl (lv_at hl 0 rfl) ?_
            refine lv_aload_n hx hb dX0_findBounds_17 rfl (lv_at hl 2 rfl) ?_
            refine x0_get (v := .int (nI tc)) hx hb hts hin hown hK hP 0 rfl 0 (by decide) fl_41 rfl dX0_findBounds_18 rfl ?_
            refine lv_icmp_ge (x := nI i) (y := nI tc) (tgt := 47) hx hb dX0_findBounds_21 (by decide) (fun c_3 => ?_) (fun c_3 => ?_)
            · have c_3 := (nI_leI (a := tc) (b := i) (by omega) (by omega)).mp c_3
              have hn0_16 : n16 = 0 := by omega
              subst hn0_16
              obtain rfl : B2 = fbA mid tc tc 0 B1 := hfin_16
              refine lv_iinc (v := nI (mid + 1)) (lv' := [(1, .int (nI (mid + 1))), (2, .int (nI i)), (0, .ref (a 0))]) hx hb dX0_findBounds_47 hl (k := 1) rfl (x_inc _) (by decide) rfl (fun ls hl => ?_)
              refine lv_goto (tgt := 6) hx hb dX0_findBounds_50 (by decide) ?_
              exact ih_6 n69 (by omega) (mid + 1) (fbA mid tc tc 0 B1) (by omega) (by rw [← hfin_6]; rfl) _ _ hP hD hS _ (lv_sub hl [0, 2] rfl)
            · have c_3 : i < tc := Nat.lt_of_not_le (fun z9 => c_3 ((nI_leI (a := tc) (b := i) (by omega) (by omega)).mpr z9))
              obtain ⟨n169, rfl⟩ : ∃ z, n16 = z + 1 := ⟨n16 - 1, by omega⟩
              refine lv_aload_n hx hb dX0_findBounds_24 rfl (lv_at hl 2 rfl) ?_
              refine lv_iload_n hx hb dX0_findBounds_25 rfl (lv_at hl 0 rfl) ?_
              refine lv_iload_n hx hb dX0_findBounds_26 rfl (lv_at hl 1 rfl) ?_
              refine xr_V (b := a 0) (As := [.int (nI i), .int (nI mid)]) (rest := []) ⟨hx, hb, hml, hown, hts⟩ (c_X0_boundFrom l D t a tc rc ro B2 i mid (by omega) (by omega)) (cwV 2 hts gX0_findBounds_X0_boundFrom rfl rfl rfl hd_X0_boundFrom ⟨Nat.le_of_ble_eq_true rfl, Nat.le_of_ble_eq_true rfl⟩) hK hP (va_recv hK hP (ci := 0) (q0 := 0) rfl rfl) [0, 5] rfl rfl hl.1 rfl (Nat.le_of_ble_eq_true rfl) dX0_findBounds_27 ⟨(Nat.le_of_ble_eq_true rfl), (Nat.le_of_ble_eq_true rfl)⟩ ?_
              refine lv_ldc (v := 99999) hx hb hown kc_121 dX0_findBounds_30 ?_
              refine lv_icmp_eq (x := B2 (i * 12 + mid)) (y := 99999) (tgt := 41) hx hb dX0_findBounds_32 (by decide) (fun c_4 => ?_) (fun c_4 => ?_)
              · refine lv_iinc (v := nI (i + 1)) (lv' := [(2, .int (nI (i + 1))), (1, .int (nI mid)), (0, .ref (a 0))]) hx hb dX0_findBounds_41 hl (k := 0) rfl (x_inc _) (by decide) rfl (fun ls hl => ?_)
                refine lv_goto (tgt := 16) hx hb dX0_findBounds_44 (by decide) ?_
                exact ih_16 n169 (by omega) (i + 1) B2 (by omega) (by rw [← hfin_16]; simp [fbA, c_3, c_4]) _ _ hP hD hS _ (lv_sub hl [0, 1, 2] rfl)
              · refine lv_aload_n hx hb dX0_findBounds_35 rfl (lv_at hl 2 rfl) ?_
                refine lv_iload_n hx hb dX0_findBounds_36 rfl (lv_at hl 0 rfl) ?_
                refine lv_iload_n hx hb dX0_findBounds_37 rfl (lv_at hl 1 rfl) ?_
                refine xm_V (b := a 0) (As := [.int (nI i), .int (nI mid)]) (rest := []) (wr := [xArr (t 0) (a 1) 30 (xN F), xArr (t 0) (a 2) 30 (xN T), xArr (t 0) (a 3) 30 L, xArr (t 1) (a 4) 30 (xB Z)]) ⟨hx, hb, hml, hown, hts⟩ xTrav_T (c_X0_goOnOver l D t a tc rc ro B2 i mid _ (by omega) (by omega) (by omega)) (cwV 2 hts gX0_findBounds_X0_goOnOver rfl rfl rfl hd_X0_goOnOver ⟨Nat.le_of_ble_eq_true rfl, Nat.le_of_ble_eq_true rfl⟩) hK hP hD hS hA (fun _ _ _ => trivial) (va_recv hK hP (ci := 0) (q0 := 0) rfl rfl) [0, 5] [1, 2, 3, 4] rfl rfl (by decide) (by decide) (by decide) rfl hl.1 rfl (Nat.le_of_ble_eq_true rfl) dX0_findBounds_38 ⟨(Nat.le_of_ble_eq_true rfl), (Nat.le_of_ble_eq_true rfl)⟩ (fun u_5 H locs hu hP hD hS hz => ?_)
                have hP : va_P D vwCl ([xObj a tc rc ro, xArr (t 0) (a 1) 30 (xN F), xArr (t 0) (a 2) 30 (xN T), xArr (t 0) (a 3) 30 L, xArr (t 1) (a 4) 30 (xB Z), xArr (t 0) (a 6) 144 (goF i mid (B2 (i * 12 + mid)) tc 0 B2)]) H := hP.sub [4, 0, 1, 2, 3, 5] rfl
                have hD : va_D _ ([xObj a tc rc ro, xArr (t 0) (a 1) 30 (xN F), xArr (t 0) (a 2) 30 (xN T), xArr (t 0) (a 3) 30 L, xArr (t 1) (a 4) 30 (xB Z), xArr (t 0) (a 6) 144 (goF i mid (B2 (i * 12 + mid)) tc 0 B2)]) := hD.sub [4, 0, 1, 2, 3, 5] (by decide) rfl
                refine lv_iinc (v := nI (i + 1)) (lv' := [(2, .int (nI (i + 1))), (1, .int (nI mid)), (0, .ref (a 0))]) hx hb dX0_findBounds_41 hl (k := 0) rfl (x_inc _) (by decide) rfl (fun ls hl => ?_)
                refine lv_goto (tgt := 16) hx hb dX0_findBounds_44 (by decide) ?_
                exact ih_16 n169 (by omega) (i + 1) (goF i mid (B2 (i * 12 + mid)) tc 0 B2) (by omega) (by rw [← hfin_16]; simp [fbA, c_3, c_4]) _ _ hP hD hS _ (lv_sub hl [0, 1, 2] rfl)
        exact lp_16 tc 0 B1 (by omega) rfl _ _ hP hD hS _ (lv_sub hl [0, 1, 2] rfl)
  exact lp_6 tc 0 (startF F T L Z tc rc B) (by omega) rfl _ _ hP hD hS _ (lv_sub hl [0, 1] rfl)
set_option maxHeartbeats 4000000 in
set_option maxRecDepth 100000 in
theorem c_X0_settle (l : Launch) (D : va_G) (t : Nat → ClassId) (a : Nat → Nat) (tc rc : Nat) (ro : Int32) (F T : Nat → Nat) (L : Nat → Int32) (Z : Nat → Bool) (E B : Nat → Int32) (sz : Nat) (htc : tc ≤ 12) (hrc : rc ≤ 30) (hF : ∀ r, r < rc → F r < tc ∧ T r < tc) : Met l yX0_settle wsX0_settle ({ frames := 4, cells := 0, slots := 0, locals := 92 }) (xMu D (xTy t) (fun _ => True) [.ref (a 0)] [xObj a tc rc ro, xArr (t 0) (a 1) 30 (xN F), xArr (t 0) (a 2) 30 (xN T), xArr (t 0) (a 3) 30 L, xArr (t 1) (a 4) 30 (xB Z), xArr (t 0) (a 5) 12 E, xArr (t 0) (a 6) 144 B] sz) (xQm D (fun u : Unit => True) (fun u : Unit => none) [xObj a tc rc ro, xArr (t 0) (a 1) 30 (xN F), xArr (t 0) (a 2) 30 (xN T), xArr (t 0) (a 3) 30 L, xArr (t 1) (a 4) 30 (xB Z), xArr (t 0) (a 5) 12 E, xArr (t 0) (a 6) 144 B] (fun u : Unit => [xObj a tc rc (sRo F T L Z tc rc E), xArr (t 0) (a 1) 30 (xN F), xArr (t 0) (a 2) 30 (xN T), xArr (t 0) (a 3) 30 L, xArr (t 1) (a 4) 30 (xB Z), xArr (t 0) (a 5) 12 (sE F T L Z tc rc E), xArr (t 0) (a 6) 144 (sB F T L Z tc rc E B)]) sz) 0 0 (va_A [xObj a tc rc ro, xArr (t 0) (a 1) 30 (xN F), xArr (t 0) (a 2) 30 (xN T), xArr (t 0) (a 3) 30 L, xArr (t 1) (a 4) 30 (xB Z), xArr (t 0) (a 5) 12 E, xArr (t 0) (a 6) 144 B] sz) := by
  refine Met.ofW (cc := cX0_settle) (maxL := 1) (ret := none) (by decide) rfl ?_
  intro p e s m args below meth c s₁ hB9 hml hv
  obtain ⟨rfl, hsz, hP, hK, hD0, hXX⟩ := hv
  have hx := hB9.exec
  have hb := hB9.bytes
  have hr := hB9.returns
  have hts := atoms_spec (ws := wsX0_settle) hB9.pre
  have hown : s.vm.findClass RX0 = some m.cls := findClass_of_methodNamed hB9.named
  have hlocks := hB9.notSynchronized
  have hin : ∀ w ∈ wsX00, w ∈ wsX0_settle := fun _ h => List.mem_cons_of_mem _ (List.mem_append_right _ h)
  have fl_23 := hts (.fieldLink RX0 23 "RopeTimes" "earliest" "[I") (by decide +kernel)
  have fl_94 := hts (.fieldLink RX0 94 "RopeTimes" "rounds" "I") (by decide +kernel)
  subst hsz
  have hD := hD0.self (sz := s.heap.size)
  generalize hAe : va_A ([xObj a tc rc ro, xArr (t 0) (a 1) 30 (xN F), xArr (t 0) (a 2) 30 (xN T), xArr (t 0) (a 3) 30 L, xArr (t 1) (a 4) 30 (xB Z), xArr (t 0) (a 5) 12 E, xArr (t 0) (a 6) 144 B]) s.heap.size = A at hD ⊢
  have hA : ∀ q : Nat, s.heap.size ≤ q → A q := fun q h => by rw [← hAe]; exact Or.inr h
  have hS : va_S A s.heap s.heap [] := va_S.rf
  have hP : va_P D vwCl ([xObj a tc rc ro, xArr (t 0) (a 1) 30 (xN F), xArr (t 0) (a 2) 30 (xN T), xArr (t 0) (a 3) 30 L, xArr (t 1) (a 4) 30 (xB Z), xArr (t 0) (a 5) 12 E, xArr (t 0) (a 6) 144 B]) s.heap := hP
  have hD : va_D A ([xObj a tc rc ro, xArr (t 0) (a 1) 30 (xN F), xArr (t 0) (a 2) 30 (xN T), xArr (t 0) (a 3) 30 L, xArr (t 1) (a 4) 30 (xB Z), xArr (t 0) (a 5) 12 E, xArr (t 0) (a 6) 144 B]) := hD
  have hl := lv_entry ([.ref (a 0)]) (n := 1) (Nat.le_of_ble_eq_true rfl)
  rw [lg_entry_eq]
  generalize (lg_sl ([.ref (a 0)]) ++ List.replicate (1 - (lg_sl ([.ref (a 0)])).length) Slot.unset).toArray = ls at hl ⊢
  have hl : lv_has ls 1 [(0, .ref (a 0))] := hl
  refine lv_aload_n hx hb dX0_settle_0 rfl (lv_at hl 0 rfl) ?_
  refine lv_aload_n hx hb dX0_settle_1 rfl (lv_at hl 0 rfl) ?_
  refine lv_aload_n hx hb dX0_settle_2 rfl (lv_at hl 0 rfl) ?_
  refine x0_get (v := .ref (a 5)) hx hb hts hin hown hK hP 0 rfl 7 (by decide) fl_23 rfl dX0_settle_3 rfl ?_
  refine lv_iconst (v := (-1)) hx hb dX0_settle_6 (by decide) ?_
  refine xm_V (b := a 0) (As := [.ref (a 5), .int (-1)]) (rest := [.ref (a 0)]) (wr := [xArr (t 0) (a 6) 144 B]) ⟨hx, hb, hml, hown, hts⟩ xTrav_T (c_X0_findEarliest l D t a tc rc ro F T L Z (a 5) E (-1) _ (by omega) (by omega) hF) (cwV 2 hts gX0_settle_X0_findEarliest rfl rfl rfl hd_X0_findEarliest ⟨Nat.le_of_ble_eq_true rfl, Nat.le_of_ble_eq_true rfl⟩) hK hP hD hS hA (fun _ _ _ => trivial) (va_recv hK hP (ci := 0) (q0 := 0) rfl rfl) [0, 1, 2, 3, 4, 5] [6] rfl rfl (by decide) (by decide) (by decide) rfl hl.1 rfl (Nat.le_of_ble_eq_true rfl) dX0_settle_7 ⟨(Nat.le_of_ble_eq_true rfl), (Nat.le_of_ble_eq_true rfl)⟩ (fun u_1 H locs hu hP hD hS hz => ?_)
  have hP : va_P D vwCl ([xObj a tc rc ro, xArr (t 0) (a 1) 30 (xN F), xArr (t 0) (a 2) 30 (xN T), xArr (t 0) (a 3) 30 L, xArr (t 1) (a 4) 30 (xB Z), xArr (t 0) (a 5) 12 ((findE F T L (actC Z (-1)) tc rc E).1), xArr (t 0) (a 6) 144 B]) H := hP.sub [1, 2, 3, 4, 5, 6, 0] rfl
  have hD : va_D _ ([xObj a tc rc ro, xArr (t 0) (a 1) 30 (xN F), xArr (t 0) (a 2) 30 (xN T), xArr (t 0) (a 3) 30 L, xArr (t 1) (a 4) 30 (xB Z), xArr (t 0) (a 5) 12 ((findE F T L (actC Z (-1)) tc rc E).1), xArr (t 0) (a 6) 144 B]) := hD.sub [1, 2, 3, 4, 5, 6, 0] (by decide) rfl
  refine x0_put (x := (findE F T L (actC Z (-1)) tc rc E).2) hx hb hts hin hown hK hP hD hS 0 ([xObj a tc rc ((findE F T L (actC Z (-1)) tc rc E).2), xArr (t 0) (a 1) 30 (xN F), xArr (t 0) (a 2) 30 (xN T), xArr (t 0) (a 3) 30 L, xArr (t 1) (a 4) 30 (xB Z), xArr (t 0) (a 5) 12 ((findE F T L (actC Z (-1)) tc rc E).1), xArr (t 0) (a 6) 144 B]) rfl 6 (by decide) fl_94 rfl rfl (Nat.le_of_ble_eq_true rfl) rfl dX0_settle_10 rfl (fun H locs hP hD hS => ?_)
  refine lv_aload_n hx hb dX0_settle_13 rfl (lv_at hl 0 rfl) ?_
  refine xr_V (b := a 0) (As := []) (rest := []) ⟨hx, hb, hml, hown, hts⟩ (c_X0_isPossible l D t a tc rc ((findE F T L (actC Z (-1)) tc rc E).2)) (cwV 0 hts gX0_settle_X0_isPossible rfl rfl rfl hd_X0_isPossible ⟨Nat.le_of_ble_eq_true rfl, Nat.le_of_ble_eq_true rfl⟩) hK hP (va_recv hK hP (ci := 0) (q0 := 0) rfl rfl) [0] rfl rfl hl.1 rfl (Nat.le_of_ble_eq_true rfl) dX0_settle_14 ⟨(Nat.le_of_ble_eq_true rfl), (Nat.le_of_ble_eq_true rfl)⟩ ?_
  refine lv_if_eq (x := bI (decide (¬ (findE F T L (actC Z (-1)) tc rc E).2 = -1))) (tgt := 24) hx hb dX0_settle_17 (by decide) (fun c_2 => ?_) (fun c_2 => ?_)
  · have c_2 := Classical.not_not.mp (of_decide_eq_false (bI_0 c_2))
    have c_2 : sRo F T L Z tc rc E = -1 := c_2
    have e9 : B = sB F T L Z tc rc E B := by simp [sB, c_2]
    have hP9 : va_P D vwCl ([xObj a tc rc (sRo F T L Z tc rc E), xArr (t 0) (a 1) 30 (xN F), xArr (t 0) (a 2) 30 (xN T), xArr (t 0) (a 3) 30 L, xArr (t 1) (a 4) 30 (xB Z), xArr (t 0) (a 5) 12 (sE F T L Z tc rc E), xArr (t 0) (a 6) 144 (sB F T L Z tc rc E B)]) H := by rw [← e9]; exact hP
    have hD9 : va_D A ([xObj a tc rc (sRo F T L Z tc rc E), xArr (t 0) (a 1) 30 (xN F), xArr (t 0) (a 2) 30 (xN T), xArr (t 0) (a 3) 30 L, xArr (t 1) (a 4) 30 (xB Z), xArr (t 0) (a 5) 12 (sE F T L Z tc rc E), xArr (t 0) (a 6) 144 (sB F T L Z tc rc E B)]) := by rw [← e9]; exact hD
    subst hAe
    obtain ⟨hq9, hf9⟩ := xm_end (S := Unit) (pu := (fun u : Unit => True)) (r := (fun u : Unit => none)) (wc := [xObj a tc rc ro, xArr (t 0) (a 1) 30 (xN F), xArr (t 0) (a 2) 30 (xN T), xArr (t 0) (a 3) 30 L, xArr (t 1) (a 4) 30 (xB Z), xArr (t 0) (a 5) 12 E, xArr (t 0) (a 6) 144 B]) (w1 := (fun u : Unit => [xObj a tc rc (sRo F T L Z tc rc E), xArr (t 0) (a 1) 30 (xN F), xArr (t 0) (a 2) 30 (xN T), xArr (t 0) (a 3) 30 L, xArr (t 1) (a 4) 30 (xB Z), xArr (t 0) (a 5) 12 (sE F T L Z tc rc E), xArr (t 0) (a 6) 144 (sB F T L Z tc rc E B)])) (o := none) (args := ([.ref (a 0)] : List Value).toArray) () rfl trivial rfl hP9 hD9 hS
    exact W.vret hx hb hr hq9 hf9 dX0_settle_24 hlocks
  · have c_2 := of_decide_eq_true (bI_n0 c_2)
    have c_2 : ¬ sRo F T L Z tc rc E = -1 := c_2
    refine lv_aload_n hx hb dX0_settle_20 rfl (lv_at hl 0 rfl) ?_
    refine xm_V (b := a 0) (As := []) (rest := []) (wr := [xArr (t 0) (a 5) 12 ((findE F T L (actC Z (-1)) tc rc E).1)]) ⟨hx, hb, hml, hown, hts⟩ xTrav_T (c_X0_findBounds l D t a tc rc ((findE F T L (actC Z (-1)) tc rc E).2) F T L Z B _ (by omega) (by omega) hF) (cwV 0 hts gX0_settle_X0_findBounds rfl rfl rfl hd_X0_findBounds ⟨Nat.le_of_ble_eq_true rfl, Nat.le_of_ble_eq_true rfl⟩) hK hP hD hS hA (fun _ _ _ => trivial) (va_recv hK hP (ci := 0) (q0 := 0) rfl rfl) [0, 1, 2, 3, 4, 6] [5] rfl rfl (by decide) (by decide) (by decide) rfl hl.1 rfl (Nat.le_of_ble_eq_true rfl) dX0_settle_21 ⟨(Nat.le_of_ble_eq_true rfl), (Nat.le_of_ble_eq_true rfl)⟩ (fun u_3 H locs hu hP hD hS hz => ?_)
    have hP : va_P D vwCl ([xObj a tc rc ((findE F T L (actC Z (-1)) tc rc E).2), xArr (t 0) (a 1) 30 (xN F), xArr (t 0) (a 2) 30 (xN T), xArr (t 0) (a 3) 30 L, xArr (t 1) (a 4) 30 (xB Z), xArr (t 0) (a 5) 12 ((findE F T L (actC Z (-1)) tc rc E).1), xArr (t 0) (a 6) 144 (findB F T L Z tc rc B)]) H := hP.sub [1, 2, 3, 4, 5, 0, 6] rfl
    have hD : va_D _ ([xObj a tc rc ((findE F T L (actC Z (-1)) tc rc E).2), xArr (t 0) (a 1) 30 (xN F), xArr (t 0) (a 2) 30 (xN T), xArr (t 0) (a 3) 30 L, xArr (t 1) (a 4) 30 (xB Z), xArr (t 0) (a 5) 12 ((findE F T L (actC Z (-1)) tc rc E).1), xArr (t 0) (a 6) 144 (findB F T L Z tc rc B)]) := hD.sub [1, 2, 3, 4, 5, 0, 6] (by decide) rfl
    have e9 : findB F T L Z tc rc B = sB F T L Z tc rc E B := by simp [sB, c_2]
    have hP9 : va_P D vwCl ([xObj a tc rc (sRo F T L Z tc rc E), xArr (t 0) (a 1) 30 (xN F), xArr (t 0) (a 2) 30 (xN T), xArr (t 0) (a 3) 30 L, xArr (t 1) (a 4) 30 (xB Z), xArr (t 0) (a 5) 12 (sE F T L Z tc rc E), xArr (t 0) (a 6) 144 (sB F T L Z tc rc E B)]) H := by rw [← e9]; exact hP
    have hD9 : va_D A ([xObj a tc rc (sRo F T L Z tc rc E), xArr (t 0) (a 1) 30 (xN F), xArr (t 0) (a 2) 30 (xN T), xArr (t 0) (a 3) 30 L, xArr (t 1) (a 4) 30 (xB Z), xArr (t 0) (a 5) 12 (sE F T L Z tc rc E), xArr (t 0) (a 6) 144 (sB F T L Z tc rc E B)]) := by rw [← e9]; exact hD
    subst hAe
    obtain ⟨hq9, hf9⟩ := xm_end (S := Unit) (pu := (fun u : Unit => True)) (r := (fun u : Unit => none)) (wc := [xObj a tc rc ro, xArr (t 0) (a 1) 30 (xN F), xArr (t 0) (a 2) 30 (xN T), xArr (t 0) (a 3) 30 L, xArr (t 1) (a 4) 30 (xB Z), xArr (t 0) (a 5) 12 E, xArr (t 0) (a 6) 144 B]) (w1 := (fun u : Unit => [xObj a tc rc (sRo F T L Z tc rc E), xArr (t 0) (a 1) 30 (xN F), xArr (t 0) (a 2) 30 (xN T), xArr (t 0) (a 3) 30 L, xArr (t 1) (a 4) 30 (xB Z), xArr (t 0) (a 5) 12 (sE F T L Z tc rc E), xArr (t 0) (a 6) 144 (sB F T L Z tc rc E B)])) (o := none) (args := ([.ref (a 0)] : List Value).toArray) () rfl trivial rfl hP9 hD9 hS
    exact W.vret hx hb hr hq9 hf9 dX0_settle_24 hlocks
set_option maxHeartbeats 4000000 in
set_option maxRecDepth 100000 in
theorem c_X0_goOneRope (l : Launch) (D : va_G) (t : Nat → ClassId) (a : Nat → Nat) (tc rc : Nat) (ro : Int32) (F T : Nat → Nat) (L : Nat → Int32) (Z : Nat → Bool) (R N : Nat → Int32) (sz : Nat) (htc : tc ≤ 12) (hrc : rc ≤ 30) (hF : ∀ r, r < rc → F r < tc ∧ T r < tc) : Met l yX0_goOneRope wsX0_goOneRope ({ frames := 1, cells := 0, slots := 0, locals := 21 }) (xMu D (xTy t) (fun _ => True) [.ref (a 0)] [xObj a tc rc ro, xArr (t 0) (a 1) 30 (xN F), xArr (t 0) (a 2) 30 (xN T), xArr (t 0) (a 3) 30 L, xArr (t 1) (a 4) 30 (xB Z), xArr (t 0) (a 8) 12 R, xArr (t 0) (a 9) 12 N] sz) (xQm D (fun u : Unit => True) (fun u : Unit => none) [xObj a tc rc ro, xArr (t 0) (a 1) 30 (xN F), xArr (t 0) (a 2) 30 (xN T), xArr (t 0) (a 3) 30 L, xArr (t 1) (a 4) 30 (xB Z), xArr (t 0) (a 8) 12 R, xArr (t 0) (a 9) 12 N] (fun u : Unit => [xObj a tc rc ro, xArr (t 0) (a 1) 30 (xN F), xArr (t 0) (a 2) 30 (xN T), xArr (t 0) (a 3) 30 L, xArr (t 1) (a 4) 30 (xB Z), xArr (t 0) (a 8) 12 ((oneR F T L Z tc rc (R, N)).1), xArr (t 0) (a 9) 12 ((oneR F T L Z tc rc (R, N)).2)]) sz) 0 0 (va_A [xObj a tc rc ro, xArr (t 0) (a 1) 30 (xN F), xArr (t 0) (a 2) 30 (xN T), xArr (t 0) (a 3) 30 L, xArr (t 1) (a 4) 30 (xB Z), xArr (t 0) (a 8) 12 R, xArr (t 0) (a 9) 12 N] sz) := by
  refine Met.ofW (cc := cX0_goOneRope) (maxL := 3) (ret := none) (by decide) rfl ?_
  intro p e s m args below meth c s₁ hB9 hml hv
  obtain ⟨rfl, hsz, hP, hK, hD0, hXX⟩ := hv
  have hx := hB9.exec
  have hb := hB9.bytes
  have hr := hB9.returns
  have hts := atoms_spec (ws := wsX0_goOneRope) hB9.pre
  have hown : s.vm.findClass RX0 = some m.cls := findClass_of_methodNamed hB9.named
  have hlocks := hB9.notSynchronized
  have hin : ∀ w ∈ wsX00, w ∈ wsX0_goOneRope := fun _ h => List.mem_cons_of_mem _ (List.mem_append_right _ h)
  have fl_41 := hts (.fieldLink RX0 41 "RopeTimes" "turnCount" "I") (by decide +kernel)
  have fl_35 := hts (.fieldLink RX0 35 "RopeTimes" "nextReach" "[I") (by decide +kernel)
  have kc_121 := hts (.constant RX0 121 (99999)) (by decide +kernel)
  have fl_63 := hts (.fieldLink RX0 63 "RopeTimes" "ropeCount" "I") (by decide +kernel)
  have fl_19 := hts (.fieldLink RX0 19 "RopeTimes" "tied" "[Z") (by decide +kernel)
  have fl_32 := hts (.fieldLink RX0 32 "RopeTimes" "reach" "[I") (by decide +kernel)
  have fl_9 := hts (.fieldLink RX0 9 "RopeTimes" "from" "[I") (by decide +kernel)
  have fl_16 := hts (.fieldLink RX0 16 "RopeTimes" "length" "[I") (by decide +kernel)
  have fl_13 := hts (.fieldLink RX0 13 "RopeTimes" "to" "[I") (by decide +kernel)
  have ml_122 := hts (.methodLink RX0 122 Lib.Math.min.name) (by decide +kernel)
  have ms_min := hts (.static Lib.Math.min.name) (by decide +kernel)
  have mc_min := hts (.code Lib.Math.min.name Lib.Math.min.code 2 (some .int)) (by decide +kernel)
  have mi_Math := hts (.initialized "java/lang/Math") (by decide +kernel)
  subst hsz
  have hD := hD0.self (sz := s.heap.size)
  generalize hAe : va_A ([xObj a tc rc ro, xArr (t 0) (a 1) 30 (xN F), xArr (t 0) (a 2) 30 (xN T), xArr (t 0) (a 3) 30 L, xArr (t 1) (a 4) 30 (xB Z), xArr (t 0) (a 8) 12 R, xArr (t 0) (a 9) 12 N]) s.heap.size = A at hD ⊢
  have hA : ∀ q : Nat, s.heap.size ≤ q → A q := fun q h => by rw [← hAe]; exact Or.inr h
  have hS : va_S A s.heap s.heap [] := va_S.rf
  have hP : va_P D vwCl ([xObj a tc rc ro, xArr (t 0) (a 1) 30 (xN F), xArr (t 0) (a 2) 30 (xN T), xArr (t 0) (a 3) 30 L, xArr (t 1) (a 4) 30 (xB Z), xArr (t 0) (a 8) 12 R, xArr (t 0) (a 9) 12 N]) s.heap := hP
  have hD : va_D A ([xObj a tc rc ro, xArr (t 0) (a 1) 30 (xN F), xArr (t 0) (a 2) 30 (xN T), xArr (t 0) (a 3) 30 L, xArr (t 1) (a 4) 30 (xB Z), xArr (t 0) (a 8) 12 R, xArr (t 0) (a 9) 12 N]) := hD
  have hl := lv_entry ([.ref (a 0)]) (n := 3) (Nat.le_of_ble_eq_true rfl)
  rw [lg_entry_eq]
  generalize (lg_sl ([.ref (a 0)]) ++ List.replicate (3 - (lg_sl ([.ref (a 0)])).length) Slot.unset).toArray = ls at hl ⊢
  have hl : lv_has ls 3 [(0, .ref (a 0))] := hl
  refine lv_iconst (v := 0) hx hb dX0_goOneRope_0 (by decide) ?_
  refine lv_istore_n (lv' := [(1, .int 0), (0, .ref (a 0))]) hx hb dX0_goOneRope_1 rfl hl (by decide) rfl (fun ls hl => ?_)
  have lp_2 : ∀ (n2 : Nat) (i : Nat) (N1 : Nat → Int32), i + n2 = tc → fillF 99999 n2 i N1 = fillF 99999 tc 0 N → ∀ (H : Heap) (locs : List Loc), va_P D vwCl ([xObj a tc rc ro, xArr (t 0) (a 1) 30 (xN F), xArr (t 0) (a 2) 30 (xN T), xArr (t 0) (a 3) 30 L, xArr (t 1) (a 4) 30 (xB Z), xArr (t 0) (a 8) 12 R, xArr (t 0) (a 9) 12 N1]) H → va_D A ([xObj a tc rc ro, xArr (t 0) (a 1) 30 (xN F), xArr (t 0) (a 2) 30 (xN T), xArr (t 0) (a 3) 30 L, xArr (t 1) (a 4) 30 (xB Z), xArr (t 0) (a 8) 12 R, xArr (t 0) (a 9) 12 N1]) → va_S A s.heap H locs → ∀ ls : Array Slot, lv_has ls 3 [(1, .int (nI i)), (0, .ref (a 0))] → W p l e (headSpec wsX0_goOneRope ({ frames := 1, cells := 0, slots := 0, locals := 21 } : Jvm.Room)).room s m (([.ref (a 0)] : List Value).toArray) below meth c H locs 0 0 (MQ below (xQm D (fun u : Unit => True) (fun u : Unit => none) [xObj a tc rc ro, xArr (t 0) (a 1) 30 (xN F), xArr (t 0) (a 2) 30 (xN T), xArr (t 0) (a 3) 30 L, xArr (t 1) (a 4) 30 (xB Z), xArr (t 0) (a 8) 12 R, xArr (t 0) (a 9) 12 N] (fun u : Unit => [xObj a tc rc ro, xArr (t 0) (a 1) 30 (xN F), xArr (t 0) (a 2) 30 (xN T), xArr (t 0) (a 3) 30 L, xArr (t 1) (a 4) 30 (xB Z), xArr (t 0) (a 8) 12 ((oneR F T L Z tc rc (R, N)).1), xArr (t 0) (a 9) 12 ((oneR F T L Z tc rc (R, N)).2)]) s.heap.size) (([.ref (a 0)] : List Value).toArray) s 0 0 A) (F0 m 2 ls []) := by
    intro n2
    induction n2 using Nat.strongRecOn with
    | _ n2 ih_2 =>
      intro i N1 hm_2 hfin_2 H locs hP hD hS ls hl
      refine lv_iload_n hx hb dX0_goOneRope_2 rfl (lv_at hl 0 rfl) ?_
      refine lv_aload_n hx hb dX0_goOneRope_3 rfl (lv_at hl 1 rfl) ?_
      refine x0_get (v := .int (nI tc)) hx hb hts hin hown hK hP 0 rfl 0 (by decide) fl_41 rfl dX0_goOneRope_4 rfl ?_
      refine lv_icmp_ge (x := nI i) (y := nI tc) (tgt := 24) hx hb dX0_goOneRope_7 (by decide) (fun c_1 => ?_) (fun c_1 => ?_)
      · have c_1 := (nI_leI (a := tc) (b := i) (by omega) (by omega)).mp c_1
        have hn0_2 : n2 = 0 := by omega
        subst hn0_2
        obtain rfl : N1 = fillF 99999 tc 0 N := hfin_2
        refine lv_iconst (v := 0) hx hb dX0_goOneRope_24 (by decide) ?_
        refine lv_istore_n (lv' := [(1, .int 0), (0, .ref (a 0))]) hx hb dX0_goOneRope_25 rfl hl (by decide) rfl (fun ls hl => ?_)
        have lp_26 : ∀ (n26 : Nat) (r : Nat) (N2 : Nat → Int32), r + n26 = rc → goW F T L Z R n26 r N2 = goW F T L Z R rc 0 (fillF 99999 tc 0 N) → ∀ (H : Heap) (locs : List Loc), va_P D vwCl ([xObj a tc rc ro, xArr (t 0) (a 1) 30 (xN F), xArr (t 0) (a 2) 30 (xN T), xArr (t 0) (a 3) 30 L, xArr (t 1) (a 4) 30 (xB Z), xArr (t 0) (a 8) 12 R, xArr (t 0) (a 9) 12 N2]) H → va_D A ([xObj a tc rc ro, xArr (t 0) (a 1) 30 (xN F), xArr (t 0) (a 2) 30 (xN T), xArr (t 0) (a 3) 30 L, xArr (t 1) (a 4) 30 (xB Z), xArr (t 0) (a 8) 12 R, xArr (t 0) (a 9) 12 N2]) → va_S A s.heap H locs → ∀ ls : Array Slot, lv_has ls 3 [(1, .int (nI r)), (0, .ref (a 0))] → W p l e (headSpec wsX0_goOneRope ({ frames := 1, cells := 0, slots := 0, locals := 21 } : Jvm.Room)).room s m (([.ref (a 0)] : List Value).toArray) below meth c H locs 0 0 (MQ below (xQm D (fun u : Unit => True) (fun u : Unit => none) [xObj a tc rc ro, xArr (t 0) (a 1) 30 (xN F), xArr (t 0) (a 2) 30 (xN T), xArr (t 0) (a 3) 30 L, xArr (t 1) (a 4) 30 (xB Z), xArr (t 0) (a 8) 12 R, xArr (t 0) (a 9) 12 N] (fun u : Unit => [xObj a tc rc ro, xArr (t 0) (a 1) 30 (xN F), xArr (t 0) (a 2) 30 (xN T), xArr (t 0) (a 3) 30 L, xArr (t 1) (a 4) 30 (xB Z), xArr (t 0) (a 8) 12 ((oneR F T L Z tc rc (R, N)).1), xArr (t 0) (a 9) 12 ((oneR F T L Z tc rc (R, N)).2)]) s.heap.size) (([.ref (a 0)] : List Value).toArray) s 0 0 A) (F0 m 26 ls []) := by
          intro n26
          induction n26 using Nat.strongRecOn with
          | _ n26 ih_26 =>
            intro r N2 hm_26 hfin_26 H locs hP hD hS ls hl
            refine lv_iload_n hx hb dX0_goOneRope_26 rfl (lv_at hl 0 rfl) ?_
            refine lv_aload_n hx hb dX0_goOneRope_27 rfl (lv_at hl 1 rfl) ?_
            refine x0_get (v := .int (nI rc)) hx hb hts hin hown hK hP 0 rfl 1 (by decide) fl_63 rfl dX0_goOneRope_28 rfl ?_
            refine lv_icmp_ge (x := nI r) (y := nI rc) (tgt := 110) hx hb dX0_goOneRope_31 (by decide) (fun c_2 => ?_) (fun c_2 => ?_)
            · have c_2 := (nI_leI (a := rc) (b := r) (by omega) (by omega)).mp c_2
              have hn0_26 : n26 = 0 := by omega
              subst hn0_26
              obtain rfl : N2 = goW F T L Z R rc 0 (fillF 99999 tc 0 N) := hfin_26
              refine lv_iconst (v := 0) hx hb dX0_goOneRope_110 (by decide) ?_
              refine lv_istore_n (lv' := [(1, .int 0), (0, .ref (a 0))]) hx hb dX0_goOneRope_111 rfl hl (by decide) rfl (fun ls hl => ?_)
              have lp_112 : ∀ (n112 : Nat) (i : Nat) (R1 : Nat → Int32), i + n112 = tc → copyF (goW F T L Z R rc 0 (fillF 99999 tc 0 N)) n112 i R1 = copyF (goW F T L Z R rc 0 (fillF 99999 tc 0 N)) tc 0 R → ∀ (H : Heap) (locs : List Loc), va_P D vwCl ([xObj a tc rc ro, xArr (t 0) (a 1) 30 (xN F), xArr (t 0) (a 2) 30 (xN T), xArr (t 0) (a 3) 30 L, xArr (t 1) (a 4) 30 (xB Z), xArr (t 0) (a 8) 12 R1, xArr (t 0) (a 9) 12 (goW F T L Z R rc 0 (fillF 99999 tc 0 N))]) H → va_D A ([xObj a tc rc ro, xArr (t 0) (a 1) 30 (xN F), xArr (t 0) (a 2) 30 (xN T), xArr (t 0) (a 3) 30 L, xArr (t 1) (a 4) 30 (xB Z), xArr (t 0) (a 8) 12 R1, xArr (t 0) (a 9) 12 (goW F T L Z R rc 0 (fillF 99999 tc 0 N))]) → va_S A s.heap H locs → ∀ ls : Array Slot, lv_has ls 3 [(1, .int (nI i)), (0, .ref (a 0))] → W p l e (headSpec wsX0_goOneRope ({ frames := 1, cells := 0, slots := 0, locals := 21 } : Jvm.Room)).room s m (([.ref (a 0)] : List Value).toArray) below meth c H locs 0 0 (MQ below (xQm D (fun u : Unit => True) (fun u : Unit => none) [xObj a tc rc ro, xArr (t 0) (a 1) 30 (xN F), xArr (t 0) (a 2) 30 (xN T), xArr (t 0) (a 3) 30 L, xArr (t 1) (a 4) 30 (xB Z), xArr (t 0) (a 8) 12 R, xArr (t 0) (a 9) 12 N] (fun u : Unit => [xObj a tc rc ro, xArr (t 0) (a 1) 30 (xN F), xArr (t 0) (a 2) 30 (xN T), xArr (t 0) (a 3) 30 L, xArr (t 1) (a 4) 30 (xB Z), xArr (t 0) (a 8) 12 ((oneR F T L Z tc rc (R, N)).1), xArr (t 0) (a 9) 12 ((oneR F T L Z tc rc (R, N)).2)]) s.heap.size) (([.ref (a 0)] : List Value).toArray) s 0 0 A) (F0 m 112 ls []) := by
                intro n112
                induction n112 using Nat.strongRecOn with
                | _ n112 ih_112 =>
                  intro i R1 hm_112 hfin_112 H locs hP hD hS ls hl
                  refine lv_iload_n hx hb dX0_goOneRope_112 rfl (lv_at hl 0 rfl) ?_
                  refine lv_aload_n hx hb dX0_goOneRope_113 rfl (lv_at hl 1 rfl) ?_
                  refine x0_get (v := .int (nI tc)) hx hb hts hin hown hK hP 0 rfl 0 (by decide) fl_41 rfl dX0_goOneRope_114 rfl ?_
                  refine lv_icmp_ge (x := nI i) (y := nI tc) (tgt := 138) hx hb dX0_goOneRope_117 (by decide) (fun c_3 => ?_) (fun c_3 => ?_)
                  · have c_3 := (nI_leI (a := tc) (b := i) (by omega) (by omega)).mp c_3
                    have hn0_112 : n112 = 0 := by omega
                    subst hn0_112
                    obtain rfl : R1 = copyF (goW F T L Z R rc 0 (fillF 99999 tc 0 N)) tc 0 R := hfin_112
                    subst hAe
                    obtain ⟨hq9, hf9⟩ := xm_end (S := Unit) (pu := (fun u : Unit => True)) (r := (fun u : Unit => none)) (wc := [xObj a tc rc ro, xArr (t 0) (a 1) 30 (xN F), xArr (t 0) (a 2) 30 (xN T), xArr (t 0) (a 3) 30 L, xArr (t 1) (a 4) 30 (xB Z), xArr (t 0) (a 8) 12 R, xArr (t 0) (a 9) 12 N]) (w1 := (fun u : Unit => [xObj a tc rc ro, xArr (t 0) (a 1) 30 (xN F), xArr (t 0) (a 2) 30 (xN T), xArr (t 0) (a 3) 30 L, xArr (t 1) (a 4) 30 (xB Z), xArr (t 0) (a 8) 12 ((oneR F T L Z tc rc (R, N)).1), xArr (t 0) (a 9) 12 ((oneR F T L Z tc rc (R, N)).2)])) (o := none) (args := ([.ref (a 0)] : List Value).toArray) () rfl trivial rfl hP hD hS
                    exact W.vret hx hb hr hq9 hf9 dX0_goOneRope_138 hlocks
                  · have c_3 : i < tc := Nat.lt_of_not_le (fun z9 => c_3 ((nI_leI (a := tc) (b := i) (by omega) (by omega)).mpr z9))
                    obtain ⟨n1129, rfl⟩ : ∃ z, n112 = z + 1 := ⟨n112 - 1, by omega⟩
                    refine lv_aload_n hx hb dX0_goOneRope_120 rfl (lv_at hl 1 rfl) ?_
                    refine x0_get (v := .ref (a 8)) hx hb hts hin hown hK hP 0 rfl 10 (by decide) fl_32 rfl dX0_goOneRope_121 rfl ?_
                    refine lv_iload_n hx hb dX0_goOneRope_124 rfl (lv_at hl 0 rfl) ?_
                    refine lv_aload_n hx hb dX0_goOneRope_125 rfl (lv_at hl 1 rfl) ?_
                    refine x0_get (v := .ref (a 9)) hx hb hts hin hown hK hP 0 rfl 11 (by decide) fl_35 rfl dX0_goOneRope_126 rfl ?_
                    refine lv_iload_n hx hb dX0_goOneRope_129 rfl (lv_at hl 0 rfl) ?_
                    refine x_iald (f := goW F T L Z R rc 0 (fillF 99999 tc 0 N)) hx hb hK hP 6 0 rfl rfl (k := i) (by omega) (Nat.le_of_ble_eq_true rfl) dX0_goOneRope_130 ?_
                    refine x_iast (x := (goW F T L Z R rc 0 (fillF 99999 tc 0 N)) i) (f := R1) hx hb hK hP hD hS 5 0 ([xObj a tc rc ro, xArr (t 0) (a 1) 30 (xN F), xArr (t 0) (a 2) 30 (xN T), xArr (t 0) (a 3) 30 L, xArr (t 1) (a 4) 30 (xB Z), xArr (t 0) (a 8) 12 (upd R1 i ((goW F T L Z R rc 0 (fillF 99999 tc 0 N)) i)), xArr (t 0) (a 9) 12 (goW F T L Z R rc 0 (fillF 99999 tc 0 N))]) rfl rfl (k := i) rfl (by omega) (Nat.le_of_ble_eq_true rfl) dX0_goOneRope_131 (fun H locs hP hD hS => ?_)
                    refine lv_iinc (v := nI (i + 1)) (lv' := [(1, .int (nI (i + 1))), (0, .ref (a 0))]) hx hb dX0_goOneRope_132 hl (k := 0) rfl (x_inc _) (by decide) rfl (fun ls hl => ?_)
                    refine lv_goto (tgt := 112) hx hb dX0_goOneRope_135 (by decide) ?_
                    exact ih_112 n1129 (by omega) (i + 1) (upd R1 i ((goW F T L Z R rc 0 (fillF 99999 tc 0 N)) i)) (by omega) (by rw [← hfin_112]; rfl) _ _ hP hD hS _ (lv_sub hl [0, 1] rfl)
              exact lp_112 tc 0 R (by omega) rfl _ _ hP hD hS _ (lv_sub hl [0, 1] rfl)
            · have c_2 : r < rc := Nat.lt_of_not_le (fun z9 => c_2 ((nI_leI (a := rc) (b := r) (by omega) (by omega)).mpr z9))
              obtain ⟨n269, rfl⟩ : ∃ z, n26 = z + 1 := ⟨n26 - 1, by omega⟩
              refine lv_aload_n hx hb dX0_goOneRope_34 rfl (lv_at hl 1 rfl) ?_
              refine x0_get (v := .ref (a 4)) hx hb hts hin hown hK hP 0 rfl 5 (by decide) fl_19 rfl dX0_goOneRope_35 rfl ?_
              refine lv_iload_n hx hb dX0_goOneRope_38 rfl (lv_at hl 0 rfl) ?_
              refine x_zald (f := xB Z) hx hb hK hP 4 1 rfl rfl (k := r) (by omega) (Nat.le_of_ble_eq_true rfl) dX0_goOneRope_39 ?_
              refine x_top (w := bI (Z r)) rfl ?_
              refine lv_if_eq (x := bI (Z r)) (tgt := 104) hx hb dX0_goOneRope_40 (by decide) (fun c_4 => ?_) (fun c_4 => ?_)
              · have c_4 := bI_0 c_4
                refine lv_iinc (v := nI (r + 1)) (lv' := [(1, .int (nI (r + 1))), (0, .ref (a 0))]) hx hb dX0_goOneRope_104 hl (k := 0) rfl (x_inc _) (by decide) rfl (fun ls hl => ?_)
                refine lv_goto (tgt := 26) hx hb dX0_goOneRope_107 (by decide) ?_
                exact ih_26 n269 (by omega) (r + 1) N2 (by omega) (by rw [← hfin_26]; simp [goW, c_2, c_4]) _ _ hP hD hS _ (lv_sub hl [0, 1] rfl)
              · have c_4 := bI_n0 c_4
                refine lv_aload_n hx hb dX0_goOneRope_43 rfl (lv_at hl 1 rfl) ?_
                refine x0_get (v := .ref (a 8)) hx hb hts hin hown hK hP 0 rfl 10 (by decide) fl_32 rfl dX0_goOneRope_44 rfl ?_
                refine lv_aload_n hx hb dX0_goOneRope_47 rfl (lv_at hl 1 rfl) ?_
                refine x0_get (v := .ref (a 1)) hx hb hts hin hown hK hP 0 rfl 2 (by decide) fl_9 rfl dX0_goOneRope_48 rfl ?_
                refine lv_iload_n hx hb dX0_goOneRope_51 rfl (lv_at hl 0 rfl) ?_
                refine x_iald (f := xN F) hx hb hK hP 1 0 rfl rfl (k := r) (by omega) (Nat.le_of_ble_eq_true rfl) dX0_goOneRope_52 ?_
                refine x_top (w := nI (F r)) rfl ?_
                have hf_5 := hF r (by omega)
                refine x_iald (f := R) hx hb hK hP 5 0 rfl rfl (k := F r) (by omega) (Nat.le_of_ble_eq_true rfl) dX0_goOneRope_53 ?_
                refine lv_ldc (v := 99999) hx hb hown kc_121 dX0_goOneRope_54 ?_
                refine lv_icmp_eq (x := R (F r)) (y := 99999) (tgt := 104) hx hb dX0_goOneRope_56 (by decide) (fun c_6 => ?_) (fun c_6 => ?_)
                · refine lv_iinc (v := nI (r + 1)) (lv' := [(1, .int (nI (r + 1))), (0, .ref (a 0))]) hx hb dX0_goOneRope_104 hl (k := 0) rfl (x_inc _) (by decide) rfl (fun ls hl => ?_)
                  refine lv_goto (tgt := 26) hx hb dX0_goOneRope_107 (by decide) ?_
                  exact ih_26 n269 (by omega) (r + 1) N2 (by omega) (by rw [← hfin_26]; simp [goW, c_2, c_4, c_6]) _ _ hP hD hS _ (lv_sub hl [0, 1] rfl)
                · refine lv_aload_n hx hb dX0_goOneRope_59 rfl (lv_at hl 1 rfl) ?_
                  refine x0_get (v := .ref (a 8)) hx hb hts hin hown hK hP 0 rfl 10 (by decide) fl_32 rfl dX0_goOneRope_60 rfl ?_
                  refine lv_aload_n hx hb dX0_goOneRope_63 rfl (lv_at hl 1 rfl) ?_
                  refine x0_get (v := .ref (a 1)) hx hb hts hin hown hK hP 0 rfl 2 (by decide) fl_9 rfl dX0_goOneRope_64 rfl ?_
                  refine lv_iload_n hx hb dX0_goOneRope_67 rfl (lv_at hl 0 rfl) ?_
                  refine x_iald (f := xN F) hx hb hK hP 1 0 rfl rfl (k := r) (by omega) (Nat.le_of_ble_eq_true rfl) dX0_goOneRope_68 ?_
                  refine x_top (w := nI (F r)) rfl ?_
                  have hf_7 := hF r (by omega)
                  refine x_iald (f := R) hx hb hK hP 5 0 rfl rfl (k := F r) (by omega) (Nat.le_of_ble_eq_true rfl) dX0_goOneRope_69 ?_
                  refine lv_aload_n hx hb dX0_goOneRope_70 rfl (lv_at hl 1 rfl) ?_
                  refine x0_get (v := .ref (a 3)) hx hb hts hin hown hK hP 0 rfl 4 (by decide) fl_16 rfl dX0_goOneRope_71 rfl ?_
                  refine lv_iload_n hx hb dX0_goOneRope_74 rfl (lv_at hl 0 rfl) ?_
                  refine x_iald (f := L) hx hb hK hP 3 0 rfl rfl (k := r) (by omega) (Nat.le_of_ble_eq_true rfl) dX0_goOneRope_75 ?_
                  refine lv_iadd (x := R (F r)) (y := L r) hx hb dX0_goOneRope_76 ?_
                  refine lv_istore_n (lv' := [(2, .int ((R (F r)) + (L r))), (1, .int (nI r)), (0, .ref (a 0))]) hx hb dX0_goOneRope_77 rfl hl (by decide) rfl (fun ls hl => ?_)
                  refine lv_aload_n hx hb dX0_goOneRope_78 rfl (lv_at hl 2 rfl) ?_
                  refine x0_get (v := .ref (a 9)) hx hb hts hin hown hK hP 0 rfl 11 (by decide) fl_35 rfl dX0_goOneRope_79 rfl ?_
                  refine lv_aload_n hx hb dX0_goOneRope_82 rfl (lv_at hl 2 rfl) ?_
                  refine x0_get (v := .ref (a 2)) hx hb hts hin hown hK hP 0 rfl 3 (by decide) fl_13 rfl dX0_goOneRope_83 rfl ?_
                  refine lv_iload_n hx hb dX0_goOneRope_86 rfl (lv_at hl 1 rfl) ?_
                  refine x_iald (f := xN T) hx hb hK hP 2 0 rfl rfl (k := r) (by omega) (Nat.le_of_ble_eq_true rfl) dX0_goOneRope_87 ?_
                  refine x_top (w := nI (T r)) rfl ?_
                  have hf_8 := hF r (by omega)
                  refine lv_aload_n hx hb dX0_goOneRope_88 rfl (lv_at hl 2 rfl) ?_
                  refine x0_get (v := .ref (a 9)) hx hb hts hin hown hK hP 0 rfl 11 (by decide) fl_35 rfl dX0_goOneRope_89 rfl ?_
                  refine lv_aload_n hx hb dX0_goOneRope_92 rfl (lv_at hl 2 rfl) ?_
                  refine x0_get (v := .ref (a 2)) hx hb hts hin hown hK hP 0 rfl 3 (by decide) fl_13 rfl dX0_goOneRope_93 rfl ?_
                  refine lv_iload_n hx hb dX0_goOneRope_96 rfl (lv_at hl 1 rfl) ?_
                  refine x_iald (f := xN T) hx hb hK hP 2 0 rfl rfl (k := r) (by omega) (Nat.le_of_ble_eq_true rfl) dX0_goOneRope_97 ?_
                  refine x_top (w := nI (T r)) rfl ?_
                  have hf_9 := hF r (by omega)
                  refine x_iald (f := N2) hx hb hK hP 6 0 rfl rfl (k := T r) (by omega) (Nat.le_of_ble_eq_true rfl) dX0_goOneRope_98 ?_
                  refine lv_iload_n hx hb dX0_goOneRope_99 rfl (lv_at hl 0 rfl) ?_
                  refine va_mmin (x := N2 (T r)) (y := (R (F r)) + (L r)) hx hb (hml.trans hl.1.symm) hown ml_122 ms_min mi_Math mc_min (Nat.le_of_ble_eq_true rfl) (Nat.le_of_ble_eq_true rfl) (Nat.le_of_ble_eq_true rfl) (Nat.le_of_ble_eq_true rfl) dX0_goOneRope_100 ?_
                  refine x_top (w := mnI (N2 (T r)) ((R (F r)) + (L r))) rfl ?_
                  refine x_iast (x := mnI (N2 (T r)) ((R (F r)) + (L r))) (f := N2) hx hb hK hP hD hS 6 0 ([xObj a tc rc ro, xArr (t 0) (a 1) 30 (xN F), xArr (t 0) (a 2) 30 (xN T), xArr (t 0) (a 3) 30 L, xArr (t 1) (a 4) 30 (xB Z), xArr (t 0) (a 8) 12 R, xArr (t 0) (a 9) 12 (upd N2 (T r) (mnI (N2 (T r)) ((R (F r)) + (L r))))]) rfl rfl (k := T r) rfl (by omega) (Nat.le_of_ble_eq_true rfl) dX0_goOneRope_103 (fun H locs hP hD hS => ?_)
                  refine lv_iinc (v := nI (r + 1)) (lv' := [(1, .int (nI (r + 1))), (2, .int ((R (F r)) + (L r))), (0, .ref (a 0))]) hx hb dX0_goOneRope_104 hl (k := 1) rfl (x_inc _) (by decide) rfl (fun ls hl => ?_)
                  refine lv_goto (tgt := 26) hx hb dX0_goOneRope_107 (by decide) ?_
                  exact ih_26 n269 (by omega) (r + 1) (upd N2 (T r) (mnI (N2 (T r)) ((R (F r)) + (L r)))) (by omega) (by rw [← hfin_26]; simp [goW, c_2, c_4, c_6]) _ _ hP hD hS _ (lv_sub hl [0, 2] rfl)
        exact lp_26 rc 0 (fillF 99999 tc 0 N) (by omega) rfl _ _ hP hD hS _ (lv_sub hl [0, 1] rfl)
      · have c_1 : i < tc := Nat.lt_of_not_le (fun z9 => c_1 ((nI_leI (a := tc) (b := i) (by omega) (by omega)).mpr z9))
        obtain ⟨n29, rfl⟩ : ∃ z, n2 = z + 1 := ⟨n2 - 1, by omega⟩
        refine lv_aload_n hx hb dX0_goOneRope_10 rfl (lv_at hl 1 rfl) ?_
        refine x0_get (v := .ref (a 9)) hx hb hts hin hown hK hP 0 rfl 11 (by decide) fl_35 rfl dX0_goOneRope_11 rfl ?_
        refine lv_iload_n hx hb dX0_goOneRope_14 rfl (lv_at hl 0 rfl) ?_
        refine lv_ldc (v := 99999) hx hb hown kc_121 dX0_goOneRope_15 ?_
        refine x_iast (x := 99999) (f := N1) hx hb hK hP hD hS 6 0 ([xObj a tc rc ro, xArr (t 0) (a 1) 30 (xN F), xArr (t 0) (a 2) 30 (xN T), xArr (t 0) (a 3) 30 L, xArr (t 1) (a 4) 30 (xB Z), xArr (t 0) (a 8) 12 R, xArr (t 0) (a 9) 12 (upd N1 i 99999)]) rfl rfl (k := i) rfl (by omega) (Nat.le_of_ble_eq_true rfl) dX0_goOneRope_17 (fun H locs hP hD hS => ?_)
        refine lv_iinc (v := nI (i + 1)) (lv' := [(1, .int (nI (i + 1))), (0, .ref (a 0))]) hx hb dX0_goOneRope_18 hl (k := 0) rfl (x_inc _) (by decide) rfl (fun ls hl => ?_)
        refine lv_goto (tgt := 2) hx hb dX0_goOneRope_21 (by decide) ?_
        exact ih_2 n29 (by omega) (i + 1) (upd N1 i 99999) (by omega) (by rw [← hfin_2]; rfl) _ _ hP hD hS _ (lv_sub hl [0, 1] rfl)
  exact lp_2 tc 0 N (by omega) rfl _ _ hP hD hS _ (lv_sub hl [0, 1] rfl)
set_option maxHeartbeats 4000000 in
set_option maxRecDepth 100000 in
theorem c_X0_shortRingFrom (l : Launch) (D : va_G) (t : Nat → ClassId) (a : Nat → Nat) (tc rc : Nat) (ro : Int32) (F T : Nat → Nat) (L : Nat → Int32) (Z : Nat → Bool) (R N : Nat → Int32) (w : Nat) (sz : Nat) (htc : tc ≤ 12) (hrc : rc ≤ 30) (hF : ∀ r, r < rc → F r < tc ∧ T r < tc) (hw : w < tc) : Met l yX0_shortRingFrom wsX0_shortRingFrom ({ frames := 2, cells := 0, slots := 0, locals := 43 }) (xMu D (xTy t) (fun _ => True) [.ref (a 0), .int (nI w)] [xObj a tc rc ro, xArr (t 0) (a 1) 30 (xN F), xArr (t 0) (a 2) 30 (xN T), xArr (t 0) (a 3) 30 L, xArr (t 1) (a 4) 30 (xB Z), xArr (t 0) (a 8) 12 R, xArr (t 0) (a 9) 12 N] sz) (xQm D (fun u : Unit => True) (fun u : Unit => some (.int (nI ((ringS F T L Z tc rc w (R, N)).1)))) [xObj a tc rc ro, xArr (t 0) (a 1) 30 (xN F), xArr (t 0) (a 2) 30 (xN T), xArr (t 0) (a 3) 30 L, xArr (t 1) (a 4) 30 (xB Z), xArr (t 0) (a 8) 12 R, xArr (t 0) (a 9) 12 N] (fun u : Unit => [xObj a tc rc ro, xArr (t 0) (a 1) 30 (xN F), xArr (t 0) (a 2) 30 (xN T), xArr (t 0) (a 3) 30 L, xArr (t 1) (a 4) 30 (xB Z), xArr (t 0) (a 8) 12 ((ringS F T L Z tc rc w (R, N)).2.1), xArr (t 0) (a 9) 12 ((ringS F T L Z tc rc w (R, N)).2.2)]) sz) 0 0 (va_A [xObj a tc rc ro, xArr (t 0) (a 1) 30 (xN F), xArr (t 0) (a 2) 30 (xN T), xArr (t 0) (a 3) 30 L, xArr (t 1) (a 4) 30 (xB Z), xArr (t 0) (a 8) 12 R, xArr (t 0) (a 9) 12 N] sz) := by
  refine Met.ofW (cc := cX0_shortRingFrom) (maxL := 3) (ret := (some .int)) (by decide) rfl ?_
  intro p e s m args below meth c s₁ hB9 hml hv
  obtain ⟨rfl, hsz, hP, hK, hD0, hXX⟩ := hv
  have hx := hB9.exec
  have hb := hB9.bytes
  have hr := hB9.returns
  have hts := atoms_spec (ws := wsX0_shortRingFrom) hB9.pre
  have hown : s.vm.findClass RX0 = some m.cls := findClass_of_methodNamed hB9.named
  have hlocks := hB9.notSynchronized
  have hin : ∀ w ∈ wsX00, w ∈ wsX0_shortRingFrom := fun _ h => List.mem_cons_of_mem _ (List.mem_append_right _ h)
  have fl_41 := hts (.fieldLink RX0 41 "RopeTimes" "turnCount" "I") (by decide +kernel)
  have fl_32 := hts (.fieldLink RX0 32 "RopeTimes" "reach" "[I") (by decide +kernel)
  have kc_121 := hts (.constant RX0 121 (99999)) (by decide +kernel)
  subst hsz
  have hD := hD0.self (sz := s.heap.size)
  generalize hAe : va_A ([xObj a tc rc ro, xArr (t 0) (a 1) 30 (xN F), xArr (t 0) (a 2) 30 (xN T), xArr (t 0) (a 3) 30 L, xArr (t 1) (a 4) 30 (xB Z), xArr (t 0) (a 8) 12 R, xArr (t 0) (a 9) 12 N]) s.heap.size = A at hD ⊢
  have hA : ∀ q : Nat, s.heap.size ≤ q → A q := fun q h => by rw [← hAe]; exact Or.inr h
  have hS : va_S A s.heap s.heap [] := va_S.rf
  have hP : va_P D vwCl ([xObj a tc rc ro, xArr (t 0) (a 1) 30 (xN F), xArr (t 0) (a 2) 30 (xN T), xArr (t 0) (a 3) 30 L, xArr (t 1) (a 4) 30 (xB Z), xArr (t 0) (a 8) 12 R, xArr (t 0) (a 9) 12 N]) s.heap := hP
  have hD : va_D A ([xObj a tc rc ro, xArr (t 0) (a 1) 30 (xN F), xArr (t 0) (a 2) 30 (xN T), xArr (t 0) (a 3) 30 L, xArr (t 1) (a 4) 30 (xB Z), xArr (t 0) (a 8) 12 R, xArr (t 0) (a 9) 12 N]) := hD
  have hl := lv_entry ([.ref (a 0), .int (nI w)]) (n := 3) (Nat.le_of_ble_eq_true rfl)
  rw [lg_entry_eq]
  generalize (lg_sl ([.ref (a 0), .int (nI w)]) ++ List.replicate (3 - (lg_sl ([.ref (a 0), .int (nI w)])).length) Slot.unset).toArray = ls at hl ⊢
  have hl : lv_has ls 3 [(0, .ref (a 0)), (1, .int (nI w))] := hl
  refine lv_iconst (v := 0) hx hb dX0_shortRingFrom_0 (by decide) ?_
  refine lv_istore_n (lv' := [(2, .int 0), (0, .ref (a 0)), (1, .int (nI w))]) hx hb dX0_shortRingFrom_1 rfl hl (by decide) rfl (fun ls hl => ?_)
  have lp_2 : ∀ (n2 : Nat) (i : Nat) (R1 : Nat → Int32), i + n2 = tc → fillF 99999 n2 i R1 = fillF 99999 tc 0 R → ∀ (H : Heap) (locs : List Loc), va_P D vwCl ([xObj a tc rc ro, xArr (t 0) (a 1) 30 (xN F), xArr (t 0) (a 2) 30 (xN T), xArr (t 0) (a 3) 30 L, xArr (t 1) (a 4) 30 (xB Z), xArr (t 0) (a 8) 12 R1, xArr (t 0) (a 9) 12 N]) H → va_D A ([xObj a tc rc ro, xArr (t 0) (a 1) 30 (xN F), xArr (t 0) (a 2) 30 (xN T), xArr (t 0) (a 3) 30 L, xArr (t 1) (a 4) 30 (xB Z), xArr (t 0) (a 8) 12 R1, xArr (t 0) (a 9) 12 N]) → va_S A s.heap H locs → ∀ ls : Array Slot, lv_has ls 3 [(2, .int (nI i)), (0, .ref (a 0)), (1, .int (nI w))] → W p l e (headSpec wsX0_shortRingFrom ({ frames := 2, cells := 0, slots := 0, locals := 43 } : Jvm.Room)).room s m (([.ref (a 0), .int (nI w)] : List Value).toArray) below meth c H locs 0 0 (MQ below (xQm D (fun u : Unit => True) (fun u : Unit => some (.int (nI ((ringS F T L Z tc rc w (R, N)).1)))) [xObj a tc rc ro, xArr (t 0) (a 1) 30 (xN F), xArr (t 0) (a 2) 30 (xN T), xArr (t 0) (a 3) 30 L, xArr (t 1) (a 4) 30 (xB Z), xArr (t 0) (a 8) 12 R, xArr (t 0) (a 9) 12 N] (fun u : Unit => [xObj a tc rc ro, xArr (t 0) (a 1) 30 (xN F), xArr (t 0) (a 2) 30 (xN T), xArr (t 0) (a 3) 30 L, xArr (t 1) (a 4) 30 (xB Z), xArr (t 0) (a 8) 12 ((ringS F T L Z tc rc w (R, N)).2.1), xArr (t 0) (a 9) 12 ((ringS F T L Z tc rc w (R, N)).2.2)]) s.heap.size) (([.ref (a 0), .int (nI w)] : List Value).toArray) s 0 0 A) (F0 m 2 ls []) := by
    intro n2
    induction n2 using Nat.strongRecOn with
    | _ n2 ih_2 =>
      intro i R1 hm_2 hfin_2 H locs hP hD hS ls hl
      refine lv_iload_n hx hb dX0_shortRingFrom_2 rfl (lv_at hl 0 rfl) ?_
      refine lv_aload_n hx hb dX0_shortRingFrom_3 rfl (lv_at hl 1 rfl) ?_
      refine x0_get (v := .int (nI tc)) hx hb hts hin hown hK hP 0 rfl 0 (by decide) fl_41 rfl dX0_shortRingFrom_4 rfl ?_
      refine lv_icmp_ge (x := nI i) (y := nI tc) (tgt := 24) hx hb dX0_shortRingFrom_7 (by decide) (fun c_1 => ?_) (fun c_1 => ?_)
      · have c_1 := (nI_leI (a := tc) (b := i) (by omega) (by omega)).mp c_1
        have hn0_2 : n2 = 0 := by omega
        subst hn0_2
        obtain rfl : R1 = fillF 99999 tc 0 R := hfin_2
        refine lv_aload_n hx hb dX0_shortRingFrom_24 rfl (lv_at hl 1 rfl) ?_
        refine x0_get (v := .ref (a 8)) hx hb hts hin hown hK hP 0 rfl 10 (by decide) fl_32 rfl dX0_shortRingFrom_25 rfl ?_
        refine lv_iload_n hx hb dX0_shortRingFrom_28 rfl (lv_at hl 2 rfl) ?_
        refine lv_iconst (v := 0) hx hb dX0_shortRingFrom_29 (by decide) ?_
        refine x_iast (x := 0) (f := fillF 99999 tc 0 R) hx hb hK hP hD hS 5 0 ([xObj a tc rc ro, xArr (t 0) (a 1) 30 (xN F), xArr (t 0) (a 2) 30 (xN T), xArr (t 0) (a 3) 30 L, xArr (t 1) (a 4) 30 (xB Z), xArr (t 0) (a 8) 12 (upd (fillF 99999 tc 0 R) w 0), xArr (t 0) (a 9) 12 N]) rfl rfl (k := w) rfl (by omega) (Nat.le_of_ble_eq_true rfl) dX0_shortRingFrom_30 (fun H locs hP hD hS => ?_)
        refine lv_iconst (v := 1) hx hb dX0_shortRingFrom_31 (by decide) ?_
        refine lv_istore_n (lv' := [(2, .int 1), (0, .ref (a 0)), (1, .int (nI w))]) hx hb dX0_shortRingFrom_32 rfl hl (by decide) rfl (fun ls hl => ?_)
        have lp_33 : ∀ (n33 : Nat) (k : Nat) (R2 : Nat → Int32) (N2 : Nat → Int32), k + n33 = tc + 1 → ringL F T L Z tc rc w n33 k (R2, N2) = ringL F T L Z tc rc w tc 1 ((upd (fillF 99999 tc 0 R) w 0), N) → ∀ (H : Heap) (locs : List Loc), va_P D vwCl ([xObj a tc rc ro, xArr (t 0) (a 1) 30 (xN F), xArr (t 0) (a 2) 30 (xN T), xArr (t 0) (a 3) 30 L, xArr (t 1) (a 4) 30 (xB Z), xArr (t 0) (a 8) 12 R2, xArr (t 0) (a 9) 12 N2]) H → va_D A ([xObj a tc rc ro, xArr (t 0) (a 1) 30 (xN F), xArr (t 0) (a 2) 30 (xN T), xArr (t 0) (a 3) 30 L, xArr (t 1) (a 4) 30 (xB Z), xArr (t 0) (a 8) 12 R2, xArr (t 0) (a 9) 12 N2]) → va_S A s.heap H locs → ∀ ls : Array Slot, lv_has ls 3 [(2, .int (nI k)), (0, .ref (a 0)), (1, .int (nI w))] → W p l e (headSpec wsX0_shortRingFrom ({ frames := 2, cells := 0, slots := 0, locals := 43 } : Jvm.Room)).room s m (([.ref (a 0), .int (nI w)] : List Value).toArray) below meth c H locs 0 0 (MQ below (xQm D (fun u : Unit => True) (fun u : Unit => some (.int (nI ((ringS F T L Z tc rc w (R, N)).1)))) [xObj a tc rc ro, xArr (t 0) (a 1) 30 (xN F), xArr (t 0) (a 2) 30 (xN T), xArr (t 0) (a 3) 30 L, xArr (t 1) (a 4) 30 (xB Z), xArr (t 0) (a 8) 12 R, xArr (t 0) (a 9) 12 N] (fun u : Unit => [xObj a tc rc ro, xArr (t 0) (a 1) 30 (xN F), xArr (t 0) (a 2) 30 (xN T), xArr (t 0) (a 3) 30 L, xArr (t 1) (a 4) 30 (xB Z), xArr (t 0) (a 8) 12 ((ringS F T L Z tc rc w (R, N)).2.1), xArr (t 0) (a 9) 12 ((ringS F T L Z tc rc w (R, N)).2.2)]) s.heap.size) (([.ref (a 0), .int (nI w)] : List Value).toArray) s 0 0 A) (F0 m 33 ls []) := by
          intro n33
          induction n33 using Nat.strongRecOn with
          | _ n33 ih_33 =>
            intro k R2 N2 hm_33 hfin_33 H locs hP hD hS ls hl
            refine lv_iload_n hx hb dX0_shortRingFrom_33 rfl (lv_at hl 0 rfl) ?_
            refine lv_aload_n hx hb dX0_shortRingFrom_34 rfl (lv_at hl 1 rfl) ?_
            refine x0_get (v := .int (nI tc)) hx hb hts hin hown hK hP 0 rfl 0 (by decide) fl_41 rfl dX0_shortRingFrom_35 rfl ?_
            refine lv_icmp_gt (x := nI k) (y := nI tc) (tgt := 62) hx hb dX0_shortRingFrom_38 (by decide) (fun c_2 => ?_) (fun c_2 => ?_)
            · have c_2 := (nI_ltI (a := tc) (b := k) (by omega) (by omega)).mp c_2
              have hn0_33 : n33 = 0 := by omega
              subst hn0_33
              
              refine lv_iconst (v := 0) hx hb dX0_shortRingFrom_62 (by decide) ?_
              have e9 : (0, R2, N2) = ringS F T L Z tc rc w (R, N) := by unfold ringS; rw [← hfin_33]; simp [ringL, c_1, Nat.not_lt.mpr c_1, c_2]
              have hP9 : va_P D vwCl ([xObj a tc rc ro, xArr (t 0) (a 1) 30 (xN F), xArr (t 0) (a 2) 30 (xN T), xArr (t 0) (a 3) 30 L, xArr (t 1) (a 4) 30 (xB Z), xArr (t 0) (a 8) 12 ((ringS F T L Z tc rc w (R, N)).2.1), xArr (t 0) (a 9) 12 ((ringS F T L Z tc rc w (R, N)).2.2)]) H := by rw [← e9]; exact hP
              have hD9 : va_D A ([xObj a tc rc ro, xArr (t 0) (a 1) 30 (xN F), xArr (t 0) (a 2) 30 (xN T), xArr (t 0) (a 3) 30 L, xArr (t 1) (a 4) 30 (xB Z), xArr (t 0) (a 8) 12 ((ringS F T L Z tc rc w (R, N)).2.1), xArr (t 0) (a 9) 12 ((ringS F T L Z tc rc w (R, N)).2.2)]) := by rw [← e9]; exact hD
              subst hAe
              obtain ⟨hq9, hf9⟩ := xm_end (S := Unit) (pu := (fun u : Unit => True)) (r := (fun u : Unit => some (.int (nI ((ringS F T L Z tc rc w (R, N)).1))))) (wc := [xObj a tc rc ro, xArr (t 0) (a 1) 30 (xN F), xArr (t 0) (a 2) 30 (xN T), xArr (t 0) (a 3) 30 L, xArr (t 1) (a 4) 30 (xB Z), xArr (t 0) (a 8) 12 R, xArr (t 0) (a 9) 12 N]) (w1 := (fun u : Unit => [xObj a tc rc ro, xArr (t 0) (a 1) 30 (xN F), xArr (t 0) (a 2) 30 (xN T), xArr (t 0) (a 3) 30 L, xArr (t 1) (a 4) 30 (xB Z), xArr (t 0) (a 8) 12 ((ringS F T L Z tc rc w (R, N)).2.1), xArr (t 0) (a 9) 12 ((ringS F T L Z tc rc w (R, N)).2.2)])) (o := some (.int 0)) (args := ([.ref (a 0), .int (nI w)] : List Value).toArray) () rfl trivial (by first | (rw [← e9]; done) | (rw [← e9]; rfl)) hP9 hD9 hS
              exact W.iret hx hb hr hq9 hf9 dX0_shortRingFrom_63 hlocks
            · have c_2 : k ≤ tc := Nat.le_of_not_lt (fun z9 => c_2 ((nI_ltI (a := tc) (b := k) (by omega) (by omega)).mpr z9))
              obtain ⟨n339, rfl⟩ : ∃ z, n33 = z + 1 := ⟨n33 - 1, by omega⟩
              refine lv_aload_n hx hb dX0_shortRingFrom_41 rfl (lv_at hl 1 rfl) ?_
              refine xm_V (b := a 0) (As := []) (rest := []) (wr := []) ⟨hx, hb, hml, hown, hts⟩ xTrav_T (c_X0_goOneRope l D t a tc rc ro F T L Z R2 N2 _ (by omega) (by omega) hF) (cwV 0 hts gX0_shortRingFrom_X0_goOneRope rfl rfl rfl hd_X0_goOneRope ⟨Nat.le_of_ble_eq_true rfl, Nat.le_of_ble_eq_true rfl⟩) hK hP hD hS hA (fun _ _ _ => trivial) (va_recv hK hP (ci := 0) (q0 := 0) rfl rfl) [0, 1, 2, 3, 4, 5, 6] [] rfl rfl (by decide) (by decide) (by decide) rfl hl.1 rfl (Nat.le_of_ble_eq_true rfl) dX0_shortRingFrom_42 ⟨(Nat.le_of_ble_eq_true rfl), (Nat.le_of_ble_eq_true rfl)⟩ (fun u_3 H locs hu hP hD hS hz => ?_)
              have hP : va_P D vwCl ([xObj a tc rc ro, xArr (t 0) (a 1) 30 (xN F), xArr (t 0) (a 2) 30 (xN T), xArr (t 0) (a 3) 30 L, xArr (t 1) (a 4) 30 (xB Z), xArr (t 0) (a 8) 12 ((oneR F T L Z tc rc (R2, N2)).1), xArr (t 0) (a 9) 12 ((oneR F T L Z tc rc (R2, N2)).2)]) H := hP.sub [0, 1, 2, 3, 4, 5, 6] rfl
              have hD : va_D _ ([xObj a tc rc ro, xArr (t 0) (a 1) 30 (xN F), xArr (t 0) (a 2) 30 (xN T), xArr (t 0) (a 3) 30 L, xArr (t 1) (a 4) 30 (xB Z), xArr (t 0) (a 8) 12 ((oneR F T L Z tc rc (R2, N2)).1), xArr (t 0) (a 9) 12 ((oneR F T L Z tc rc (R2, N2)).2)]) := hD.sub [0, 1, 2, 3, 4, 5, 6] (by decide) rfl
              refine lv_aload_n hx hb dX0_shortRingFrom_45 rfl (lv_at hl 1 rfl) ?_
              refine x0_get (v := .ref (a 8)) hx hb hts hin hown hK hP 0 rfl 10 (by decide) fl_32 rfl dX0_shortRingFrom_46 rfl ?_
              refine lv_iload_n hx hb dX0_shortRingFrom_49 rfl (lv_at hl 2 rfl) ?_
              refine x_iald (f := (oneR F T L Z tc rc (R2, N2)).1) hx hb hK hP 5 0 rfl rfl (k := w) (by omega) (Nat.le_of_ble_eq_true rfl) dX0_shortRingFrom_50 ?_
              refine lv_if_ge (x := ((oneR F T L Z tc rc (R2, N2)).1) w) (tgt := 56) hx hb dX0_shortRingFrom_51 (by decide) (fun c_4 => ?_) (fun c_4 => ?_)
              · have c_4 := Int32.not_lt.mpr c_4
                refine lv_iinc (v := nI (k + 1)) (lv' := [(2, .int (nI (k + 1))), (0, .ref (a 0)), (1, .int (nI w))]) hx hb dX0_shortRingFrom_56 hl (k := 0) rfl (x_inc _) (by decide) rfl (fun ls hl => ?_)
                refine lv_goto (tgt := 33) hx hb dX0_shortRingFrom_59 (by decide) ?_
                exact ih_33 n339 (by omega) (k + 1) ((oneR F T L Z tc rc (R2, N2)).1) ((oneR F T L Z tc rc (R2, N2)).2) (by omega) (by rw [← hfin_33]; simp [ringL, c_2, Nat.not_lt.mpr c_2, c_4]) _ _ hP hD hS _ (lv_sub hl [0, 1, 2] rfl)
              · have c_4 := Int32.not_le.mp c_4
                refine lv_iload_n hx hb dX0_shortRingFrom_54 rfl (lv_at hl 0 rfl) ?_
                have e9 : (k, (oneR F T L Z tc rc (R2, N2)).1, (oneR F T L Z tc rc (R2, N2)).2) = ringS F T L Z tc rc w (R, N) := by unfold ringS; rw [← hfin_33]; simp [ringL, c_1, Nat.not_lt.mpr c_1, c_2, Nat.not_lt.mpr c_2, c_4]
                have hP9 : va_P D vwCl ([xObj a tc rc ro, xArr (t 0) (a 1) 30 (xN F), xArr (t 0) (a 2) 30 (xN T), xArr (t 0) (a 3) 30 L, xArr (t 1) (a 4) 30 (xB Z), xArr (t 0) (a 8) 12 ((ringS F T L Z tc rc w (R, N)).2.1), xArr (t 0) (a 9) 12 ((ringS F T L Z tc rc w (R, N)).2.2)]) H := by rw [← e9]; exact hP
                have hD9 : va_D A ([xObj a tc rc ro, xArr (t 0) (a 1) 30 (xN F), xArr (t 0) (a 2) 30 (xN T), xArr (t 0) (a 3) 30 L, xArr (t 1) (a 4) 30 (xB Z), xArr (t 0) (a 8) 12 ((ringS F T L Z tc rc w (R, N)).2.1), xArr (t 0) (a 9) 12 ((ringS F T L Z tc rc w (R, N)).2.2)]) := by rw [← e9]; exact hD
                subst hAe
                obtain ⟨hq9, hf9⟩ := xm_end (S := Unit) (pu := (fun u : Unit => True)) (r := (fun u : Unit => some (.int (nI ((ringS F T L Z tc rc w (R, N)).1))))) (wc := [xObj a tc rc ro, xArr (t 0) (a 1) 30 (xN F), xArr (t 0) (a 2) 30 (xN T), xArr (t 0) (a 3) 30 L, xArr (t 1) (a 4) 30 (xB Z), xArr (t 0) (a 8) 12 R, xArr (t 0) (a 9) 12 N]) (w1 := (fun u : Unit => [xObj a tc rc ro, xArr (t 0) (a 1) 30 (xN F), xArr (t 0) (a 2) 30 (xN T), xArr (t 0) (a 3) 30 L, xArr (t 1) (a 4) 30 (xB Z), xArr (t 0) (a 8) 12 ((ringS F T L Z tc rc w (R, N)).2.1), xArr (t 0) (a 9) 12 ((ringS F T L Z tc rc w (R, N)).2.2)])) (o := some (.int (nI k))) (args := ([.ref (a 0), .int (nI w)] : List Value).toArray) () rfl trivial (by first | (rw [← e9]; done) | (rw [← e9]; rfl)) hP9 hD9 hS
                exact W.iret hx hb hr hq9 hf9 dX0_shortRingFrom_55 hlocks
        exact lp_33 tc 1 (upd (fillF 99999 tc 0 R) w 0) N (by omega) rfl _ _ hP hD hS _ (lv_sub hl [0, 1, 2] rfl)
      · have c_1 : i < tc := Nat.lt_of_not_le (fun z9 => c_1 ((nI_leI (a := tc) (b := i) (by omega) (by omega)).mpr z9))
        obtain ⟨n29, rfl⟩ : ∃ z, n2 = z + 1 := ⟨n2 - 1, by omega⟩
        refine lv_aload_n hx hb dX0_shortRingFrom_10 rfl (lv_at hl 1 rfl) ?_
        refine x0_get (v := .ref (a 8)) hx hb hts hin hown hK hP 0 rfl 10 (by decide) fl_32 rfl dX0_shortRingFrom_11 rfl ?_
        refine lv_iload_n hx hb dX0_shortRingFrom_14 rfl (lv_at hl 0 rfl) ?_
        refine lv_ldc (v := 99999) hx hb hown kc_121 dX0_shortRingFrom_15 ?_
        refine x_iast (x := 99999) (f := R1) hx hb hK hP hD hS 5 0 ([xObj a tc rc ro, xArr (t 0) (a 1) 30 (xN F), xArr (t 0) (a 2) 30 (xN T), xArr (t 0) (a 3) 30 L, xArr (t 1) (a 4) 30 (xB Z), xArr (t 0) (a 8) 12 (upd R1 i 99999), xArr (t 0) (a 9) 12 N]) rfl rfl (k := i) rfl (by omega) (Nat.le_of_ble_eq_true rfl) dX0_shortRingFrom_17 (fun H locs hP hD hS => ?_)
        refine lv_iinc (v := nI (i + 1)) (lv' := [(2, .int (nI (i + 1))), (0, .ref (a 0)), (1, .int (nI w))]) hx hb dX0_shortRingFrom_18 hl (k := 0) rfl (x_inc _) (by decide) rfl (fun ls hl => ?_)
        refine lv_goto (tgt := 2) hx hb dX0_shortRingFrom_21 (by decide) ?_
        exact ih_2 n29 (by omega) (i + 1) (upd R1 i 99999) (by omega) (by rw [← hfin_2]; rfl) _ _ hP hD hS _ (lv_sub hl [0, 1, 2] rfl)
  exact lp_2 tc 0 R (by omega) rfl _ _ hP hD hS _ (lv_sub hl [0, 1, 2] rfl)
set_option maxHeartbeats 4000000 in
set_option maxRecDepth 100000 in
theorem c_X0_shortRingLength (l : Launch) (D : va_G) (t : Nat → ClassId) (a : Nat → Nat) (tc rc : Nat) (ro : Int32) (F T : Nat → Nat) (L : Nat → Int32) (Z : Nat → Bool) (R N : Nat → Int32) (sz : Nat) (htc : tc ≤ 12) (hrc : rc ≤ 30) (hF : ∀ r, r < rc → F r < tc ∧ T r < tc) : Met l yX0_shortRingLength wsX0_shortRingLength ({ frames := 3, cells := 0, slots := 0, locals := 65 }) (xMu D (xTy t) (fun _ => True) [.ref (a 0)] [xObj a tc rc ro, xArr (t 0) (a 1) 30 (xN F), xArr (t 0) (a 2) 30 (xN T), xArr (t 0) (a 3) 30 L, xArr (t 1) (a 4) 30 (xB Z), xArr (t 0) (a 8) 12 R, xArr (t 0) (a 9) 12 N] sz) (xQm D (fun u : Unit => True) (fun u : Unit => some (.int (nI ((ringA F T L Z tc rc tc 0 0 (R, N)).1)))) [xObj a tc rc ro, xArr (t 0) (a 1) 30 (xN F), xArr (t 0) (a 2) 30 (xN T), xArr (t 0) (a 3) 30 L, xArr (t 1) (a 4) 30 (xB Z), xArr (t 0) (a 8) 12 R, xArr (t 0) (a 9) 12 N] (fun u : Unit => [xObj a tc rc ro, xArr (t 0) (a 1) 30 (xN F), xArr (t 0) (a 2) 30 (xN T), xArr (t 0) (a 3) 30 L, xArr (t 1) (a 4) 30 (xB Z), xArr (t 0) (a 8) 12 ((ringA F T L Z tc rc tc 0 0 (R, N)).2.1), xArr (t 0) (a 9) 12 ((ringA F T L Z tc rc tc 0 0 (R, N)).2.2)]) sz) 0 0 (va_A [xObj a tc rc ro, xArr (t 0) (a 1) 30 (xN F), xArr (t 0) (a 2) 30 (xN T), xArr (t 0) (a 3) 30 L, xArr (t 1) (a 4) 30 (xB Z), xArr (t 0) (a 8) 12 R, xArr (t 0) (a 9) 12 N] sz) := by
  refine Met.ofW (cc := cX0_shortRingLength) (maxL := 4) (ret := (some .int)) (by decide) rfl ?_
  intro p e s m args below meth c s₁ hB9 hml hv
  obtain ⟨rfl, hsz, hP, hK, hD0, hXX⟩ := hv
  have hx := hB9.exec
  have hb := hB9.bytes
  have hr := hB9.returns
  have hts := atoms_spec (ws := wsX0_shortRingLength) hB9.pre
  have hown : s.vm.findClass RX0 = some m.cls := findClass_of_methodNamed hB9.named
  have hlocks := hB9.notSynchronized
  have hin : ∀ w ∈ wsX00, w ∈ wsX0_shortRingLength := fun _ h => List.mem_cons_of_mem _ (List.mem_append_right _ h)
  have fl_41 := hts (.fieldLink RX0 41 "RopeTimes" "turnCount" "I") (by decide +kernel)
  subst hsz
  have hD := hD0.self (sz := s.heap.size)
  generalize hAe : va_A ([xObj a tc rc ro, xArr (t 0) (a 1) 30 (xN F), xArr (t 0) (a 2) 30 (xN T), xArr (t 0) (a 3) 30 L, xArr (t 1) (a 4) 30 (xB Z), xArr (t 0) (a 8) 12 R, xArr (t 0) (a 9) 12 N]) s.heap.size = A at hD ⊢
  have hA : ∀ q : Nat, s.heap.size ≤ q → A q := fun q h => by rw [← hAe]; exact Or.inr h
  have hS : va_S A s.heap s.heap [] := va_S.rf
  have hP : va_P D vwCl ([xObj a tc rc ro, xArr (t 0) (a 1) 30 (xN F), xArr (t 0) (a 2) 30 (xN T), xArr (t 0) (a 3) 30 L, xArr (t 1) (a 4) 30 (xB Z), xArr (t 0) (a 8) 12 R, xArr (t 0) (a 9) 12 N]) s.heap := hP
  have hD : va_D A ([xObj a tc rc ro, xArr (t 0) (a 1) 30 (xN F), xArr (t 0) (a 2) 30 (xN T), xArr (t 0) (a 3) 30 L, xArr (t 1) (a 4) 30 (xB Z), xArr (t 0) (a 8) 12 R, xArr (t 0) (a 9) 12 N]) := hD
  have hl := lv_entry ([.ref (a 0)]) (n := 4) (Nat.le_of_ble_eq_true rfl)
  rw [lg_entry_eq]
  generalize (lg_sl ([.ref (a 0)]) ++ List.replicate (4 - (lg_sl ([.ref (a 0)])).length) Slot.unset).toArray = ls at hl ⊢
  have hl : lv_has ls 4 [(0, .ref (a 0))] := hl
  refine lv_iconst (v := 0) hx hb dX0_shortRingLength_0 (by decide) ?_
  refine lv_istore_n (lv' := [(1, .int 0), (0, .ref (a 0))]) hx hb dX0_shortRingLength_1 rfl hl (by decide) rfl (fun ls hl => ?_)
  refine lv_iconst (v := 0) hx hb dX0_shortRingLength_2 (by decide) ?_
  refine lv_istore_n (lv' := [(2, .int 0), (1, .int 0), (0, .ref (a 0))]) hx hb dX0_shortRingLength_3 rfl hl (by decide) rfl (fun ls hl => ?_)
  have lp_4 : ∀ (n4 : Nat) (i : Nat) (few : Nat) (R2 : Nat → Int32) (N2 : Nat → Int32), i + n4 = tc → few ≤ 13 → ringA F T L Z tc rc n4 i few (R2, N2) = ringA F T L Z tc rc tc 0 0 (R, N) → ∀ (H : Heap) (locs : List Loc), va_P D vwCl ([xObj a tc rc ro, xArr (t 0) (a 1) 30 (xN F), xArr (t 0) (a 2) 30 (xN T), xArr (t 0) (a 3) 30 L, xArr (t 1) (a 4) 30 (xB Z), xArr (t 0) (a 8) 12 R2, xArr (t 0) (a 9) 12 N2]) H → va_D A ([xObj a tc rc ro, xArr (t 0) (a 1) 30 (xN F), xArr (t 0) (a 2) 30 (xN T), xArr (t 0) (a 3) 30 L, xArr (t 1) (a 4) 30 (xB Z), xArr (t 0) (a 8) 12 R2, xArr (t 0) (a 9) 12 N2]) → va_S A s.heap H locs → ∀ ls : Array Slot, lv_has ls 4 [(2, .int (nI i)), (1, .int (nI few)), (0, .ref (a 0))] → W p l e (headSpec wsX0_shortRingLength ({ frames := 3, cells := 0, slots := 0, locals := 65 } : Jvm.Room)).room s m (([.ref (a 0)] : List Value).toArray) below meth c H locs 0 0 (MQ below (xQm D (fun u : Unit => True) (fun u : Unit => some (.int (nI ((ringA F T L Z tc rc tc 0 0 (R, N)).1)))) [xObj a tc rc ro, xArr (t 0) (a 1) 30 (xN F), xArr (t 0) (a 2) 30 (xN T), xArr (t 0) (a 3) 30 L, xArr (t 1) (a 4) 30 (xB Z), xArr (t 0) (a 8) 12 R, xArr (t 0) (a 9) 12 N] (fun u : Unit => [xObj a tc rc ro, xArr (t 0) (a 1) 30 (xN F), xArr (t 0) (a 2) 30 (xN T), xArr (t 0) (a 3) 30 L, xArr (t 1) (a 4) 30 (xB Z), xArr (t 0) (a 8) 12 ((ringA F T L Z tc rc tc 0 0 (R, N)).2.1), xArr (t 0) (a 9) 12 ((ringA F T L Z tc rc tc 0 0 (R, N)).2.2)]) s.heap.size) (([.ref (a 0)] : List Value).toArray) s 0 0 A) (F0 m 4 ls []) := by
    intro n4
    induction n4 using Nat.strongRecOn with
    | _ n4 ih_4 =>
      intro i few R2 N2 hm_4 hp0_4 hfin_4 H locs hP hD hS ls hl
      refine lv_iload_n hx hb dX0_shortRingLength_4 rfl (lv_at hl 0 rfl) ?_
      refine lv_aload_n hx hb dX0_shortRingLength_5 rfl (lv_at hl 2 rfl) ?_
      refine x0_get (v := .int (nI tc)) hx hb hts hin hown hK hP 0 rfl 0 (by decide) fl_41 rfl dX0_shortRingLength_6 rfl ?_
      refine lv_icmp_ge (x := nI i) (y := nI tc) (tgt := 39) hx hb dX0_shortRingLength_9 (by decide) (fun c_1 => ?_) (fun c_1 => ?_)
      · have c_1 := (nI_leI (a := tc) (b := i) (by omega) (by omega)).mp c_1
        have hn0_4 : n4 = 0 := by omega
        subst hn0_4
        obtain rfl : few = (ringA F T L Z tc rc tc 0 0 (R, N)).1 := congrArg (fun z => z.1) hfin_4
        obtain rfl : R2 = (ringA F T L Z tc rc tc 0 0 (R, N)).2.1 := congrArg (fun z => z.2.1) hfin_4
        obtain rfl : N2 = (ringA F T L Z tc rc tc 0 0 (R, N)).2.2 := congrArg (fun z => z.2.2) hfin_4
        refine lv_iload_n hx hb dX0_shortRingLength_39 rfl (lv_at hl 1 rfl) ?_
        subst hAe
        obtain ⟨hq9, hf9⟩ := xm_end (S := Unit) (pu := (fun u : Unit => True)) (r := (fun u : Unit => some (.int (nI ((ringA F T L Z tc rc tc 0 0 (R, N)).1))))) (wc := [xObj a tc rc ro, xArr (t 0) (a 1) 30 (xN F), xArr (t 0) (a 2) 30 (xN T), xArr (t 0) (a 3) 30 L, xArr (t 1) (a 4) 30 (xB Z), xArr (t 0) (a 8) 12 R, xArr (t 0) (a 9) 12 N]) (w1 := (fun u : Unit => [xObj a tc rc ro, xArr (t 0) (a 1) 30 (xN F), xArr (t 0) (a 2) 30 (xN T), xArr (t 0) (a 3) 30 L, xArr (t 1) (a 4) 30 (xB Z), xArr (t 0) (a 8) 12 ((ringA F T L Z tc rc tc 0 0 (R, N)).2.1), xArr (t 0) (a 9) 12 ((ringA F T L Z tc rc tc 0 0 (R, N)).2.2)])) (o := some (.int (nI ((ringA F T L Z tc rc tc 0 0 (R, N)).1)))) (args := ([.ref (a 0)] : List Value).toArray) () rfl trivial rfl hP hD hS
        exact W.iret hx hb hr hq9 hf9 dX0_shortRingLength_40 hlocks
      · have c_1 : i < tc := Nat.lt_of_not_le (fun z9 => c_1 ((nI_leI (a := tc) (b := i) (by omega) (by omega)).mpr z9))
        obtain ⟨n49, rfl⟩ : ∃ z, n4 = z + 1 := ⟨n4 - 1, by omega⟩
        refine lv_aload_n hx hb dX0_shortRingLength_12 rfl (lv_at hl 2 rfl) ?_
        refine lv_iload_n hx hb dX0_shortRingLength_13 rfl (lv_at hl 0 rfl) ?_
        refine xm_V (b := a 0) (As := [.int (nI i)]) (rest := []) (wr := []) ⟨hx, hb, hml, hown, hts⟩ xTrav_T (c_X0_shortRingFrom l D t a tc rc ro F T L Z R2 N2 i _ (by omega) (by omega) hF (by omega)) (cwV 1 hts gX0_shortRingLength_X0_shortRingFrom rfl rfl rfl hd_X0_shortRingFrom ⟨Nat.le_of_ble_eq_true rfl, Nat.le_of_ble_eq_true rfl⟩) hK hP hD hS hA (fun _ _ _ => trivial) (va_recv hK hP (ci := 0) (q0 := 0) rfl rfl) [0, 1, 2, 3, 4, 5, 6] [] rfl rfl (by decide) (by decide) (by decide) rfl hl.1 rfl (Nat.le_of_ble_eq_true rfl) dX0_shortRingLength_14 ⟨(Nat.le_of_ble_eq_true rfl), (Nat.le_of_ble_eq_true rfl)⟩ (fun u_2 H locs hu hP hD hS hz => ?_)
        have hP : va_P D vwCl ([xObj a tc rc ro, xArr (t 0) (a 1) 30 (xN F), xArr (t 0) (a 2) 30 (xN T), xArr (t 0) (a 3) 30 L, xArr (t 1) (a 4) 30 (xB Z), xArr (t 0) (a 8) 12 ((ringS F T L Z tc rc i (R2, N2)).2.1), xArr (t 0) (a 9) 12 ((ringS F T L Z tc rc i (R2, N2)).2.2)]) H := hP.sub [0, 1, 2, 3, 4, 5, 6] rfl
        have hD : va_D _ ([xObj a tc rc ro, xArr (t 0) (a 1) 30 (xN F), xArr (t 0) (a 2) 30 (xN T), xArr (t 0) (a 3) 30 L, xArr (t 1) (a 4) 30 (xB Z), xArr (t 0) (a 8) 12 ((ringS F T L Z tc rc i (R2, N2)).2.1), xArr (t 0) (a 9) 12 ((ringS F T L Z tc rc i (R2, N2)).2.2)]) := hD.sub [0, 1, 2, 3, 4, 5, 6] (by decide) rfl
        have hrs_u_2 := ringS_le F T L Z tc rc i (R2, N2)
        refine lv_istore_n (lv' := [(3, .int (nI ((ringS F T L Z tc rc i (R2, N2)).1))), (2, .int (nI i)), (1, .int (nI few)), (0, .ref (a 0))]) hx hb dX0_shortRingLength_17 rfl hl (by decide) rfl (fun ls hl => ?_)
        refine lv_iload_n hx hb dX0_shortRingLength_18 rfl (lv_at hl 0 rfl) ?_
        refine lv_if_eq (x := nI ((ringS F T L Z tc rc i (R2, N2)).1)) (tgt := 33) hx hb dX0_shortRingLength_19 (by decide) (fun c_3 => ?_) (fun c_3 => ?_)
        · have c_3 := (nI_eq (a := (ringS F T L Z tc rc i (R2, N2)).1) (b := 0) (by omega) (by omega)).mp c_3
          refine lv_iinc (v := nI (i + 1)) (lv' := [(2, .int (nI (i + 1))), (3, .int (nI ((ringS F T L Z tc rc i (R2, N2)).1))), (1, .int (nI few)), (0, .ref (a 0))]) hx hb dX0_shortRingLength_33 hl (k := 1) rfl (x_inc _) (by decide) rfl (fun ls hl => ?_)
          refine lv_goto (tgt := 4) hx hb dX0_shortRingLength_36 (by decide) ?_
          exact ih_4 n49 (by omega) (i + 1) few ((ringS F T L Z tc rc i (R2, N2)).2.1) ((ringS F T L Z tc rc i (R2, N2)).2.2) (by omega) (by omega) (by rw [← hfin_4]; simp [ringA, c_1, c_3]) _ _ hP hD hS _ (lv_sub hl [0, 2, 3] rfl)
        · have c_3 : ¬ ((ringS F T L Z tc rc i (R2, N2)).1) = 0 := fun z9 => c_3 ((nI_eq (a := (ringS F T L Z tc rc i (R2, N2)).1) (b := 0) (by omega) (by omega)).mpr z9)
          refine lv_iload_n hx hb dX0_shortRingLength_22 rfl (lv_at hl 2 rfl) ?_
          refine lv_if_eq (x := nI few) (tgt := 31) hx hb dX0_shortRingLength_23 (by decide) (fun c_4 => ?_) (fun c_4 => ?_)
          · have c_4 := (nI_eq (a := few) (b := 0) (by omega) (by omega)).mp c_4
            refine lv_iload_n hx hb dX0_shortRingLength_31 rfl (lv_at hl 0 rfl) ?_
            refine lv_istore_n (lv' := [(1, .int (nI ((ringS F T L Z tc rc i (R2, N2)).1))), (3, .int (nI ((ringS F T L Z tc rc i (R2, N2)).1))), (2, .int (nI i)), (0, .ref (a 0))]) hx hb dX0_shortRingLength_32 rfl hl (by decide) rfl (fun ls hl => ?_)
            refine lv_iinc (v := nI (i + 1)) (lv' := [(2, .int (nI (i + 1))), (1, .int (nI ((ringS F T L Z tc rc i (R2, N2)).1))), (3, .int (nI ((ringS F T L Z tc rc i (R2, N2)).1))), (0, .ref (a 0))]) hx hb dX0_shortRingLength_33 hl (k := 2) rfl (x_inc _) (by decide) rfl (fun ls hl => ?_)
            refine lv_goto (tgt := 4) hx hb dX0_shortRingLength_36 (by decide) ?_
            exact ih_4 n49 (by omega) (i + 1) ((ringS F T L Z tc rc i (R2, N2)).1) ((ringS F T L Z tc rc i (R2, N2)).2.1) ((ringS F T L Z tc rc i (R2, N2)).2.2) (by omega) (by omega) (by rw [← hfin_4]; simp [ringA, c_1, c_3, c_4]) _ _ hP hD hS _ (lv_sub hl [0, 1, 3] rfl)
          · have c_4 : ¬ few = 0 := fun z9 => c_4 ((nI_eq (a := few) (b := 0) (by omega) (by omega)).mpr z9)
            refine lv_iload_n hx hb dX0_shortRingLength_26 rfl (lv_at hl 0 rfl) ?_
            refine lv_iload_n hx hb dX0_shortRingLength_27 rfl (lv_at hl 2 rfl) ?_
            refine lv_icmp_ge (x := nI ((ringS F T L Z tc rc i (R2, N2)).1)) (y := nI few) (tgt := 33) hx hb dX0_shortRingLength_28 (by decide) (fun c_5 => ?_) (fun c_5 => ?_)
            · have c_5 := (nI_leI (a := few) (b := (ringS F T L Z tc rc i (R2, N2)).1) (by omega) (by omega)).mp c_5
              refine lv_iinc (v := nI (i + 1)) (lv' := [(2, .int (nI (i + 1))), (3, .int (nI ((ringS F T L Z tc rc i (R2, N2)).1))), (1, .int (nI few)), (0, .ref (a 0))]) hx hb dX0_shortRingLength_33 hl (k := 1) rfl (x_inc _) (by decide) rfl (fun ls hl => ?_)
              refine lv_goto (tgt := 4) hx hb dX0_shortRingLength_36 (by decide) ?_
              exact ih_4 n49 (by omega) (i + 1) few ((ringS F T L Z tc rc i (R2, N2)).2.1) ((ringS F T L Z tc rc i (R2, N2)).2.2) (by omega) (by omega) (by rw [← hfin_4]; simp [ringA, c_1, c_3, c_4, c_5, Nat.not_lt.mpr c_5]) _ _ hP hD hS _ (lv_sub hl [0, 2, 3] rfl)
            · have c_5 : ((ringS F T L Z tc rc i (R2, N2)).1) < few := Nat.lt_of_not_le (fun z9 => c_5 ((nI_leI (a := few) (b := (ringS F T L Z tc rc i (R2, N2)).1) (by omega) (by omega)).mpr z9))
              refine lv_iload_n hx hb dX0_shortRingLength_31 rfl (lv_at hl 0 rfl) ?_
              refine lv_istore_n (lv' := [(1, .int (nI ((ringS F T L Z tc rc i (R2, N2)).1))), (3, .int (nI ((ringS F T L Z tc rc i (R2, N2)).1))), (2, .int (nI i)), (0, .ref (a 0))]) hx hb dX0_shortRingLength_32 rfl hl (by decide) rfl (fun ls hl => ?_)
              refine lv_iinc (v := nI (i + 1)) (lv' := [(2, .int (nI (i + 1))), (1, .int (nI ((ringS F T L Z tc rc i (R2, N2)).1))), (3, .int (nI ((ringS F T L Z tc rc i (R2, N2)).1))), (0, .ref (a 0))]) hx hb dX0_shortRingLength_33 hl (k := 2) rfl (x_inc _) (by decide) rfl (fun ls hl => ?_)
              refine lv_goto (tgt := 4) hx hb dX0_shortRingLength_36 (by decide) ?_
              exact ih_4 n49 (by omega) (i + 1) ((ringS F T L Z tc rc i (R2, N2)).1) ((ringS F T L Z tc rc i (R2, N2)).2.1) ((ringS F T L Z tc rc i (R2, N2)).2.2) (by omega) (by omega) (by rw [← hfin_4]; simp [ringA, c_1, c_3, c_4, c_5]) _ _ hP hD hS _ (lv_sub hl [0, 1, 3] rfl)
  exact lp_4 tc 0 0 R N (by omega) (by omega) rfl _ _ hP hD hS _ (lv_sub hl [0, 1, 2] rfl)
set_option maxHeartbeats 4000000 in
set_option maxRecDepth 100000 in
theorem c_X0_tightenOne (l : Launch) (D : va_G) (t : Nat → ClassId) (a : Nat → Nat) (tc rc : Nat) (ro : Int32) (F T : Nat → Nat) (L : Nat → Int32) (Z : Nat → Bool) (E B : Nat → Int32) (r : Nat) (sz : Nat) (htc : tc ≤ 12) (hrc : rc ≤ 30) (hF : ∀ r, r < rc → F r < tc ∧ T r < tc) (hr9 : r < rc) : Met l yX0_tightenOne wsX0_tightenOne ({ frames := 5, cells := 0, slots := 0, locals := 112 }) (xMu D (xTy t) (fun _ => True) [.ref (a 0), .int (nI r)] [xObj a tc rc ro, xArr (t 0) (a 1) 30 (xN F), xArr (t 0) (a 2) 30 (xN T), xArr (t 0) (a 3) 30 L, xArr (t 1) (a 4) 30 (xB Z), xArr (t 0) (a 5) 12 E, xArr (t 0) (a 6) 144 B] sz) (xQm D (fun u : Unit => True) (fun u : Unit => some (.int (tOneD F T r (L, ro, E, B)))) [xObj a tc rc ro, xArr (t 0) (a 1) 30 (xN F), xArr (t 0) (a 2) 30 (xN T), xArr (t 0) (a 3) 30 L, xArr (t 1) (a 4) 30 (xB Z), xArr (t 0) (a 5) 12 E, xArr (t 0) (a 6) 144 B] (fun u : Unit => [xObj a tc rc ((tOneS F T Z tc rc r (L, ro, E, B)).2.1), xArr (t 0) (a 1) 30 (xN F), xArr (t 0) (a 2) 30 (xN T), xArr (t 0) (a 3) 30 ((tOneS F T Z tc rc r (L, ro, E, B)).1), xArr (t 1) (a 4) 30 (xB Z), xArr (t 0) (a 5) 12 ((tOneS F T Z tc rc r (L, ro, E, B)).2.2.1), xArr (t 0) (a 6) 144 ((tOneS F T Z tc rc r (L, ro, E, B)).2.2.2)]) sz) 0 0 (va_A [xObj a tc rc ro, xArr (t 0) (a 1) 30 (xN F), xArr (t 0) (a 2) 30 (xN T), xArr (t 0) (a 3) 30 L, xArr (t 1) (a 4) 30 (xB Z), xArr (t 0) (a 5) 12 E, xArr (t 0) (a 6) 144 B] sz) := by
  refine Met.ofW (cc := cX0_tightenOne) (maxL := 3) (ret := (some .int)) (by decide) rfl ?_
  intro p e s m args below meth c s₁ hB9 hml hv
  obtain ⟨rfl, hsz, hP, hK, hD0, hXX⟩ := hv
  have hx := hB9.exec
  have hb := hB9.bytes
  have hr := hB9.returns
  have hts := atoms_spec (ws := wsX0_tightenOne) hB9.pre
  have hown : s.vm.findClass RX0 = some m.cls := findClass_of_methodNamed hB9.named
  have hlocks := hB9.notSynchronized
  have hin : ∀ w ∈ wsX00, w ∈ wsX0_tightenOne := fun _ h => List.mem_cons_of_mem _ (List.mem_append_right _ h)
  have fl_16 := hts (.fieldLink RX0 16 "RopeTimes" "length" "[I") (by decide +kernel)
  have fl_9 := hts (.fieldLink RX0 9 "RopeTimes" "from" "[I") (by decide +kernel)
  have fl_13 := hts (.fieldLink RX0 13 "RopeTimes" "to" "[I") (by decide +kernel)
  subst hsz
  have hD := hD0.self (sz := s.heap.size)
  generalize hAe : va_A ([xObj a tc rc ro, xArr (t 0) (a 1) 30 (xN F), xArr (t 0) (a 2) 30 (xN T), xArr (t 0) (a 3) 30 L, xArr (t 1) (a 4) 30 (xB Z), xArr (t 0) (a 5) 12 E, xArr (t 0) (a 6) 144 B]) s.heap.size = A at hD ⊢
  have hA : ∀ q : Nat, s.heap.size ≤ q → A q := fun q h => by rw [← hAe]; exact Or.inr h
  have hS : va_S A s.heap s.heap [] := va_S.rf
  have hP : va_P D vwCl ([xObj a tc rc ro, xArr (t 0) (a 1) 30 (xN F), xArr (t 0) (a 2) 30 (xN T), xArr (t 0) (a 3) 30 L, xArr (t 1) (a 4) 30 (xB Z), xArr (t 0) (a 5) 12 E, xArr (t 0) (a 6) 144 B]) s.heap := hP
  have hD : va_D A ([xObj a tc rc ro, xArr (t 0) (a 1) 30 (xN F), xArr (t 0) (a 2) 30 (xN T), xArr (t 0) (a 3) 30 L, xArr (t 1) (a 4) 30 (xB Z), xArr (t 0) (a 5) 12 E, xArr (t 0) (a 6) 144 B]) := hD
  have hl := lv_entry ([.ref (a 0), .int (nI r)]) (n := 3) (Nat.le_of_ble_eq_true rfl)
  rw [lg_entry_eq]
  generalize (lg_sl ([.ref (a 0), .int (nI r)]) ++ List.replicate (3 - (lg_sl ([.ref (a 0), .int (nI r)])).length) Slot.unset).toArray = ls at hl ⊢
  have hl : lv_has ls 3 [(0, .ref (a 0)), (1, .int (nI r))] := hl
  refine lv_aload_n hx hb dX0_tightenOne_0 rfl (lv_at hl 0 rfl) ?_
  refine x0_get (v := .ref (a 3)) hx hb hts hin hown hK hP 0 rfl 4 (by decide) fl_16 rfl dX0_tightenOne_1 rfl ?_
  refine lv_iload_n hx hb dX0_tightenOne_4 rfl (lv_at hl 1 rfl) ?_
  refine x_iald (f := L) hx hb hK hP 3 0 rfl rfl (k := r) (by omega) (Nat.le_of_ble_eq_true rfl) dX0_tightenOne_5 ?_
  refine lv_aload_n hx hb dX0_tightenOne_6 rfl (lv_at hl 0 rfl) ?_
  refine lv_aload_n hx hb dX0_tightenOne_7 rfl (lv_at hl 0 rfl) ?_
  refine x0_get (v := .ref (a 1)) hx hb hts hin hown hK hP 0 rfl 2 (by decide) fl_9 rfl dX0_tightenOne_8 rfl ?_
  refine lv_iload_n hx hb dX0_tightenOne_11 rfl (lv_at hl 1 rfl) ?_
  refine x_iald (f := xN F) hx hb hK hP 1 0 rfl rfl (k := r) (by omega) (Nat.le_of_ble_eq_true rfl) dX0_tightenOne_12 ?_
  refine x_top (w := nI (F r)) rfl ?_
  have hf_1 := hF r (by omega)
  refine lv_aload_n hx hb dX0_tightenOne_13 rfl (lv_at hl 0 rfl) ?_
  refine x0_get (v := .ref (a 2)) hx hb hts hin hown hK hP 0 rfl 3 (by decide) fl_13 rfl dX0_tightenOne_14 rfl ?_
  refine lv_iload_n hx hb dX0_tightenOne_17 rfl (lv_at hl 1 rfl) ?_
  refine x_iald (f := xN T) hx hb hK hP 2 0 rfl rfl (k := r) (by omega) (Nat.le_of_ble_eq_true rfl) dX0_tightenOne_18 ?_
  refine x_top (w := nI (T r)) rfl ?_
  have hf_2 := hF r (by omega)
  refine xr_V (b := a 0) (As := [.int (nI (F r)), .int (nI (T r))]) (rest := [.int (L r)]) ⟨hx, hb, hml, hown, hts⟩ (c_X0_leastLength l D t a tc rc ro B (F r) (T r) (by omega) (by omega)) (cwV 2 hts gX0_tightenOne_X0_leastLength rfl rfl rfl hd_X0_leastLength ⟨Nat.le_of_ble_eq_true rfl, Nat.le_of_ble_eq_true rfl⟩) hK hP (va_recv hK hP (ci := 0) (q0 := 0) rfl rfl) [0, 6] rfl rfl hl.1 rfl (Nat.le_of_ble_eq_true rfl) dX0_tightenOne_19 ⟨(Nat.le_of_ble_eq_true rfl), (Nat.le_of_ble_eq_true rfl)⟩ ?_
  refine lv_isub (x := L r) (y := leastF B (F r) (T r)) hx hb dX0_tightenOne_22 ?_
  refine lv_istore_n (lv' := [(2, .int ((L r) - (leastF B (F r) (T r)))), (0, .ref (a 0)), (1, .int (nI r))]) hx hb dX0_tightenOne_23 rfl hl (by decide) rfl (fun ls hl => ?_)
  refine lv_iload_n hx hb dX0_tightenOne_24 rfl (lv_at hl 0 rfl) ?_
  refine lv_if_le (x := (L r) - (leastF B (F r) (T r))) (tgt := 42) hx hb dX0_tightenOne_25 (by decide) (fun c_3 => ?_) (fun c_3 => ?_)
  · have c_3 := Int32.not_lt.mpr c_3
    refine lv_iload_n hx hb dX0_tightenOne_42 rfl (lv_at hl 0 rfl) ?_
    have e9 : (L, ro, E, B) = tOneS F T Z tc rc r (L, ro, E, B) := by simp [tOneS, tOneD, settF, c_3]
    have hP9 : va_P D vwCl ([xObj a tc rc ((tOneS F T Z tc rc r (L, ro, E, B)).2.1), xArr (t 0) (a 1) 30 (xN F), xArr (t 0) (a 2) 30 (xN T), xArr (t 0) (a 3) 30 ((tOneS F T Z tc rc r (L, ro, E, B)).1), xArr (t 1) (a 4) 30 (xB Z), xArr (t 0) (a 5) 12 ((tOneS F T Z tc rc r (L, ro, E, B)).2.2.1), xArr (t 0) (a 6) 144 ((tOneS F T Z tc rc r (L, ro, E, B)).2.2.2)]) s.heap := by rw [← e9]; exact hP
    have hD9 : va_D A ([xObj a tc rc ((tOneS F T Z tc rc r (L, ro, E, B)).2.1), xArr (t 0) (a 1) 30 (xN F), xArr (t 0) (a 2) 30 (xN T), xArr (t 0) (a 3) 30 ((tOneS F T Z tc rc r (L, ro, E, B)).1), xArr (t 1) (a 4) 30 (xB Z), xArr (t 0) (a 5) 12 ((tOneS F T Z tc rc r (L, ro, E, B)).2.2.1), xArr (t 0) (a 6) 144 ((tOneS F T Z tc rc r (L, ro, E, B)).2.2.2)]) := by rw [← e9]; exact hD
    subst hAe
    obtain ⟨hq9, hf9⟩ := xm_end (S := Unit) (pu := (fun u : Unit => True)) (r := (fun u : Unit => some (.int (tOneD F T r (L, ro, E, B))))) (wc := [xObj a tc rc ro, xArr (t 0) (a 1) 30 (xN F), xArr (t 0) (a 2) 30 (xN T), xArr (t 0) (a 3) 30 L, xArr (t 1) (a 4) 30 (xB Z), xArr (t 0) (a 5) 12 E, xArr (t 0) (a 6) 144 B]) (w1 := (fun u : Unit => [xObj a tc rc ((tOneS F T Z tc rc r (L, ro, E, B)).2.1), xArr (t 0) (a 1) 30 (xN F), xArr (t 0) (a 2) 30 (xN T), xArr (t 0) (a 3) 30 ((tOneS F T Z tc rc r (L, ro, E, B)).1), xArr (t 1) (a 4) 30 (xB Z), xArr (t 0) (a 5) 12 ((tOneS F T Z tc rc r (L, ro, E, B)).2.2.1), xArr (t 0) (a 6) 144 ((tOneS F T Z tc rc r (L, ro, E, B)).2.2.2)])) (o := some (.int ((L r) - (leastF B (F r) (T r))))) (args := ([.ref (a 0), .int (nI r)] : List Value).toArray) () rfl trivial rfl hP9 hD9 hS
    exact W.iret hx hb hr hq9 hf9 dX0_tightenOne_43 hlocks
  · have c_3 := Int32.not_le.mp c_3
    refine lv_aload_n hx hb dX0_tightenOne_28 rfl (lv_at hl 1 rfl) ?_
    refine x0_get (v := .ref (a 3)) hx hb hts hin hown hK hP 0 rfl 4 (by decide) fl_16 rfl dX0_tightenOne_29 rfl ?_
    refine lv_iload_n hx hb dX0_tightenOne_32 rfl (lv_at hl 2 rfl) ?_
    refine lv_dup2_11 hx hb dX0_tightenOne_33 rfl rfl ?_
    refine x_iald (f := L) hx hb hK hP 3 0 rfl rfl (k := r) (by omega) (Nat.le_of_ble_eq_true rfl) dX0_tightenOne_34 ?_
    refine lv_iload_n hx hb dX0_tightenOne_35 rfl (lv_at hl 0 rfl) ?_
    refine lv_isub (x := L r) (y := (L r) - (leastF B (F r) (T r))) hx hb dX0_tightenOne_36 ?_
    refine x_iast (x := (L r) - ((L r) - (leastF B (F r) (T r)))) (f := L) hx hb hK hP hD hS 3 0 ([xObj a tc rc ro, xArr (t 0) (a 1) 30 (xN F), xArr (t 0) (a 2) 30 (xN T), xArr (t 0) (a 3) 30 (upd L r ((L r) - ((L r) - (leastF B (F r) (T r))))), xArr (t 1) (a 4) 30 (xB Z), xArr (t 0) (a 5) 12 E, xArr (t 0) (a 6) 144 B]) rfl rfl (k := r) rfl (by omega) (Nat.le_of_ble_eq_true rfl) dX0_tightenOne_37 (fun H locs hP hD hS => ?_)
    refine lv_aload_n hx hb dX0_tightenOne_38 rfl (lv_at hl 1 rfl) ?_
    refine xm_V (b := a 0) (As := []) (rest := []) (wr := []) ⟨hx, hb, hml, hown, hts⟩ xTrav_T (c_X0_settle l D t a tc rc ro F T (upd L r ((L r) - ((L r) - (leastF B (F r) (T r))))) Z E B _ (by omega) (by omega) hF) (cwV 0 hts gX0_tightenOne_X0_settle rfl rfl rfl hd_X0_settle ⟨Nat.le_of_ble_eq_true rfl, Nat.le_of_ble_eq_true rfl⟩) hK hP hD hS hA (fun _ _ _ => trivial) (va_recv hK hP (ci := 0) (q0 := 0) rfl rfl) [0, 1, 2, 3, 4, 5, 6] [] rfl rfl (by decide) (by decide) (by decide) rfl hl.1 rfl (Nat.le_of_ble_eq_true rfl) dX0_tightenOne_39 ⟨(Nat.le_of_ble_eq_true rfl), (Nat.le_of_ble_eq_true rfl)⟩ (fun u_4 H locs hu hP hD hS hz => ?_)
    have hP : va_P D vwCl ([xObj a tc rc (sRo F T (upd L r ((L r) - ((L r) - (leastF B (F r) (T r))))) Z tc rc E), xArr (t 0) (a 1) 30 (xN F), xArr (t 0) (a 2) 30 (xN T), xArr (t 0) (a 3) 30 (upd L r ((L r) - ((L r) - (leastF B (F r) (T r))))), xArr (t 1) (a 4) 30 (xB Z), xArr (t 0) (a 5) 12 (sE F T (upd L r ((L r) - ((L r) - (leastF B (F r) (T r))))) Z tc rc E), xArr (t 0) (a 6) 144 (sB F T (upd L r ((L r) - ((L r) - (leastF B (F r) (T r))))) Z tc rc E B)]) H := hP.sub [0, 1, 2, 3, 4, 5, 6] rfl
    have hD : va_D _ ([xObj a tc rc (sRo F T (upd L r ((L r) - ((L r) - (leastF B (F r) (T r))))) Z tc rc E), xArr (t 0) (a 1) 30 (xN F), xArr (t 0) (a 2) 30 (xN T), xArr (t 0) (a 3) 30 (upd L r ((L r) - ((L r) - (leastF B (F r) (T r))))), xArr (t 1) (a 4) 30 (xB Z), xArr (t 0) (a 5) 12 (sE F T (upd L r ((L r) - ((L r) - (leastF B (F r) (T r))))) Z tc rc E), xArr (t 0) (a 6) 144 (sB F T (upd L r ((L r) - ((L r) - (leastF B (F r) (T r))))) Z tc rc E B)]) := hD.sub [0, 1, 2, 3, 4, 5, 6] (by decide) rfl
    refine lv_iload_n hx hb dX0_tightenOne_42 rfl (lv_at hl 0 rfl) ?_
    have e9 : (upd L r ((L r) - ((L r) - (leastF B (F r) (T r)))), sRo F T (upd L r ((L r) - ((L r) - (leastF B (F r) (T r))))) Z tc rc E, sE F T (upd L r ((L r) - ((L r) - (leastF B (F r) (T r))))) Z tc rc E, sB F T (upd L r ((L r) - ((L r) - (leastF B (F r) (T r))))) Z tc rc E B) = tOneS F T Z tc rc r (L, ro, E, B) := by simp [tOneS, tOneD, settF, c_3]
    have hP9 : va_P D vwCl ([xObj a tc rc ((tOneS F T Z tc rc r (L, ro, E, B)).2.1), xArr (t 0) (a 1) 30 (xN F), xArr (t 0) (a 2) 30 (xN T), xArr (t 0) (a 3) 30 ((tOneS F T Z tc rc r (L, ro, E, B)).1), xArr (t 1) (a 4) 30 (xB Z), xArr (t 0) (a 5) 12 ((tOneS F T Z tc rc r (L, ro, E, B)).2.2.1), xArr (t 0) (a 6) 144 ((tOneS F T Z tc rc r (L, ro, E, B)).2.2.2)]) H := by rw [← e9]; exact hP
    have hD9 : va_D A ([xObj a tc rc ((tOneS F T Z tc rc r (L, ro, E, B)).2.1), xArr (t 0) (a 1) 30 (xN F), xArr (t 0) (a 2) 30 (xN T), xArr (t 0) (a 3) 30 ((tOneS F T Z tc rc r (L, ro, E, B)).1), xArr (t 1) (a 4) 30 (xB Z), xArr (t 0) (a 5) 12 ((tOneS F T Z tc rc r (L, ro, E, B)).2.2.1), xArr (t 0) (a 6) 144 ((tOneS F T Z tc rc r (L, ro, E, B)).2.2.2)]) := by rw [← e9]; exact hD
    subst hAe
    obtain ⟨hq9, hf9⟩ := xm_end (S := Unit) (pu := (fun u : Unit => True)) (r := (fun u : Unit => some (.int (tOneD F T r (L, ro, E, B))))) (wc := [xObj a tc rc ro, xArr (t 0) (a 1) 30 (xN F), xArr (t 0) (a 2) 30 (xN T), xArr (t 0) (a 3) 30 L, xArr (t 1) (a 4) 30 (xB Z), xArr (t 0) (a 5) 12 E, xArr (t 0) (a 6) 144 B]) (w1 := (fun u : Unit => [xObj a tc rc ((tOneS F T Z tc rc r (L, ro, E, B)).2.1), xArr (t 0) (a 1) 30 (xN F), xArr (t 0) (a 2) 30 (xN T), xArr (t 0) (a 3) 30 ((tOneS F T Z tc rc r (L, ro, E, B)).1), xArr (t 1) (a 4) 30 (xB Z), xArr (t 0) (a 5) 12 ((tOneS F T Z tc rc r (L, ro, E, B)).2.2.1), xArr (t 0) (a 6) 144 ((tOneS F T Z tc rc r (L, ro, E, B)).2.2.2)])) (o := some (.int ((L r) - (leastF B (F r) (T r))))) (args := ([.ref (a 0), .int (nI r)] : List Value).toArray) () rfl trivial rfl hP9 hD9 hS
    exact W.iret hx hb hr hq9 hf9 dX0_tightenOne_43 hlocks
set_option maxHeartbeats 4000000 in
set_option maxRecDepth 100000 in
theorem c_X0_tighten (l : Launch) (D : va_G) (t : Nat → ClassId) (a : Nat → Nat) (tc rc : Nat) (ro : Int32) (F T : Nat → Nat) (L : Nat → Int32) (Z : Nat → Bool) (E B : Nat → Int32) (sz : Nat) (htc : tc ≤ 12) (hrc : rc ≤ 30) (hF : ∀ r, r < rc → F r < tc ∧ T r < tc) : Met l yX0_tighten wsX0_tighten ({ frames := 6, cells := 0, slots := 0, locals := 134 }) (xMu D (xTy t) (fun _ => True) [.ref (a 0)] [xObj a tc rc ro, xArr (t 0) (a 1) 30 (xN F), xArr (t 0) (a 2) 30 (xN T), xArr (t 0) (a 3) 30 L, xArr (t 1) (a 4) 30 (xB Z), xArr (t 0) (a 5) 12 E, xArr (t 0) (a 6) 144 B] sz) (xQm D (fun u : Unit => True) (fun u : Unit => some (.int ((tightA F T Z tc rc (L, ro, E, B)).1))) [xObj a tc rc ro, xArr (t 0) (a 1) 30 (xN F), xArr (t 0) (a 2) 30 (xN T), xArr (t 0) (a 3) 30 L, xArr (t 1) (a 4) 30 (xB Z), xArr (t 0) (a 5) 12 E, xArr (t 0) (a 6) 144 B] (fun u : Unit => [xObj a tc rc ((tightA F T Z tc rc (L, ro, E, B)).2.2.1), xArr (t 0) (a 1) 30 (xN F), xArr (t 0) (a 2) 30 (xN T), xArr (t 0) (a 3) 30 ((tightA F T Z tc rc (L, ro, E, B)).2.1), xArr (t 1) (a 4) 30 (xB Z), xArr (t 0) (a 5) 12 ((tightA F T Z tc rc (L, ro, E, B)).2.2.2.1), xArr (t 0) (a 6) 144 ((tightA F T Z tc rc (L, ro, E, B)).2.2.2.2)]) sz) 0 0 (va_A [xObj a tc rc ro, xArr (t 0) (a 1) 30 (xN F), xArr (t 0) (a 2) 30 (xN T), xArr (t 0) (a 3) 30 L, xArr (t 1) (a 4) 30 (xB Z), xArr (t 0) (a 5) 12 E, xArr (t 0) (a 6) 144 B] sz) := by
  refine Met.ofW (cc := cX0_tighten) (maxL := 3) (ret := (some .int)) (by decide) rfl ?_
  intro p e s m args below meth c s₁ hB9 hml hv
  obtain ⟨rfl, hsz, hP, hK, hD0, hXX⟩ := hv
  have hx := hB9.exec
  have hb := hB9.bytes
  have hr := hB9.returns
  have hts := atoms_spec (ws := wsX0_tighten) hB9.pre
  have hown : s.vm.findClass RX0 = some m.cls := findClass_of_methodNamed hB9.named
  have hlocks := hB9.notSynchronized
  have hin : ∀ w ∈ wsX00, w ∈ wsX0_tighten := fun _ h => List.mem_cons_of_mem _ (List.mem_append_right _ h)
  have fl_63 := hts (.fieldLink RX0 63 "RopeTimes" "ropeCount" "I") (by decide +kernel)
  have fl_19 := hts (.fieldLink RX0 19 "RopeTimes" "tied" "[Z") (by decide +kernel)
  subst hsz
  have hD := hD0.self (sz := s.heap.size)
  generalize hAe : va_A ([xObj a tc rc ro, xArr (t 0) (a 1) 30 (xN F), xArr (t 0) (a 2) 30 (xN T), xArr (t 0) (a 3) 30 L, xArr (t 1) (a 4) 30 (xB Z), xArr (t 0) (a 5) 12 E, xArr (t 0) (a 6) 144 B]) s.heap.size = A at hD ⊢
  have hA : ∀ q : Nat, s.heap.size ≤ q → A q := fun q h => by rw [← hAe]; exact Or.inr h
  have hS : va_S A s.heap s.heap [] := va_S.rf
  have hP : va_P D vwCl ([xObj a tc rc ro, xArr (t 0) (a 1) 30 (xN F), xArr (t 0) (a 2) 30 (xN T), xArr (t 0) (a 3) 30 L, xArr (t 1) (a 4) 30 (xB Z), xArr (t 0) (a 5) 12 E, xArr (t 0) (a 6) 144 B]) s.heap := hP
  have hD : va_D A ([xObj a tc rc ro, xArr (t 0) (a 1) 30 (xN F), xArr (t 0) (a 2) 30 (xN T), xArr (t 0) (a 3) 30 L, xArr (t 1) (a 4) 30 (xB Z), xArr (t 0) (a 5) 12 E, xArr (t 0) (a 6) 144 B]) := hD
  have hl := lv_entry ([.ref (a 0)]) (n := 3) (Nat.le_of_ble_eq_true rfl)
  rw [lg_entry_eq]
  generalize (lg_sl ([.ref (a 0)]) ++ List.replicate (3 - (lg_sl ([.ref (a 0)])).length) Slot.unset).toArray = ls at hl ⊢
  have hl : lv_has ls 3 [(0, .ref (a 0))] := hl
  refine lv_aload_n hx hb dX0_tighten_0 rfl (lv_at hl 0 rfl) ?_
  refine xr_V (b := a 0) (As := []) (rest := []) ⟨hx, hb, hml, hown, hts⟩ (c_X0_isPossible l D t a tc rc ro) (cwV 0 hts gX0_tighten_X0_isPossible rfl rfl rfl hd_X0_isPossible ⟨Nat.le_of_ble_eq_true rfl, Nat.le_of_ble_eq_true rfl⟩) hK hP (va_recv hK hP (ci := 0) (q0 := 0) rfl rfl) [0] rfl rfl hl.1 rfl (Nat.le_of_ble_eq_true rfl) dX0_tighten_1 ⟨(Nat.le_of_ble_eq_true rfl), (Nat.le_of_ble_eq_true rfl)⟩ ?_
  refine lv_if_ne (x := bI (decide (¬ ro = -1))) (tgt := 9) hx hb dX0_tighten_4 (by decide) (fun c_1 => ?_) (fun c_1 => ?_)
  · have c_1 := of_decide_eq_true (bI_n0 c_1)
    refine lv_iconst (v := 0) hx hb dX0_tighten_9 (by decide) ?_
    refine lv_istore_n (lv' := [(1, .int 0), (0, .ref (a 0))]) hx hb dX0_tighten_10 rfl hl (by decide) rfl (fun ls hl => ?_)
    refine lv_iconst (v := 0) hx hb dX0_tighten_11 (by decide) ?_
    refine lv_istore_n (lv' := [(2, .int 0), (1, .int 0), (0, .ref (a 0))]) hx hb dX0_tighten_12 rfl hl (by decide) rfl (fun ls hl => ?_)
    have lp_13 : ∀ (n13 : Nat) (r : Nat) (sm : Int32) (L1 : Nat → Int32) (ro1 : Int32) (E1 : Nat → Int32) (B1 : Nat → Int32), r + n13 = rc → tAll F T Z tc rc n13 r sm (L1, ro1, E1, B1) = tAll F T Z tc rc rc 0 0 (L, ro, E, B) → ∀ (H : Heap) (locs : List Loc), va_P D vwCl ([xObj a tc rc ro1, xArr (t 0) (a 1) 30 (xN F), xArr (t 0) (a 2) 30 (xN T), xArr (t 0) (a 3) 30 L1, xArr (t 1) (a 4) 30 (xB Z), xArr (t 0) (a 5) 12 E1, xArr (t 0) (a 6) 144 B1]) H → va_D A ([xObj a tc rc ro1, xArr (t 0) (a 1) 30 (xN F), xArr (t 0) (a 2) 30 (xN T), xArr (t 0) (a 3) 30 L1, xArr (t 1) (a 4) 30 (xB Z), xArr (t 0) (a 5) 12 E1, xArr (t 0) (a 6) 144 B1]) → va_S A s.heap H locs → ∀ ls : Array Slot, lv_has ls 3 [(2, .int (nI r)), (1, .int sm), (0, .ref (a 0))] → W p l e (headSpec wsX0_tighten ({ frames := 6, cells := 0, slots := 0, locals := 134 } : Jvm.Room)).room s m (([.ref (a 0)] : List Value).toArray) below meth c H locs 0 0 (MQ below (xQm D (fun u : Unit => True) (fun u : Unit => some (.int ((tightA F T Z tc rc (L, ro, E, B)).1))) [xObj a tc rc ro, xArr (t 0) (a 1) 30 (xN F), xArr (t 0) (a 2) 30 (xN T), xArr (t 0) (a 3) 30 L, xArr (t 1) (a 4) 30 (xB Z), xArr (t 0) (a 5) 12 E, xArr (t 0) (a 6) 144 B] (fun u : Unit => [xObj a tc rc ((tightA F T Z tc rc (L, ro, E, B)).2.2.1), xArr (t 0) (a 1) 30 (xN F), xArr (t 0) (a 2) 30 (xN T), xArr (t 0) (a 3) 30 ((tightA F T Z tc rc (L, ro, E, B)).2.1), xArr (t 1) (a 4) 30 (xB Z), xArr (t 0) (a 5) 12 ((tightA F T Z tc rc (L, ro, E, B)).2.2.2.1), xArr (t 0) (a 6) 144 ((tightA F T Z tc rc (L, ro, E, B)).2.2.2.2)]) s.heap.size) (([.ref (a 0)] : List Value).toArray) s 0 0 A) (F0 m 13 ls []) := by
      intro n13
      induction n13 using Nat.strongRecOn with
      | _ n13 ih_13 =>
        intro r sm L1 ro1 E1 B1 hm_13 hfin_13 H locs hP hD hS ls hl
        refine lv_iload_n hx hb dX0_tighten_13 rfl (lv_at hl 0 rfl) ?_
        refine lv_aload_n hx hb dX0_tighten_14 rfl (lv_at hl 2 rfl) ?_
        refine x0_get (v := .int (nI rc)) hx hb hts hin hown hK hP 0 rfl 1 (by decide) fl_63 rfl dX0_tighten_15 rfl ?_
        refine lv_icmp_ge (x := nI r) (y := nI rc) (tgt := 44) hx hb dX0_tighten_18 (by decide) (fun c_2 => ?_) (fun c_2 => ?_)
        · have c_2 := (nI_leI (a := rc) (b := r) (by omega) (by omega)).mp c_2
          have hn0_13 : n13 = 0 := by omega
          subst hn0_13
          obtain rfl : sm = (tAll F T Z tc rc rc 0 0 (L, ro, E, B)).1 := congrArg (fun z => z.1) hfin_13
          obtain rfl : L1 = (tAll F T Z tc rc rc 0 0 (L, ro, E, B)).2.1 := congrArg (fun z => z.2.1) hfin_13
          obtain rfl : ro1 = (tAll F T Z tc rc rc 0 0 (L, ro, E, B)).2.2.1 := congrArg (fun z => z.2.2.1) hfin_13
          obtain rfl : E1 = (tAll F T Z tc rc rc 0 0 (L, ro, E, B)).2.2.2.1 := congrArg (fun z => z.2.2.2.1) hfin_13
          obtain rfl : B1 = (tAll F T Z tc rc rc 0 0 (L, ro, E, B)).2.2.2.2 := congrArg (fun z => z.2.2.2.2) hfin_13
          refine lv_iload_n hx hb dX0_tighten_44 rfl (lv_at hl 1 rfl) ?_
          have e9 : ((tAll F T Z tc rc rc 0 0 (L, ro, E, B)).1, (tAll F T Z tc rc rc 0 0 (L, ro, E, B)).2.1, (tAll F T Z tc rc rc 0 0 (L, ro, E, B)).2.2.1, (tAll F T Z tc rc rc 0 0 (L, ro, E, B)).2.2.2.1, (tAll F T Z tc rc rc 0 0 (L, ro, E, B)).2.2.2.2) = tightA F T Z tc rc (L, ro, E, B) := by simp [tightA, c_1, c_2, Nat.not_lt.mpr c_2]
          have hP9 : va_P D vwCl ([xObj a tc rc ((tightA F T Z tc rc (L, ro, E, B)).2.2.1), xArr (t 0) (a 1) 30 (xN F), xArr (t 0) (a 2) 30 (xN T), xArr (t 0) (a 3) 30 ((tightA F T Z tc rc (L, ro, E, B)).2.1), xArr (t 1) (a 4) 30 (xB Z), xArr (t 0) (a 5) 12 ((tightA F T Z tc rc (L, ro, E, B)).2.2.2.1), xArr (t 0) (a 6) 144 ((tightA F T Z tc rc (L, ro, E, B)).2.2.2.2)]) H := by rw [← e9]; exact hP
          have hD9 : va_D A ([xObj a tc rc ((tightA F T Z tc rc (L, ro, E, B)).2.2.1), xArr (t 0) (a 1) 30 (xN F), xArr (t 0) (a 2) 30 (xN T), xArr (t 0) (a 3) 30 ((tightA F T Z tc rc (L, ro, E, B)).2.1), xArr (t 1) (a 4) 30 (xB Z), xArr (t 0) (a 5) 12 ((tightA F T Z tc rc (L, ro, E, B)).2.2.2.1), xArr (t 0) (a 6) 144 ((tightA F T Z tc rc (L, ro, E, B)).2.2.2.2)]) := by rw [← e9]; exact hD
          subst hAe
          obtain ⟨hq9, hf9⟩ := xm_end (S := Unit) (pu := (fun u : Unit => True)) (r := (fun u : Unit => some (.int ((tightA F T Z tc rc (L, ro, E, B)).1)))) (wc := [xObj a tc rc ro, xArr (t 0) (a 1) 30 (xN F), xArr (t 0) (a 2) 30 (xN T), xArr (t 0) (a 3) 30 L, xArr (t 1) (a 4) 30 (xB Z), xArr (t 0) (a 5) 12 E, xArr (t 0) (a 6) 144 B]) (w1 := (fun u : Unit => [xObj a tc rc ((tightA F T Z tc rc (L, ro, E, B)).2.2.1), xArr (t 0) (a 1) 30 (xN F), xArr (t 0) (a 2) 30 (xN T), xArr (t 0) (a 3) 30 ((tightA F T Z tc rc (L, ro, E, B)).2.1), xArr (t 1) (a 4) 30 (xB Z), xArr (t 0) (a 5) 12 ((tightA F T Z tc rc (L, ro, E, B)).2.2.2.1), xArr (t 0) (a 6) 144 ((tightA F T Z tc rc (L, ro, E, B)).2.2.2.2)])) (o := some (.int ((tAll F T Z tc rc rc 0 0 (L, ro, E, B)).1))) (args := ([.ref (a 0)] : List Value).toArray) () rfl trivial (by rw [← e9]) hP9 hD9 hS
          exact W.iret hx hb hr hq9 hf9 dX0_tighten_45 hlocks
        · have c_2 : r < rc := Nat.lt_of_not_le (fun z9 => c_2 ((nI_leI (a := rc) (b := r) (by omega) (by omega)).mpr z9))
          obtain ⟨n139, rfl⟩ : ∃ z, n13 = z + 1 := ⟨n13 - 1, by omega⟩
          refine lv_aload_n hx hb dX0_tighten_21 rfl (lv_at hl 2 rfl) ?_
          refine x0_get (v := .ref (a 4)) hx hb hts hin hown hK hP 0 rfl 5 (by decide) fl_19 rfl dX0_tighten_22 rfl ?_
          refine lv_iload_n hx hb dX0_tighten_25 rfl (lv_at hl 0 rfl) ?_
          refine x_zald (f := xB Z) hx hb hK hP 4 1 rfl rfl (k := r) (by omega) (Nat.le_of_ble_eq_true rfl) dX0_tighten_26 ?_
          refine x_top (w := bI (Z r)) rfl ?_
          refine lv_if_eq (x := bI (Z r)) (tgt := 38) hx hb dX0_tighten_27 (by decide) (fun c_3 => ?_) (fun c_3 => ?_)
          · have c_3 := bI_0 c_3
            refine lv_iinc (v := nI (r + 1)) (lv' := [(2, .int (nI (r + 1))), (1, .int sm), (0, .ref (a 0))]) hx hb dX0_tighten_38 hl (k := 0) rfl (x_inc _) (by decide) rfl (fun ls hl => ?_)
            refine lv_goto (tgt := 13) hx hb dX0_tighten_41 (by decide) ?_
            exact ih_13 n139 (by omega) (r + 1) sm L1 ro1 E1 B1 (by omega) (by rw [← hfin_13]; simp [tAll, c_2, c_3]) _ _ hP hD hS _ (lv_sub hl [0, 1, 2] rfl)
          · have c_3 := bI_n0 c_3
            refine lv_iload_n hx hb dX0_tighten_30 rfl (lv_at hl 1 rfl) ?_
            refine lv_aload_n hx hb dX0_tighten_31 rfl (lv_at hl 2 rfl) ?_
            refine lv_iload_n hx hb dX0_tighten_32 rfl (lv_at hl 0 rfl) ?_
            refine xm_V (b := a 0) (As := [.int (nI r)]) (rest := [.int sm]) (wr := []) ⟨hx, hb, hml, hown, hts⟩ xTrav_T (c_X0_tightenOne l D t a tc rc ro1 F T L1 Z E1 B1 r _ (by omega) (by omega) hF (by omega)) (cwV 1 hts gX0_tighten_X0_tightenOne rfl rfl rfl hd_X0_tightenOne ⟨Nat.le_of_ble_eq_true rfl, Nat.le_of_ble_eq_true rfl⟩) hK hP hD hS hA (fun _ _ _ => trivial) (va_recv hK hP (ci := 0) (q0 := 0) rfl rfl) [0, 1, 2, 3, 4, 5, 6] [] rfl rfl (by decide) (by decide) (by decide) rfl hl.1 rfl (Nat.le_of_ble_eq_true rfl) dX0_tighten_33 ⟨(Nat.le_of_ble_eq_true rfl), (Nat.le_of_ble_eq_true rfl)⟩ (fun u_4 H locs hu hP hD hS hz => ?_)
            have hP : va_P D vwCl ([xObj a tc rc ((tOneS F T Z tc rc r (L1, ro1, E1, B1)).2.1), xArr (t 0) (a 1) 30 (xN F), xArr (t 0) (a 2) 30 (xN T), xArr (t 0) (a 3) 30 ((tOneS F T Z tc rc r (L1, ro1, E1, B1)).1), xArr (t 1) (a 4) 30 (xB Z), xArr (t 0) (a 5) 12 ((tOneS F T Z tc rc r (L1, ro1, E1, B1)).2.2.1), xArr (t 0) (a 6) 144 ((tOneS F T Z tc rc r (L1, ro1, E1, B1)).2.2.2)]) H := hP.sub [0, 1, 2, 3, 4, 5, 6] rfl
            have hD : va_D _ ([xObj a tc rc ((tOneS F T Z tc rc r (L1, ro1, E1, B1)).2.1), xArr (t 0) (a 1) 30 (xN F), xArr (t 0) (a 2) 30 (xN T), xArr (t 0) (a 3) 30 ((tOneS F T Z tc rc r (L1, ro1, E1, B1)).1), xArr (t 1) (a 4) 30 (xB Z), xArr (t 0) (a 5) 12 ((tOneS F T Z tc rc r (L1, ro1, E1, B1)).2.2.1), xArr (t 0) (a 6) 144 ((tOneS F T Z tc rc r (L1, ro1, E1, B1)).2.2.2)]) := hD.sub [0, 1, 2, 3, 4, 5, 6] (by decide) rfl
            refine lv_iadd (x := sm) (y := tOneD F T r (L1, ro1, E1, B1)) hx hb dX0_tighten_36 ?_
            refine lv_istore_n (lv' := [(1, .int (sm + (tOneD F T r (L1, ro1, E1, B1)))), (2, .int (nI r)), (0, .ref (a 0))]) hx hb dX0_tighten_37 rfl hl (by decide) rfl (fun ls hl => ?_)
            refine lv_iinc (v := nI (r + 1)) (lv' := [(2, .int (nI (r + 1))), (1, .int (sm + (tOneD F T r (L1, ro1, E1, B1)))), (0, .ref (a 0))]) hx hb dX0_tighten_38 hl (k := 1) rfl (x_inc _) (by decide) rfl (fun ls hl => ?_)
            refine lv_goto (tgt := 13) hx hb dX0_tighten_41 (by decide) ?_
            exact ih_13 n139 (by omega) (r + 1) (sm + (tOneD F T r (L1, ro1, E1, B1))) ((tOneS F T Z tc rc r (L1, ro1, E1, B1)).1) ((tOneS F T Z tc rc r (L1, ro1, E1, B1)).2.1) ((tOneS F T Z tc rc r (L1, ro1, E1, B1)).2.2.1) ((tOneS F T Z tc rc r (L1, ro1, E1, B1)).2.2.2) (by omega) (by rw [← hfin_13]; simp [tAll, c_2, c_3]) _ _ hP hD hS _ (lv_sub hl [0, 1, 2] rfl)
    exact lp_13 rc 0 0 L ro E B (by omega) rfl _ _ hP hD hS _ (lv_sub hl [0, 1, 2] rfl)
  · have c_1 := Classical.not_not.mp (of_decide_eq_false (bI_0 c_1))
    refine lv_iconst (v := 0) hx hb dX0_tighten_7 (by decide) ?_
    have e9 : (0, L, ro, E, B) = tightA F T Z tc rc (L, ro, E, B) := by simp [tightA, c_1]
    have hP9 : va_P D vwCl ([xObj a tc rc ((tightA F T Z tc rc (L, ro, E, B)).2.2.1), xArr (t 0) (a 1) 30 (xN F), xArr (t 0) (a 2) 30 (xN T), xArr (t 0) (a 3) 30 ((tightA F T Z tc rc (L, ro, E, B)).2.1), xArr (t 1) (a 4) 30 (xB Z), xArr (t 0) (a 5) 12 ((tightA F T Z tc rc (L, ro, E, B)).2.2.2.1), xArr (t 0) (a 6) 144 ((tightA F T Z tc rc (L, ro, E, B)).2.2.2.2)]) s.heap := by rw [← e9]; exact hP
    have hD9 : va_D A ([xObj a tc rc ((tightA F T Z tc rc (L, ro, E, B)).2.2.1), xArr (t 0) (a 1) 30 (xN F), xArr (t 0) (a 2) 30 (xN T), xArr (t 0) (a 3) 30 ((tightA F T Z tc rc (L, ro, E, B)).2.1), xArr (t 1) (a 4) 30 (xB Z), xArr (t 0) (a 5) 12 ((tightA F T Z tc rc (L, ro, E, B)).2.2.2.1), xArr (t 0) (a 6) 144 ((tightA F T Z tc rc (L, ro, E, B)).2.2.2.2)]) := by rw [← e9]; exact hD
    subst hAe
    obtain ⟨hq9, hf9⟩ := xm_end (S := Unit) (pu := (fun u : Unit => True)) (r := (fun u : Unit => some (.int ((tightA F T Z tc rc (L, ro, E, B)).1)))) (wc := [xObj a tc rc ro, xArr (t 0) (a 1) 30 (xN F), xArr (t 0) (a 2) 30 (xN T), xArr (t 0) (a 3) 30 L, xArr (t 1) (a 4) 30 (xB Z), xArr (t 0) (a 5) 12 E, xArr (t 0) (a 6) 144 B]) (w1 := (fun u : Unit => [xObj a tc rc ((tightA F T Z tc rc (L, ro, E, B)).2.2.1), xArr (t 0) (a 1) 30 (xN F), xArr (t 0) (a 2) 30 (xN T), xArr (t 0) (a 3) 30 ((tightA F T Z tc rc (L, ro, E, B)).2.1), xArr (t 1) (a 4) 30 (xB Z), xArr (t 0) (a 5) 12 ((tightA F T Z tc rc (L, ro, E, B)).2.2.2.1), xArr (t 0) (a 6) 144 ((tightA F T Z tc rc (L, ro, E, B)).2.2.2.2)])) (o := some (.int 0)) (args := ([.ref (a 0)] : List Value).toArray) () rfl trivial (by rw [← e9]) hP9 hD9 hS
    exact W.iret hx hb hr hq9 hf9 dX0_tighten_8 hlocks
end
section
/-! throwing: what travels with the tables, contracts, calls -/
abbrev eIO : String := "java/lang/IndexOutOfBoundsException"
abbrev eIA : String := "java/lang/IllegalArgumentException"
abbrev eIS : String := "java/lang/IllegalStateException"
/-- 1, 2, 3: which exception -/
def xE (k : Nat) : String := if k = 1 then eIO else if k = 2 then eIA else eIS
def xSi : Nat → Nat × String
  | 0 => (47, "there are 12 turns")
  | 1 => (66, "30 ropes were tied")
  | 2 => (109, "the end is not 0 to 9999")
  | 3 => (115, "no timetable is over by then")
  | 4 => (127, "the rope is not tied")
  | 5 => (134, "there is no such place")
  | 6 => (161, "there is no such turn")
  | 7 => (163, "there is no such rope")
  | 8 => (165, "there is nothing of this number")
  | 9 => (167, "both turns are the same")
  | 10 => (169, "the length is not -99 to 99")
  | _ => (171, "there is no timetable")
def xTw : Nat → Cond
  | 0 => .castable eIO eIO
  | 1 => .castable eIA eIA
  | 2 => .castable eIS eIS
  | 3 => .declares ⟨"java/lang/RuntimeException", "<init>", "(Ljava/lang/String;)V"⟩
  | 4 => .declares ⟨"java/lang/Exception", "<init>", "(Ljava/lang/String;)V"⟩
  | _ => .declares ⟨"java/lang/Throwable", "<init>", "(Ljava/lang/String;)V"⟩
def xTh (N0 : Nat) (sa : Nat → Nat) (U : State) : Prop :=
  vx_Zq Bundle.tN "UNASSIGNED_STACK" Bundle.steD (fun q => N0 ≤ q) U U.heap ∧ vx_Zq Bundle.tN "SUPPRESSED_SENTINEL" Bundle.listD (fun q => N0 ≤ q) U U.heap ∧
  (∀ k, va_Nw (xTw k) U) ∧ ∀ k, vk_R RX0 (xSi k).1 (xSi k).2 (sa k) U
theorem xTw_tab : ∀ k, (xTw k).onTables = true
  | 0 => rfl | 1 => rfl | 2 => rfl | 3 => rfl | 4 => rfl | _ + 5 => rfl
theorem xTw_warm {s U : State} (hW : s.WarmedH U.vm) : ∀ k, va_Nw (xTw k) s → va_Nw (xTw k) U
  | 0, h => va_Nw.warmC hW h | 1, h => va_Nw.warmC hW h | 2, h => va_Nw.warmC hW h | 3, h => va_Nw.warmD hW h | 4, h => va_Nw.warmD hW h | _ + 5, h => va_Nw.warmD hW h
theorem xTh.trav (N0 : Nat) (sa : Nat → Nat) : xTrav (xTh N0 sa) := by
  intro u U hv hh h
  have ha : u.vm.Alike U.vm := by rw [hv]; exact Vm.Alike.refl _
  refine ⟨?_, ?_, fun k => va_Nw.same (xTw_tab k) hv.symm (h.2.2.1 k), fun k => vk_R.same hv (h.2.2.2 k)⟩
  · rw [hh]; exact vx_Zq.moved ha h.1
  · rw [hh]; exact vx_Zq.moved ha h.2.1
theorem xTh.warm {N0 : Nat} {sa : Nat → Nat} {s U : State} (hW : s.WarmedH U.vm) (hk : ∀ q : Nat, q < s.heap.size → ¬ N0 ≤ q → U.heap[q]? = s.heap[q]?) (h : xTh N0 sa s) : xTh N0 sa U :=
  ⟨vx_Zq.moved hW.alike (h.1.kept hk), vx_Zq.moved hW.alike (h.2.1.kept hk), fun k => xTw_warm hW k (h.2.2.1 k), fun k => vk_R.warm hW (h.2.2.2 k)⟩
def xRt (D : va_G) (tys : List (ClassId × FieldType)) (N0 : Nat) (sa : Nat → Nat) (av : List Value) (wc : va_W) : Array Value → State → Prop := va_Pc av (fun U => va_P D vwCl wc U.heap ∧ va_K D vwCl tys U ∧ xTh N0 sa U)
theorem xRt_blind {D : va_G} (tys : List (ClassId × FieldType)) (N0 : Nat) (sa : Nat → Nat) (av : List Value) (wc : va_W) : FrameBlind (xRt D tys N0 sa av wc) := fun aa U g mk q => ⟨q.1, q.2.1, va_K.moved (u := U) (U := U.calling g mk aa) (Vm.Alike.refl U.vm) q.2.2.1, xTh.trav N0 sa U (U.calling g mk aa) rfl rfl q.2.2.2⟩
section XT
variable {p : Program} {l : Launch} {e : Env} {R : Room} {s : State} {m : MethodId} {args : Array Value} {below : List Frame} {meth : Method} {c : Code} {H : Heap} {locs : List Loc} {cells slots : Nat} {Q : State → Prop}
variable {cc : ByteArray} {pc : Nat} {ls : Array Slot} {rest st0 : List Value} {D : va_G} {cl : List vw_C} {A0 A : Nat → Prop} {a : Nat} {tys : List (ClassId × FieldType)} {ws : va_W} {H0 : Heap} {N0 : Nat} {sa : Nat → Nat} {mc ms : Nat} {bad : String → Prop}
theorem xt_fin {r : Option Value} {ok : Prop} {aa : Array Value} (hr : vx_Run p l e R s m args below meth c H locs cells slots mc ms (F0 m pc ls st0) rest (xQt r ok aa) (xXt bad) (fun _ => False))
    (kx : ∀ (E : String) (ce : Cell) (q9 : Addr) (H1 : Heap), bad E → H.size ≤ H1.size → (∀ q : Nat, q < H.size → H1[q]? = H[q]?) → H1[q9]? = some ce → ce.vm = .none → s.vm.findClass E = some ce.cls → vx_W p l e R s m args below meth c H1 locs (cells + mc) (slots + ms) Q (F0 m pc ls rest) q9)
    (kk : ok → W p l e R s m args below meth c H locs (cells + mc) (slots + ms) Q (F0 m (pc + 3) ls (r.toList ++ rest))) : W p l e R s m args below meth c H locs cells slots Q (F0 m pc ls st0) := by
  intro T hT X
  rcases hr T hT X with ⟨v, st₀, t, T', L, h0, X', hL, e1, e2, ⟨hok, hv, hh⟩, st⟩ | ⟨q, st₀, t, T', L, E, ce, h0, X', hL, e1, e2, ⟨hb, hz, hk⟩, hce, hcv, hcl, st⟩
  · cases hv
    obtain ⟨t2, a1, b1⟩ := kk hok T' (by rw [e1, hh, h0]) (Stand.forget X' (fun q h => (hL q h).elim))
    exact ⟨t2, st t2 a1, b1⟩
  · rw [h0] at hz hk
    obtain ⟨t2, a1, b1⟩ := kx E ce q T'.heap hb (by rw [e1]; exact hz) (fun q hq => by rw [e1]; exact hk q hq (fun z => z)) (by rw [e1]; exact hce) hcv hcl T' rfl (Stand.forget X' (fun q h => (hL q h).elim))
    exact ⟨t2, st.trans a1, b1⟩
/-- it goes on to the caller -/
theorem xt_out {Qc : Array Value → State → Outcome → State → Prop} {free : Addr → Prop} {E : String} {ce : Cell} {q9 : Addr} (hte : ∀ x ∈ c.exceptionTable.toList, False) (hlocks : meth.locks = false) (hb : bad E) (hz : s.heap.size ≤ H.size) (hk : ∀ q : Nat, q < s.heap.size → H[q]? = s.heap[q]?) (hce : H[q9]? = some ce) (hv : ce.vm = .none) (hcl : s.vm.findClass E = some ce.cls) (hf : ∀ z ∈ locs, free z.base) (hc : cells ≤ mc) (hs : slots ≤ ms) :
    vx_W p l e R s m args below meth c H locs cells slots (vx_MQ below Qc (xXt bad) args s mc ms free) (F0 m pc ls rest) q9 :=
  vx_out (fun x hx => (hte x hx).elim) hlocks hce hv hcl (fun t ht _ => ⟨hb, by rw [ht]; exact hz, fun q hq _ => by rw [ht]; exact hk q hq⟩) hf hc hs
/-- throw new E("text") -/
theorem xt_throw {Qc : Array Value → State → Outcome → State → Prop} {free : Addr → Prop} {E text : String} {ik is ic q : Nat} (hexec : p.tables.exec = Jvm.exec) (hb : c.code = cc) (hl : l.stackTraces = false) (hown : s.vm.findClass RX0 = some m.cls) (hfit : Bundle.fit E = true)
    (hk : (Cond.classLink RX0 ik E).before args s = true) (hini : (Cond.initialized E).before args s = true) (hT : xTh N0 sa s) (hstr : vk_R RX0 is text q s) (hat : ∀ w ∈ vx_atS RX0 ic E ["java/lang/RuntimeException", "java/lang/Exception"], w.before args s = true)
    (hgood : ∀ w ∈ Cond.classLink RX0 ik E :: Cond.initialized E :: vx_atS RX0 ic E ["java/lang/RuntimeException", "java/lang/Exception"], vx_ot w = true) (hsize : ls.size = c.maxLocals)
    (d0 : decode cc pc = .ok (.new ik, 3)) (d3 : decode cc (pc + 3) = .ok (.dup, 1)) (d4 : decode cc (pc + 4) = .ok (.ldc is, 2)) (d6 : decode cc (pc + 6) = .ok (.invokespecial ic, 3)) (d9 : decode cc (pc + 9) = .ok (.athrow, 1))
    (hte : ∀ x ∈ c.exceptionTable.toList, False) (hRframes : 5 < R.frames) (hRlocals : (rest.map fun v => v.category).sum + 82 ≤ R.locals) (hRcells : cells + 1 ≤ R.cells) (hRslots : slots + 6 ≤ R.slots) (hlocks : meth.locks = false) (hbad : bad E) (hf : ∀ z ∈ locs, free z.base) (hc : cells + 1 ≤ mc) (hs : slots + 6 ≤ ms) (hloc : locs = []) :
    W p l e R s m args below meth c s.heap locs cells slots (vx_MQ below Qc (xXt bad) args s mc ms free) (F0 m pc ls rest) := by
  subst hloc
  exact vx_throwS (own := RX0) (names := ["java/lang/RuntimeException", "java/lang/Exception"]) (A := fun q => N0 ≤ q) hexec hb hl hown hfit (by decide +kernel) hk hini hstr hat hgood hT.1 hT.2.1 va_S.rf hsize d0 d3 d4 d6 d9 (fun x hx => (hte x hx).elim) hRframes hRlocals hRcells hRslots hlocks (fun t _ hz hk => ⟨hbad, hz, fun q hq _ => hk q hq⟩) hf hc hs
section Calls
variable {y : MethodName} {bytes : ByteArray} {maxL nL n index : Nat} {ret : Option FieldType} {wsy : List Cond} {rm : Room} {Ts : List Cond} {own C : String} {b : Addr} {As : List Value} {wc : va_W}
theorem xt_V {r : Option Value} {ok : Prop} (S : CallFix p m c cc nL s args Ts own) (hM : vx_Met l y wsy rm (xRt D tys N0 sa (.ref b :: As) wc) (xQt r ok) (xXt bad) mc ms (fun _ => False)) (cw : CallW R s args own C index y bytes maxL ret wsy rm mc ms n)
    (hK : va_K D vwCl tys s) (hP : va_P D vwCl ws H) (hXs : ∀ U : State, s.WarmedH U.vm → U.heap = H → xTh N0 sa U) (hrec : ∃ cellB : Cell, H[b]? = some cellB ∧ cellB.vm.isStatics = false ∧ s.vm.findClass C = some cellB.cls) (is : List Nat) (hs : is.filterMap (fun i => ws[i]?) = wc)
    (hn : As.length = n) (hsize : ls.size = nL) (hstack : st0 = As.reverse ++ .ref b :: rest) (hW : (rest.map fun v => v.category).sum ≤ 8) (hdg : decode cc pc = .ok (.invokevirtual index, 3)) (hc : cells + mc ≤ R.cells ∧ slots + ms ≤ R.slots)
    (kx : ∀ (E : String) (ce : Cell) (q9 : Addr) (H1 : Heap), bad E → H.size ≤ H1.size → (∀ q : Nat, q < H.size → H1[q]? = H[q]?) → H1[q9]? = some ce → ce.vm = .none → s.vm.findClass E = some ce.cls → vx_W p l e R s m args below meth c H1 locs (cells + mc) (slots + ms) Q (F0 m pc ls rest) q9)
    (kk : ok → W p l e R s m args below meth c H locs (cells + mc) (slots + ms) Q (F0 m (pc + 3) ls (r.toList ++ rest))) : W p l e R s m args below meth c H locs cells slots Q (F0 m pc ls st0) := by
  subst hstack
  have hPc := hP.sub (ws' := wc) is hs
  exact xt_fin (vx_runV S hM cw ⟨xRt_blind _ _ _ _ _, hrec, fun U hU hW => ⟨rfl, by rw [hU]; exact hPc, va_K.moved hW.alike hK, hXs U hW hU⟩⟩ rfl hn hsize rfl (lv_room hW) hdg hc) kx kk
theorem xt_S {r : Option Value} {ok : Prop} (S : CallFix p m c cc nL s args Ts own) (hM : vx_Met l y wsy rm (xRt D tys N0 sa As wc) (xQt r ok) (xXt bad) mc ms (fun _ => False)) (cw : CallB R s args own index y bytes maxL ret wsy rm mc ms n ∧ (Cond.static y).before args s = true)
    (hK : va_K D vwCl tys s) (hP : va_P D vwCl ws H) (hXs : ∀ U : State, s.WarmedH U.vm → U.heap = H → xTh N0 sa U) (is : List Nat) (hs : is.filterMap (fun i => ws[i]?) = wc)
    (hn : As.length = n) (hsize : ls.size = nL) (hstack : st0 = As.reverse ++ rest) (hW : (rest.map fun v => v.category).sum ≤ 8) (hdg : decode cc pc = .ok (.invokestatic index, 3)) (hc : cells + mc ≤ R.cells ∧ slots + ms ≤ R.slots)
    (kx : ∀ (E : String) (ce : Cell) (q9 : Addr) (H1 : Heap), bad E → H.size ≤ H1.size → (∀ q : Nat, q < H.size → H1[q]? = H[q]?) → H1[q9]? = some ce → ce.vm = .none → s.vm.findClass E = some ce.cls → vx_W p l e R s m args below meth c H1 locs (cells + mc) (slots + ms) Q (F0 m pc ls rest) q9)
    (kk : ok → W p l e R s m args below meth c H locs (cells + mc) (slots + ms) Q (F0 m (pc + 3) ls (r.toList ++ rest))) : W p l e R s m args below meth c H locs cells slots Q (F0 m pc ls st0) := by
  subst hstack
  have hPc := hP.sub (ws' := wc) is hs
  exact xt_fin (vx_runS S hM cw ⟨xRt_blind _ _ _ _ _, fun U hU hW => ⟨rfl, by rw [hU]; exact hPc, va_K.moved hW.alike hK, hXs U hW hU⟩⟩ rfl hn hsize rfl (lv_room hW) hdg hc) kx kk
/-- a changing method that may throw -/
theorem xmt_V {S : Type} {pu : S → Prop} {r : S → Option Value} {w1 : S → va_W} {wr : va_W} {X : State → Prop} (SF : CallFix p m c cc nL s args Ts own) (hX : xTrav X) (hM : vx_Met l y wsy rm (xMu D tys X (.ref b :: As) wc H.size) (xQm D pu r wc w1 H.size) (xXt bad) mc ms (va_A wc H.size)) (cw : CallW R s args own C index y bytes maxL ret wsy rm mc ms n)
    (hK : va_K D vwCl tys s) (hP : va_P D vwCl ws H) (hD : va_D A0 ws) (hS : va_S A0 H0 H locs) (hA : ∀ q, H0.size ≤ q → A0 q) (hXs : ∀ U : State, s.WarmedH U.vm → U.heap = H → X U) (hrec : ∃ cellB : Cell, H[b]? = some cellB ∧ cellB.vm.isStatics = false ∧ s.vm.findClass C = some cellB.cls)
    (isC isR : List Nat) (hC : isC.map (fun i => ws[i]?) = wc.map some) (hR : isR.map (fun i => ws[i]?) = wr.map some) (hnC : va_nd isC = true) (hnR : va_nd isR = true) (hdis : ∀ i ∈ isR, i ∉ isC)
    (hn : As.length = n) (hsize : ls.size = nL) (hstack : st0 = As.reverse ++ .ref b :: rest) (hW : (rest.map fun v => v.category).sum ≤ 8) (hdg : decode cc pc = .ok (.invokevirtual index, 3)) (hc : cells + mc ≤ R.cells ∧ slots + ms ≤ R.slots)
    (kx : ∀ (E : String) (ce : Cell) (q9 : Addr) (H1 : Heap) (locs1 : List Loc), bad E → H.size ≤ H1.size → (∀ q : Nat, q < H.size → H1[q]? = H[q]?) → va_S A0 H0 H1 locs1 → H1[q9]? = some ce → ce.vm = .none → s.vm.findClass E = some ce.cls → vx_W p l e R s m args below meth c H1 locs1 (cells + mc) (slots + ms) Q (F0 m pc ls rest) q9)
    (kk : ∀ (u : S) (H1 : Heap) (locs1 : List Loc), pu u → va_P D vwCl (wr ++ w1 u) H1 → va_D A0 (wr ++ w1 u) → va_S A0 H0 H1 locs1 → H.size ≤ H1.size → W p l e R s m args below meth c H1 locs1 (cells + mc) (slots + ms) Q (F0 m (pc + 3) ls ((r u).toList ++ rest))) : W p l e R s m args below meth c H locs cells slots Q (F0 m pc ls st0) := by
  subst hstack
  have hPc : va_P D vwCl wc H := hP.sub isC (by
    have h := congrArg (fun l => l.filterMap id) hC
    simpa [List.filterMap_map] using h)
  have hDc := hD.sub isC hnC hC
  have hF := va_free (wc := wc) hD hS hA isC hC
  have hr := vx_runV (e := e) (below := below) (meth := meth) (locs := locs) (cells := cells) (slots := slots) (g := F0 m pc ls (As.reverse ++ .ref b :: rest)) SF hM cw ⟨xMu_blind hX _ _ _ _, hrec, fun U hU hW => ⟨rfl, by rw [hU], by rw [hU]; exact hPc, va_K.moved hW.alike hK, hDc.weaken (fun _ _ _ _ => trivial), hXs U hW hU⟩⟩ rfl hn hsize rfl (lv_room hW) hdg hc
  intro T hT Xs
  rcases hr T hT Xs with ⟨v, st₀, t, T', L, h0, X', hL, e1, e2, ⟨u, hu, hv, hP1, hD1, hz, hk⟩, st⟩ | ⟨q, st₀, t, T', L, E, ce, h0, X', hL, e1, e2, ⟨hb, hz, hk⟩, hce, hcv, hcl, st⟩
  · cases hv
    rw [h0] at hz hk
    obtain ⟨hP2, hD2⟩ := va_join (wr := wr) (w1 := w1 u) hP hD isC isR hC hR hnR hdis (fun q h1 h2 => hk q h1 h2) hF hP1 hD1
    obtain ⟨t2, a1, b1⟩ := kk u T'.heap (locs ++ L) hu (by rw [e1]; exact hP2) hD2
      ⟨Nat.le_trans hS.1 (by rw [e1]; exact hz), fun q h1 h2 => by rw [e1, hk q (Nat.lt_of_lt_of_le h1 hS.1) (fun z => h2 (hF q z))]; exact hS.2.1 q h1 h2, fun q hq => by
        rcases List.mem_append.mp hq with h | h
        · exact hS.2.2 q h
        · exact hF _ (hL q h)⟩ (by rw [e1]; exact hz) T' rfl X'
    exact ⟨t2, st t2 a1, b1⟩
  · rw [h0] at hz hk
    obtain ⟨t2, a1, b1⟩ := kx E ce q T'.heap (locs ++ L) hb (by rw [e1]; exact hz) (fun q hq => by rw [e1]; exact hk q hq (fun z => z))
      ⟨Nat.le_trans hS.1 (by rw [e1]; exact hz), fun q h1 h2 => by rw [e1, hk q (Nat.lt_of_lt_of_le h1 hS.1) (fun z => z)]; exact hS.2.1 q h1 h2, fun q hq => by
        rcases List.mem_append.mp hq with h | h
        · exact hS.2.2 q h
        · exact hF _ (hL q h)⟩ (by rw [e1]; exact hce) hcv hcl T' rfl X'
    exact ⟨t2, st.trans a1, b1⟩
end Calls
end XT
end
