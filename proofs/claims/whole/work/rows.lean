section
-- ===== PART A: goes FIRST, ahead of the names: the tables' words, and 'selects' of the private methods out of them =====
/-- a private method of a class that the tables say can be made, by its rows of tables_1 -/
def lw_okq (q : MethodName × Nat) : Prop := (q.1.cls ≠ "java/lang/invoke/MethodHandle" ∧ q.1.cls ≠ "java/lang/invoke/VarHandle") ∧ Cond.instantiable q.1.cls q.2 ∈ tables_1 ∧ Cond.privateMethod q.1 ∈ tables_1 ∧ Cond.instanceMethod q.1 ∈ tables_1
theorem lw_p0 : lw_okq (⟨"StageCount", "refusalOfLines", "()I"⟩, 8) := ⟨⟨by decide +kernel, by decide +kernel⟩, List.mem_of_getElem? (i := 14) (by decide +kernel), List.mem_of_getElem? (i := 255) (by decide +kernel), List.mem_of_getElem? (i := 256) (by decide +kernel)⟩
theorem lw_p1 : lw_okq (⟨"StageCount", "refusalOfEvents", "()I"⟩, 8) := ⟨⟨by decide +kernel, by decide +kernel⟩, List.mem_of_getElem? (i := 14) (by decide +kernel), List.mem_of_getElem? (i := 259) (by decide +kernel), List.mem_of_getElem? (i := 260) (by decide +kernel)⟩
theorem lw_p2 : lw_okq (⟨"StageCount$Play", "refuseUnless", "(ZII)V"⟩, 11) := ⟨⟨by decide +kernel, by decide +kernel⟩, List.mem_of_getElem? (i := 69) (by decide +kernel), List.mem_of_getElem? (i := 267) (by decide +kernel), List.mem_of_getElem? (i := 268) (by decide +kernel)⟩
theorem lw_p3 : lw_okq (⟨"StageCount$Play", "comer", "(II)I"⟩, 11) := ⟨⟨by decide +kernel, by decide +kernel⟩, List.mem_of_getElem? (i := 69) (by decide +kernel), List.mem_of_getElem? (i := 271) (by decide +kernel), List.mem_of_getElem? (i := 272) (by decide +kernel)⟩
theorem lw_p4 : lw_okq (⟨"StageCount", "isLine", "(I)Z"⟩, 8) := ⟨⟨by decide +kernel, by decide +kernel⟩, List.mem_of_getElem? (i := 14) (by decide +kernel), List.mem_of_getElem? (i := 291) (by decide +kernel), List.mem_of_getElem? (i := 292) (by decide +kernel)⟩
theorem lw_p5 : lw_okq (⟨"StageCount$Rules", "breaksMay", "(I)Z"⟩, 10) := ⟨⟨by decide +kernel, by decide +kernel⟩, List.mem_of_getElem? (i := 22) (by decide +kernel), List.mem_of_getElem? (i := 331) (by decide +kernel), List.mem_of_getElem? (i := 332) (by decide +kernel)⟩
theorem lw_p6 : lw_okq (⟨"StageCount", "bar", "()I"⟩, 8) := ⟨⟨by decide +kernel, by decide +kernel⟩, List.mem_of_getElem? (i := 14) (by decide +kernel), List.mem_of_getElem? (i := 339) (by decide +kernel), List.mem_of_getElem? (i := 340) (by decide +kernel)⟩
theorem lw_p7 : lw_okq (⟨"StageCount", "strangersAt", "(I)I"⟩, 8) := ⟨⟨by decide +kernel, by decide +kernel⟩, List.mem_of_getElem? (i := 14) (by decide +kernel), List.mem_of_getElem? (i := 343) (by decide +kernel), List.mem_of_getElem? (i := 344) (by decide +kernel)⟩
theorem lw_p8 : lw_okq (⟨"StageCount", "strangersComings", "()I"⟩, 8) := ⟨⟨by decide +kernel, by decide +kernel⟩, List.mem_of_getElem? (i := 14) (by decide +kernel), List.mem_of_getElem? (i := 347) (by decide +kernel), List.mem_of_getElem? (i := 348) (by decide +kernel)⟩
theorem lw_p9 : lw_okq (⟨"StageCount", "mostStrangers", "()I"⟩, 8) := ⟨⟨by decide +kernel, by decide +kernel⟩, List.mem_of_getElem? (i := 14) (by decide +kernel), List.mem_of_getElem? (i := 354) (by decide +kernel), List.mem_of_getElem? (i := 355) (by decide +kernel)⟩
theorem lw_p10 : lw_okq (⟨"StageCount", "linesInLaw", "()I"⟩, 8) := ⟨⟨by decide +kernel, by decide +kernel⟩, List.mem_of_getElem? (i := 14) (by decide +kernel), List.mem_of_getElem? (i := 362) (by decide +kernel), List.mem_of_getElem? (i := 363) (by decide +kernel)⟩
theorem lw_p11 : lw_okq (⟨"StageCount", "longestRising", "()I"⟩, 8) := ⟨⟨by decide +kernel, by decide +kernel⟩, List.mem_of_getElem? (i := 14) (by decide +kernel), List.mem_of_getElem? (i := 367) (by decide +kernel), List.mem_of_getElem? (i := 368) (by decide +kernel)⟩
theorem lw_p12 : lw_okq (⟨"StageCount$Cast", "clashesOf", "(J)I"⟩, 5) := ⟨⟨by decide +kernel, by decide +kernel⟩, List.mem_of_getElem? (i := 125) (by decide +kernel), List.mem_of_getElem? (i := 383) (by decide +kernel), List.mem_of_getElem? (i := 384) (by decide +kernel)⟩
theorem lw_p13 : lw_okq (⟨"StageCount$Cast", "partsOf", "(I)I"⟩, 5) := ⟨⟨by decide +kernel, by decide +kernel⟩, List.mem_of_getElem? (i := 125) (by decide +kernel), List.mem_of_getElem? (i := 390) (by decide +kernel), List.mem_of_getElem? (i := 391) (by decide +kernel)⟩
theorem lw_p14 : lw_okq (⟨"StageCount$Cast", "canTakeOver", "(JI)Z"⟩, 5) := ⟨⟨by decide +kernel, by decide +kernel⟩, List.mem_of_getElem? (i := 125) (by decide +kernel), List.mem_of_getElem? (i := 403) (by decide +kernel), List.mem_of_getElem? (i := 404) (by decide +kernel)⟩
theorem lw_p15 : lw_okq (⟨"StageCount$SceneOrder", "fewestFrom", "(II)I"⟩, 5) := ⟨⟨by decide +kernel, by decide +kernel⟩, List.mem_of_getElem? (i := 150) (by decide +kernel), List.mem_of_getElem? (i := 430) (by decide +kernel), List.mem_of_getElem? (i := 431) (by decide +kernel)⟩
def lw_privs_1 : List (MethodName × Nat) := [(⟨"StageCount", "refusalOfLines", "()I"⟩, 8), (⟨"StageCount", "refusalOfEvents", "()I"⟩, 8), (⟨"StageCount$Play", "refuseUnless", "(ZII)V"⟩, 11), (⟨"StageCount$Play", "comer", "(II)I"⟩, 11), (⟨"StageCount", "isLine", "(I)Z"⟩, 8), (⟨"StageCount$Rules", "breaksMay", "(I)Z"⟩, 10), (⟨"StageCount", "bar", "()I"⟩, 8), (⟨"StageCount", "strangersAt", "(I)I"⟩, 8), (⟨"StageCount", "strangersComings", "()I"⟩, 8), (⟨"StageCount", "mostStrangers", "()I"⟩, 8), (⟨"StageCount", "linesInLaw", "()I"⟩, 8), (⟨"StageCount", "longestRising", "()I"⟩, 8), (⟨"StageCount$Cast", "clashesOf", "(J)I"⟩, 5), (⟨"StageCount$Cast", "partsOf", "(I)I"⟩, 5), (⟨"StageCount$Cast", "canTakeOver", "(JI)Z"⟩, 5), (⟨"StageCount$SceneOrder", "fewestFrom", "(II)I"⟩, 5)]
theorem lw_r1 : ∀ q ∈ lw_privs_1, lw_okq q := List.forall_mem_cons.mpr ⟨lw_p0, List.forall_mem_cons.mpr ⟨lw_p1, List.forall_mem_cons.mpr ⟨lw_p2, List.forall_mem_cons.mpr ⟨lw_p3, List.forall_mem_cons.mpr ⟨lw_p4, List.forall_mem_cons.mpr ⟨lw_p5, List.forall_mem_cons.mpr ⟨lw_p6, List.forall_mem_cons.mpr ⟨lw_p7, List.forall_mem_cons.mpr ⟨lw_p8, List.forall_mem_cons.mpr ⟨lw_p9, List.forall_mem_cons.mpr ⟨lw_p10, List.forall_mem_cons.mpr ⟨lw_p11, List.forall_mem_cons.mpr ⟨lw_p12, List.forall_mem_cons.mpr ⟨lw_p13, List.forall_mem_cons.mpr ⟨lw_p14, List.forall_mem_cons.mpr ⟨lw_p15, fun _ h => absurd h List.not_mem_nil⟩⟩⟩⟩⟩⟩⟩⟩⟩⟩⟩⟩⟩⟩⟩⟩
theorem lw_p16 : lw_okq (⟨"StageCount$SceneOrder", "fewestBy", "(III)I"⟩, 5) := ⟨⟨by decide +kernel, by decide +kernel⟩, List.mem_of_getElem? (i := 150) (by decide +kernel), List.mem_of_getElem? (i := 435) (by decide +kernel), List.mem_of_getElem? (i := 436) (by decide +kernel)⟩
theorem lw_p17 : lw_okq (⟨"StageCount$SceneOrder", "fillRow", "()V"⟩, 5) := ⟨⟨by decide +kernel, by decide +kernel⟩, List.mem_of_getElem? (i := 150) (by decide +kernel), List.mem_of_getElem? (i := 448) (by decide +kernel), List.mem_of_getElem? (i := 449) (by decide +kernel)⟩
theorem lw_p18 : lw_okq (⟨"StageCount$SceneOrder", "firstBest", "(II)I"⟩, 5) := ⟨⟨by decide +kernel, by decide +kernel⟩, List.mem_of_getElem? (i := 150) (by decide +kernel), List.mem_of_getElem? (i := 452) (by decide +kernel), List.mem_of_getElem? (i := 453) (by decide +kernel)⟩
theorem lw_p19 : lw_okq (⟨"StageCount$Guess", "keep", "(LStageCount$Play;I)V"⟩, 3) := ⟨⟨by decide +kernel, by decide +kernel⟩, List.mem_of_getElem? (i := 174) (by decide +kernel), List.mem_of_getElem? (i := 482) (by decide +kernel), List.mem_of_getElem? (i := 483) (by decide +kernel)⟩
theorem lw_p20 : lw_okq (⟨"StageCountModel", "marks", "()I"⟩, 27) := ⟨⟨by decide +kernel, by decide +kernel⟩, List.mem_of_getElem? (i := 515) (by decide +kernel), List.mem_of_getElem? (i := 636) (by decide +kernel), List.mem_of_getElem? (i := 637) (by decide +kernel)⟩
theorem lw_p21 : lw_okq (⟨"StageCountModel", "layEvents", "()V"⟩, 27) := ⟨⟨by decide +kernel, by decide +kernel⟩, List.mem_of_getElem? (i := 515) (by decide +kernel), List.mem_of_getElem? (i := 640) (by decide +kernel), List.mem_of_getElem? (i := 641) (by decide +kernel)⟩
theorem lw_p22 : lw_okq (⟨"StageCountModel", "go", "()Z"⟩, 27) := ⟨⟨by decide +kernel, by decide +kernel⟩, List.mem_of_getElem? (i := 515) (by decide +kernel), List.mem_of_getElem? (i := 644) (by decide +kernel), List.mem_of_getElem? (i := 645) (by decide +kernel)⟩
theorem lw_p23 : lw_okq (⟨"StageCountModel", "breaking", "()I"⟩, 27) := ⟨⟨by decide +kernel, by decide +kernel⟩, List.mem_of_getElem? (i := 515) (by decide +kernel), List.mem_of_getElem? (i := 648) (by decide +kernel), List.mem_of_getElem? (i := 649) (by decide +kernel)⟩
theorem lw_p24 : lw_okq (⟨"StageCountModel", "holds", "(II)Z"⟩, 27) := ⟨⟨by decide +kernel, by decide +kernel⟩, List.mem_of_getElem? (i := 515) (by decide +kernel), List.mem_of_getElem? (i := 655) (by decide +kernel), List.mem_of_getElem? (i := 656) (by decide +kernel)⟩
theorem lw_p25 : lw_okq (⟨"StageCountModel", "refusal", "()I"⟩, 27) := ⟨⟨by decide +kernel, by decide +kernel⟩, List.mem_of_getElem? (i := 515) (by decide +kernel), List.mem_of_getElem? (i := 663) (by decide +kernel), List.mem_of_getElem? (i := 664) (by decide +kernel)⟩
theorem lw_p26 : lw_okq (⟨"StageCountModel", "linesOf", "(I)I"⟩, 27) := ⟨⟨by decide +kernel, by decide +kernel⟩, List.mem_of_getElem? (i := 515) (by decide +kernel), List.mem_of_getElem? (i := 673) (by decide +kernel), List.mem_of_getElem? (i := 674) (by decide +kernel)⟩
theorem lw_p27 : lw_okq (⟨"StageCountModel", "mayBe", "(I)Z"⟩, 27) := ⟨⟨by decide +kernel, by decide +kernel⟩, List.mem_of_getElem? (i := 515) (by decide +kernel), List.mem_of_getElem? (i := 688) (by decide +kernel), List.mem_of_getElem? (i := 689) (by decide +kernel)⟩
theorem lw_p28 : lw_okq (⟨"StageCountModel", "bar", "()I"⟩, 27) := ⟨⟨by decide +kernel, by decide +kernel⟩, List.mem_of_getElem? (i := 515) (by decide +kernel), List.mem_of_getElem? (i := 697) (by decide +kernel), List.mem_of_getElem? (i := 698) (by decide +kernel)⟩
theorem lw_p29 : lw_okq (⟨"StageCountModel", "mostStay", "()I"⟩, 27) := ⟨⟨by decide +kernel, by decide +kernel⟩, List.mem_of_getElem? (i := 515) (by decide +kernel), List.mem_of_getElem? (i := 705) (by decide +kernel), List.mem_of_getElem? (i := 706) (by decide +kernel)⟩
theorem lw_p30 : lw_okq (⟨"StageCountModel", "castAll", "()I"⟩, 27) := ⟨⟨by decide +kernel, by decide +kernel⟩, List.mem_of_getElem? (i := 515) (by decide +kernel), List.mem_of_getElem? (i := 714) (by decide +kernel), List.mem_of_getElem? (i := 715) (by decide +kernel)⟩
theorem lw_p31 : lw_okq (⟨"StageCountModel", "castWith", "(I)Z"⟩, 27) := ⟨⟨by decide +kernel, by decide +kernel⟩, List.mem_of_getElem? (i := 515) (by decide +kernel), List.mem_of_getElem? (i := 718) (by decide +kernel), List.mem_of_getElem? (i := 719) (by decide +kernel)⟩
def lw_privs_2 : List (MethodName × Nat) := [(⟨"StageCount$SceneOrder", "fewestBy", "(III)I"⟩, 5), (⟨"StageCount$SceneOrder", "fillRow", "()V"⟩, 5), (⟨"StageCount$SceneOrder", "firstBest", "(II)I"⟩, 5), (⟨"StageCount$Guess", "keep", "(LStageCount$Play;I)V"⟩, 3), (⟨"StageCountModel", "marks", "()I"⟩, 27), (⟨"StageCountModel", "layEvents", "()V"⟩, 27), (⟨"StageCountModel", "go", "()Z"⟩, 27), (⟨"StageCountModel", "breaking", "()I"⟩, 27), (⟨"StageCountModel", "holds", "(II)Z"⟩, 27), (⟨"StageCountModel", "refusal", "()I"⟩, 27), (⟨"StageCountModel", "linesOf", "(I)I"⟩, 27), (⟨"StageCountModel", "mayBe", "(I)Z"⟩, 27), (⟨"StageCountModel", "bar", "()I"⟩, 27), (⟨"StageCountModel", "mostStay", "()I"⟩, 27), (⟨"StageCountModel", "castAll", "()I"⟩, 27), (⟨"StageCountModel", "castWith", "(I)Z"⟩, 27)]
theorem lw_r2 : ∀ q ∈ lw_privs_2, lw_okq q := List.forall_mem_cons.mpr ⟨lw_p16, List.forall_mem_cons.mpr ⟨lw_p17, List.forall_mem_cons.mpr ⟨lw_p18, List.forall_mem_cons.mpr ⟨lw_p19, List.forall_mem_cons.mpr ⟨lw_p20, List.forall_mem_cons.mpr ⟨lw_p21, List.forall_mem_cons.mpr ⟨lw_p22, List.forall_mem_cons.mpr ⟨lw_p23, List.forall_mem_cons.mpr ⟨lw_p24, List.forall_mem_cons.mpr ⟨lw_p25, List.forall_mem_cons.mpr ⟨lw_p26, List.forall_mem_cons.mpr ⟨lw_p27, List.forall_mem_cons.mpr ⟨lw_p28, List.forall_mem_cons.mpr ⟨lw_p29, List.forall_mem_cons.mpr ⟨lw_p30, List.forall_mem_cons.mpr ⟨lw_p31, fun _ h => absurd h List.not_mem_nil⟩⟩⟩⟩⟩⟩⟩⟩⟩⟩⟩⟩⟩⟩⟩⟩
theorem lw_p32 : lw_okq (⟨"StageCountModel", "highest", "(I)I"⟩, 27) := ⟨⟨by decide +kernel, by decide +kernel⟩, List.mem_of_getElem? (i := 515) (by decide +kernel), List.mem_of_getElem? (i := 722) (by decide +kernel), List.mem_of_getElem? (i := 723) (by decide +kernel)⟩
theorem lw_p33 : lw_okq (⟨"StageCountModel", "canBe", "(I)Z"⟩, 27) := ⟨⟨by decide +kernel, by decide +kernel⟩, List.mem_of_getElem? (i := 515) (by decide +kernel), List.mem_of_getElem? (i := 726) (by decide +kernel), List.mem_of_getElem? (i := 727) (by decide +kernel)⟩
theorem lw_p34 : lw_okq (⟨"StageCountModel", "canBoth", "(III)Z"⟩, 27) := ⟨⟨by decide +kernel, by decide +kernel⟩, List.mem_of_getElem? (i := 515) (by decide +kernel), List.mem_of_getElem? (i := 730) (by decide +kernel), List.mem_of_getElem? (i := 731) (by decide +kernel)⟩
theorem lw_p35 : lw_okq (⟨"StageCountModel", "hasFrom", "(II)Z"⟩, 27) := ⟨⟨by decide +kernel, by decide +kernel⟩, List.mem_of_getElem? (i := 515) (by decide +kernel), List.mem_of_getElem? (i := 738) (by decide +kernel), List.mem_of_getElem? (i := 739) (by decide +kernel)⟩
theorem lw_p36 : lw_okq (⟨"StageCountModel", "isTaken", "(III)Z"⟩, 27) := ⟨⟨by decide +kernel, by decide +kernel⟩, List.mem_of_getElem? (i := 515) (by decide +kernel), List.mem_of_getElem? (i := 742) (by decide +kernel), List.mem_of_getElem? (i := 743) (by decide +kernel)⟩
theorem lw_p37 : lw_okq (⟨"StageCountModel", "layRow", "(I)Z"⟩, 27) := ⟨⟨by decide +kernel, by decide +kernel⟩, List.mem_of_getElem? (i := 515) (by decide +kernel), List.mem_of_getElem? (i := 759) (by decide +kernel), List.mem_of_getElem? (i := 760) (by decide +kernel)⟩
theorem lw_p38 : lw_okq (⟨"StageCountModel", "movesOfRow", "()I"⟩, 27) := ⟨⟨by decide +kernel, by decide +kernel⟩, List.mem_of_getElem? (i := 515) (by decide +kernel), List.mem_of_getElem? (i := 763) (by decide +kernel), List.mem_of_getElem? (i := 764) (by decide +kernel)⟩
theorem lw_p39 : lw_okq (⟨"StageCountModel", "ways", "()I"⟩, 27) := ⟨⟨by decide +kernel, by decide +kernel⟩, List.mem_of_getElem? (i := 515) (by decide +kernel), List.mem_of_getElem? (i := 780) (by decide +kernel), List.mem_of_getElem? (i := 781) (by decide +kernel)⟩
theorem lw_p40 : lw_okq (⟨"StageCountModel", "fills", "(I)Z"⟩, 27) := ⟨⟨by decide +kernel, by decide +kernel⟩, List.mem_of_getElem? (i := 515) (by decide +kernel), List.mem_of_getElem? (i := 784) (by decide +kernel), List.mem_of_getElem? (i := 785) (by decide +kernel)⟩
theorem lw_p41 : lw_okq (⟨"StageCountModel", "passAll", "()V"⟩, 27) := ⟨⟨by decide +kernel, by decide +kernel⟩, List.mem_of_getElem? (i := 515) (by decide +kernel), List.mem_of_getElem? (i := 805) (by decide +kernel), List.mem_of_getElem? (i := 806) (by decide +kernel)⟩
theorem lw_p42 : lw_okq (⟨"StageCountModel", "pass", "(I)I"⟩, 27) := ⟨⟨by decide +kernel, by decide +kernel⟩, List.mem_of_getElem? (i := 515) (by decide +kernel), List.mem_of_getElem? (i := 809) (by decide +kernel), List.mem_of_getElem? (i := 810) (by decide +kernel)⟩
def lw_privs_3 : List (MethodName × Nat) := [(⟨"StageCountModel", "highest", "(I)I"⟩, 27), (⟨"StageCountModel", "canBe", "(I)Z"⟩, 27), (⟨"StageCountModel", "canBoth", "(III)Z"⟩, 27), (⟨"StageCountModel", "hasFrom", "(II)Z"⟩, 27), (⟨"StageCountModel", "isTaken", "(III)Z"⟩, 27), (⟨"StageCountModel", "layRow", "(I)Z"⟩, 27), (⟨"StageCountModel", "movesOfRow", "()I"⟩, 27), (⟨"StageCountModel", "ways", "()I"⟩, 27), (⟨"StageCountModel", "fills", "(I)Z"⟩, 27), (⟨"StageCountModel", "passAll", "()V"⟩, 27), (⟨"StageCountModel", "pass", "(I)I"⟩, 27)]
theorem lw_r3 : ∀ q ∈ lw_privs_3, lw_okq q := List.forall_mem_cons.mpr ⟨lw_p32, List.forall_mem_cons.mpr ⟨lw_p33, List.forall_mem_cons.mpr ⟨lw_p34, List.forall_mem_cons.mpr ⟨lw_p35, List.forall_mem_cons.mpr ⟨lw_p36, List.forall_mem_cons.mpr ⟨lw_p37, List.forall_mem_cons.mpr ⟨lw_p38, List.forall_mem_cons.mpr ⟨lw_p39, List.forall_mem_cons.mpr ⟨lw_p40, List.forall_mem_cons.mpr ⟨lw_p41, List.forall_mem_cons.mpr ⟨lw_p42, fun _ h => absurd h List.not_mem_nil⟩⟩⟩⟩⟩⟩⟩⟩⟩⟩⟩
def lw_privs : List (MethodName × Nat) := lw_privs_1 ++ (lw_privs_2 ++ (lw_privs_3))
def lw_tbl : List Cond := k2_sels lw_privs ++ tables_1
theorem lw_privs_ok : ∀ q ∈ lw_privs, lw_okq q := by
  show ∀ q ∈ lw_privs_1 ++ (lw_privs_2 ++ (lw_privs_3)), lw_okq q
  exact List.forall_mem_append.mpr ⟨lw_r1, List.forall_mem_append.mpr ⟨lw_r2, lw_r3⟩⟩
-- ===== end of PART A; then your names; then what follows =====
end
section
theorem goodIn_r {big : List Cond} (ws : List Cond) (ps : List Nat) (hp : ws = ps.filterMap (fun i => big[i]?)) (h : ws.all goodWord = true) : GoodIn big ws := by
  intro w hw
  have h1 := List.all_eq_true.mp h w hw
  rw [hp] at hw
  obtain ⟨i, -, hi⟩ := List.mem_filterMap.mp hw
  have hm : w ∈ big := by first | exact List.mem_of_getElem? hi | exact List.getElem?_mem hi
  exact ⟨hm, good_of_word h1⟩
theorem goodIn_app {big a b : List Cond} (ha : GoodIn big a) (hb : GoodIn big b) : GoodIn big (a ++ b) := fun w h => (List.mem_append.mp h).elim (ha w) (hb w)
theorem goodIn_ca {big a b : List Cond} {c : Cond} (ha : GoodIn big (c :: a)) (hb : GoodIn big b) : GoodIn big (c :: (a ++ b)) := fun w h => (List.mem_cons.mp h).elim (fun e => ha w (List.mem_cons.mpr (Or.inl e))) (fun h => (List.mem_append.mp h).elim (fun h => ha w (List.mem_cons.mpr (Or.inr h))) (hb w))
theorem goodIn_sub {big ws : List Cond} (hm : ∀ w ∈ ws, w ∈ big) (h : ws.all goodWord = true) : GoodIn big ws := fun w hw => ⟨hm w hw, good_of_word (List.all_eq_true.mp h w hw)⟩
def RX0 : String := "StageCount$Cast"
def TX0 : u_T := fun k => match k with
  | 0 => ("StageCount$Cast", "players", "I", false)
  | 1 => ("StageCount$Cast", "playerOf", "[I", true)
  | 2 => ("StageCount$Cast", "change", "I", false)
  | 3 => ("StageCount$Cast", "linesOf", "[J", true)
  | _ => ("StageCount$Cast", "clashes", "[I", true)
def tyX0 : Nat → FieldType := fun k => match k with
  | 0 => .int
  | 1 => .array .int
  | 2 => .int
  | 3 => .array .long
  | _ => .array .int
abbrev wsX00 : List Cond := u_ws RX0 TX0 5
theorem nmX0 : ∀ a, a < 5 → ∀ b, b < 5 → a ≠ b → (TX0 a).2.1 ≠ (TX0 b).2.1 := by decide +kernel
theorem tyX0_ok : ∀ k, k < 5 → parseFieldDescriptor (TX0 k).2.2.1 = some (tyX0 k) := by decide +kernel
abbrev cX0_init : ByteArray := prog_2_method_1_code
def yX0_init : MethodName := ⟨RX0, "<init>", "()V"⟩
abbrev cX0_choose : ByteArray := prog_2_method_2_code
def yX0_choose : MethodName := ⟨RX0, "choose", "(LStageCount$Play;I)V"⟩
abbrev cX0_clashesOf : ByteArray := prog_2_method_3_code
def yX0_clashesOf : MethodName := ⟨RX0, "clashesOf", "(J)I"⟩
abbrev cX0_isCast : ByteArray := prog_2_method_4_code
def yX0_isCast : MethodName := ⟨RX0, "isCast", "(LStageCount$Cast;II)Z"⟩
abbrev cX0_partsOf : ByteArray := prog_2_method_5_code
def yX0_partsOf : MethodName := ⟨RX0, "partsOf", "(I)I"⟩
abbrev cX0_notTakenOver : ByteArray := prog_2_method_6_code
def yX0_notTakenOver : MethodName := ⟨RX0, "notTakenOver", "(II)I"⟩
abbrev cX0_canTakeOver : ByteArray := prog_2_method_7_code
def yX0_canTakeOver : MethodName := ⟨RX0, "canTakeOver", "(JI)Z"⟩
def RX1 : String := "StageCount$Guess"
def TX1 : u_T := fun k => match k with
  | 0 => ("StageCount$Guess", "ways", "I", false)
  | 1 => ("StageCount$Guess", "first", "I", false)
  | _ => ("StageCount$Guess", "who", "[I", true)
def tyX1 : Nat → FieldType := fun k => match k with
  | 0 => .int
  | 1 => .int
  | _ => .array .int
abbrev wsX10 : List Cond := u_ws RX1 TX1 3
theorem nmX1 : ∀ a, a < 3 → ∀ b, b < 3 → a ≠ b → (TX1 a).2.1 ≠ (TX1 b).2.1 := by decide +kernel
theorem tyX1_ok : ∀ k, k < 3 → parseFieldDescriptor (TX1 k).2.2.1 = some (tyX1 k) := by decide +kernel
abbrev cX1_init : ByteArray := prog_3_method_1_code
def yX1_init : MethodName := ⟨RX1, "<init>", "()V"⟩
abbrev cX1_tryAll : ByteArray := prog_3_method_2_code
def yX1_tryAll : MethodName := ⟨RX1, "tryAll", "(LStageCount$Play;LStageCount$Rules;)V"⟩
abbrev cX1_keep : ByteArray := prog_3_method_3_code
def yX1_keep : MethodName := ⟨RX1, "keep", "(LStageCount$Play;I)V"⟩
def RX2 : String := "StageCount$Play"
def TX2 : u_T := fun k => match k with
  | 0 => ("StageCount$Play", "signs", "[I", true)
  | 1 => ("StageCount$Play", "count", "I", false)
  | 2 => ("StageCount$Play", "faultAt", "I", false)
  | 3 => ("StageCount$Play", "asked", "I", false)
  | 4 => ("StageCount$Play", "comings", "I", false)
  | 5 => ("StageCount$Play", "lineCount", "I", false)
  | 6 => ("StageCount$Play", "manyAt", "[I", true)
  | 7 => ("StageCount$Play", "impossibleAt", "I", false)
  | 8 => ("StageCount$Play", "why", "I", false)
  | 9 => ("StageCount$Play", "met", "I", false)
  | _ => ("StageCount$Play", "onAt", "[I", true)
def tyX2 : Nat → FieldType := fun k => match k with
  | 0 => .array .int
  | 1 => .int
  | 2 => .int
  | 3 => .int
  | 4 => .int
  | 5 => .int
  | 6 => .array .int
  | 7 => .int
  | 8 => .int
  | 9 => .int
  | _ => .array .int
abbrev wsX20 : List Cond := u_ws RX2 TX2 11
theorem nmX2 : ∀ a, a < 11 → ∀ b, b < 11 → a ≠ b → (TX2 a).2.1 ≠ (TX2 b).2.1 := by decide +kernel
theorem tyX2_ok : ∀ k, k < 11 → parseFieldDescriptor (TX2 k).2.2.1 = some (tyX2 k) := by decide +kernel
abbrev cX2_init : ByteArray := prog_4_method_1_code
def yX2_init : MethodName := ⟨RX2, "<init>", "()V"⟩
abbrev cX2_add : ByteArray := prog_4_method_2_code
def yX2_add : MethodName := ⟨RX2, "add", "(I)I"⟩
abbrev cX2_isComing : ByteArray := prog_4_method_3_code
def yX2_isComing : MethodName := ⟨RX2, "isComing", "(I)Z"⟩
abbrev cX2_isGoing : ByteArray := prog_4_method_4_code
def yX2_isGoing : MethodName := ⟨RX2, "isGoing", "(I)Z"⟩
abbrev cX2_survey : ByteArray := prog_4_method_5_code
def yX2_survey : MethodName := ⟨RX2, "survey", "()V"⟩
abbrev cX2_guessed : ByteArray := prog_4_method_6_code
def yX2_guessed : MethodName := ⟨RX2, "guessed", "(II)I"⟩
abbrev cX2_perform : ByteArray := prog_4_method_7_code
def yX2_perform : MethodName := ⟨RX2, "perform", "(I)V"⟩
abbrev cX2_comer : ByteArray := prog_4_method_8_code
def yX2_comer : MethodName := ⟨RX2, "comer", "(II)I"⟩
abbrev cX2_refuseUnless : ByteArray := prog_4_method_9_code
def yX2_refuseUnless : MethodName := ⟨RX2, "refuseUnless", "(ZII)V"⟩
abbrev cX2_linesOf : ByteArray := prog_4_method_10_code
def yX2_linesOf : MethodName := ⟨RX2, "linesOf", "(I)J"⟩
def RX3 : String := "StageCount$Rules"
def TX3 : u_T := fun k => match k with
  | 0 => ("StageCount$Rules", "law", "I", false)
  | 1 => ("StageCount$Rules", "k", "I", false)
  | 2 => ("StageCount$Rules", "change", "I", false)
  | 3 => ("StageCount$Rules", "scenes", "I", false)
  | 4 => ("StageCount$Rules", "sights", "I", false)
  | 5 => ("StageCount$Rules", "apart", "[I", true)
  | 6 => ("StageCount$Rules", "together", "[I", true)
  | 7 => ("StageCount$Rules", "sceneOn", "[I", true)
  | 8 => ("StageCount$Rules", "sightLine", "[I", true)
  | _ => ("StageCount$Rules", "sightMany", "[I", true)
def tyX3 : Nat → FieldType := fun k => match k with
  | 0 => .int
  | 1 => .int
  | 2 => .int
  | 3 => .int
  | 4 => .int
  | 5 => .array .int
  | 6 => .array .int
  | 7 => .array .int
  | 8 => .array .int
  | _ => .array .int
abbrev wsX30 : List Cond := u_ws RX3 TX3 10
theorem nmX3 : ∀ a, a < 10 → ∀ b, b < 10 → a ≠ b → (TX3 a).2.1 ≠ (TX3 b).2.1 := by decide +kernel
theorem tyX3_ok : ∀ k, k < 10 → parseFieldDescriptor (TX3 k).2.2.1 = some (tyX3 k) := by decide +kernel
abbrev cX3_init : ByteArray := prog_5_method_1_code
def yX3_init : MethodName := ⟨RX3, "<init>", "()V"⟩
abbrev cX3_become : ByteArray := prog_5_method_2_code
def yX3_become : MethodName := ⟨RX3, "become", "(LStageCount$Rules;)V"⟩
abbrev cX3_holds : ByteArray := prog_5_method_3_code
def yX3_holds : MethodName := ⟨RX3, "holds", "(II)Z"⟩
abbrev cX3_firstAgainstLaw : ByteArray := prog_5_method_4_code
def yX3_firstAgainstLaw : MethodName := ⟨RX3, "firstAgainstLaw", "(LStageCount$Play;)I"⟩
abbrev cX3_setTogether : ByteArray := prog_5_method_5_code
def yX3_setTogether : MethodName := ⟨RX3, "setTogether", "(III)I"⟩
abbrev cX3_setPair : ByteArray := prog_5_method_6_code
def yX3_setPair : MethodName := ⟨RX3, "setPair", "([IIIZ)V"⟩
abbrev cX3_firstAgainstMay : ByteArray := prog_5_method_7_code
def yX3_firstAgainstMay : MethodName := ⟨RX3, "firstAgainstMay", "(LStageCount$Play;)I"⟩
abbrev cX3_breaksMay : ByteArray := prog_5_method_8_code
def yX3_breaksMay : MethodName := ⟨RX3, "breaksMay", "(I)Z"⟩
abbrev cX3_addScene : ByteArray := prog_5_method_9_code
def yX3_addScene : MethodName := ⟨RX3, "addScene", "(I)I"⟩
abbrev cX3_addSight : ByteArray := prog_5_method_10_code
def yX3_addSight : MethodName := ⟨RX3, "addSight", "(II)I"⟩
abbrev cX3_sightsHold : ByteArray := prog_5_method_11_code
def yX3_sightsHold : MethodName := ⟨RX3, "sightsHold", "(LStageCount$Play;)Z"⟩
def RX4 : String := "StageCount$SceneOrder"
def TX4 : u_T := fun k => match k with
  | 0 => ("StageCount$SceneOrder", "fewest", "I", false)
  | 1 => ("StageCount$SceneOrder", "row", "[I", true)
  | 2 => ("StageCount$SceneOrder", "scenes", "I", false)
  | 3 => ("StageCount$SceneOrder", "sceneOn", "[I", true)
  | _ => ("StageCount$SceneOrder", "behind", "[I", true)
def tyX4 : Nat → FieldType := fun k => match k with
  | 0 => .int
  | 1 => .array .int
  | 2 => .int
  | 3 => .array .int
  | _ => .array .int
abbrev wsX40 : List Cond := u_ws RX4 TX4 5
theorem nmX4 : ∀ a, a < 5 → ∀ b, b < 5 → a ≠ b → (TX4 a).2.1 ≠ (TX4 b).2.1 := by decide +kernel
theorem tyX4_ok : ∀ k, k < 5 → parseFieldDescriptor (TX4 k).2.2.1 = some (tyX4 k) := by decide +kernel
abbrev cX4_init : ByteArray := prog_6_method_1_code
def yX4_init : MethodName := ⟨RX4, "<init>", "()V"⟩
abbrev cX4_choose : ByteArray := prog_6_method_2_code
def yX4_choose : MethodName := ⟨RX4, "choose", "(LStageCount$Rules;)V"⟩
abbrev cX4_fewestBy : ByteArray := prog_6_method_3_code
def yX4_fewestBy : MethodName := ⟨RX4, "fewestBy", "(III)I"⟩
abbrev cX4_fewestFrom : ByteArray := prog_6_method_4_code
def yX4_fewestFrom : MethodName := ⟨RX4, "fewestFrom", "(II)I"⟩
abbrev cX4_fillRow : ByteArray := prog_6_method_5_code
def yX4_fillRow : MethodName := ⟨RX4, "fillRow", "()V"⟩
abbrev cX4_firstBest : ByteArray := prog_6_method_6_code
def yX4_firstBest : MethodName := ⟨RX4, "firstBest", "(II)I"⟩
def RX5 : String := "StageCount"
def TX5 : u_T := fun k => match k with
  | 0 => ("StageCount", "rules", "LStageCount$Rules;", true)
  | 1 => ("StageCount", "images", "[LStageCount$Rules;", true)
  | 2 => ("StageCount", "kept", "[Z", true)
  | 3 => ("StageCount", "play", "LStageCount$Play;", true)
  | 4 => ("StageCount", "company", "LStageCount$Cast;", true)
  | 5 => ("StageCount", "sceneOrder", "LStageCount$SceneOrder;", true)
  | 6 => ("StageCount", "guess", "LStageCount$Guess;", true)
  | _ => ("StageCount", "staying", "[I", true)
def tyX5 : Nat → FieldType := fun k => match k with
  | 0 => .object "StageCount$Rules"
  | 1 => .array (.object "StageCount$Rules")
  | 2 => .array .boolean
  | 3 => .object "StageCount$Play"
  | 4 => .object "StageCount$Cast"
  | 5 => .object "StageCount$SceneOrder"
  | 6 => .object "StageCount$Guess"
  | _ => .array .int
abbrev wsX50 : List Cond := u_ws RX5 TX5 8
theorem nmX5 : ∀ a, a < 8 → ∀ b, b < 8 → a ≠ b → (TX5 a).2.1 ≠ (TX5 b).2.1 := by decide +kernel
theorem tyX5_ok : ∀ k, k < 8 → parseFieldDescriptor (TX5 k).2.2.1 = some (tyX5 k) := by decide +kernel
abbrev cX5_init : ByteArray := prog_1_method_1_code
def yX5_init : MethodName := ⟨RX5, "<init>", "()V"⟩
abbrev cX5_set : ByteArray := prog_1_method_2_code
def yX5_set : MethodName := ⟨RX5, "set", "(II)I"⟩
abbrev cX5_say : ByteArray := prog_1_method_3_code
def yX5_say : MethodName := ⟨RX5, "say", "(I)I"⟩
abbrev cX5_wipe : ByteArray := prog_1_method_4_code
def yX5_wipe : MethodName := ⟨RX5, "wipe", "()I"⟩
abbrev cX5_fault : ByteArray := prog_1_method_5_code
def yX5_fault : MethodName := ⟨RX5, "fault", "()I"⟩
abbrev cX5_judge : ByteArray := prog_1_method_6_code
def yX5_judge : MethodName := ⟨RX5, "judge", "(I)I"⟩
abbrev cX5_on : ByteArray := prog_1_method_7_code
def yX5_on : MethodName := ⟨RX5, "on", "(I)I"⟩
abbrev cX5_lines : ByteArray := prog_1_method_8_code
def yX5_lines : MethodName := ⟨RX5, "lines", "(I)I"⟩
abbrev cX5_may : ByteArray := prog_1_method_9_code
def yX5_may : MethodName := ⟨RX5, "may", "(III)I"⟩
abbrev cX5_broken : ByteArray := prog_1_method_10_code
def yX5_broken : MethodName := ⟨RX5, "broken", "()I"⟩
abbrev cX5_strangers : ByteArray := prog_1_method_11_code
def yX5_strangers : MethodName := ⟨RX5, "strangers", "(I)I"⟩
abbrev cX5_cuts : ByteArray := prog_1_method_12_code
def yX5_cuts : MethodName := ⟨RX5, "cuts", "()I"⟩
abbrev cX5_cast : ByteArray := prog_1_method_13_code
def yX5_cast : MethodName := ⟨RX5, "cast", "(I)I"⟩
abbrev cX5_ill : ByteArray := prog_1_method_14_code
def yX5_ill : MethodName := ⟨RX5, "ill", "(II)I"⟩
abbrev cX5_scene : ByteArray := prog_1_method_15_code
def yX5_scene : MethodName := ⟨RX5, "scene", "(I)I"⟩
abbrev cX5_strike : ByteArray := prog_1_method_16_code
def yX5_strike : MethodName := ⟨RX5, "strike", "()I"⟩
abbrev cX5_order : ByteArray := prog_1_method_17_code
def yX5_order : MethodName := ⟨RX5, "order", "(I)I"⟩
abbrev cX5_seen : ByteArray := prog_1_method_18_code
def yX5_seen : MethodName := ⟨RX5, "seen", "(II)I"⟩
abbrev cX5_forget : ByteArray := prog_1_method_19_code
def yX5_forget : MethodName := ⟨RX5, "forget", "()I"⟩
abbrev cX5_fits : ByteArray := prog_1_method_20_code
def yX5_fits : MethodName := ⟨RX5, "fits", "(I)I"⟩
abbrev cX5_could : ByteArray := prog_1_method_21_code
def yX5_could : MethodName := ⟨RX5, "could", "(I)I"⟩
abbrev cX5_evening : ByteArray := prog_1_method_22_code
def yX5_evening : MethodName := ⟨RX5, "evening", "(III)I"⟩
abbrev cX5_image : ByteArray := prog_1_method_23_code
def yX5_image : MethodName := ⟨RX5, "image", "(I)I"⟩
abbrev cX5_restore : ByteArray := prog_1_method_24_code
def yX5_restore : MethodName := ⟨RX5, "restore", "(I)I"⟩
abbrev cX5_told : ByteArray := prog_1_method_25_code
def yX5_told : MethodName := ⟨RX5, "told", "(I)I"⟩
abbrev cX5_isWithin : ByteArray := prog_1_method_26_code
def yX5_isWithin : MethodName := ⟨RX5, "isWithin", "(II)Z"⟩
abbrev cX5_isPart : ByteArray := prog_1_method_27_code
def yX5_isPart : MethodName := ⟨RX5, "isPart", "(I)Z"⟩
abbrev cX5_isLine : ByteArray := prog_1_method_28_code
def yX5_isLine : MethodName := ⟨RX5, "isLine", "(I)Z"⟩
abbrev cX5_refusalOfEvents : ByteArray := prog_1_method_29_code
def yX5_refusalOfEvents : MethodName := ⟨RX5, "refusalOfEvents", "()I"⟩
abbrev cX5_refusalOfLines : ByteArray := prog_1_method_30_code
def yX5_refusalOfLines : MethodName := ⟨RX5, "refusalOfLines", "()I"⟩
abbrev cX5_strangersAt : ByteArray := prog_1_method_31_code
def yX5_strangersAt : MethodName := ⟨RX5, "strangersAt", "(I)I"⟩
abbrev cX5_bar : ByteArray := prog_1_method_32_code
def yX5_bar : MethodName := ⟨RX5, "bar", "()I"⟩
abbrev cX5_strangersComings : ByteArray := prog_1_method_33_code
def yX5_strangersComings : MethodName := ⟨RX5, "strangersComings", "()I"⟩
abbrev cX5_mostStrangers : ByteArray := prog_1_method_34_code
def yX5_mostStrangers : MethodName := ⟨RX5, "mostStrangers", "()I"⟩
abbrev cX5_linesInLaw : ByteArray := prog_1_method_35_code
def yX5_linesInLaw : MethodName := ⟨RX5, "linesInLaw", "()I"⟩
abbrev cX5_longestRising : ByteArray := prog_1_method_36_code
def yX5_longestRising : MethodName := ⟨RX5, "longestRising", "()I"⟩
def RX6 : String := "StageCountModel"
def TX6 : u_T := fun k => match k with
  | 0 => ("StageCountModel", "law", "I", false)
  | 1 => ("StageCountModel", "just", "I", false)
  | 2 => ("StageCountModel", "change", "I", false)
  | 3 => ("StageCountModel", "may", "[I", true)
  | 4 => ("StageCountModel", "scene", "[I", true)
  | 5 => ("StageCountModel", "scenes", "I", false)
  | 6 => ("StageCountModel", "sightLine", "[I", true)
  | 7 => ("StageCountModel", "sightMany", "[I", true)
  | 8 => ("StageCountModel", "sights", "I", false)
  | 9 => ("StageCountModel", "pad", "[I", true)
  | 10 => ("StageCountModel", "padMany", "I", false)
  | 11 => ("StageCountModel", "event", "[I", true)
  | 12 => ("StageCountModel", "on", "[I", true)
  | 13 => ("StageCountModel", "lines", "I", false)
  | 14 => ("StageCountModel", "comings", "I", false)
  | 15 => ("StageCountModel", "badEvent", "I", false)
  | 16 => ("StageCountModel", "badWhy", "I", false)
  | 17 => ("StageCountModel", "stay", "[I", true)
  | 18 => ("StageCountModel", "player", "[I", true)
  | 19 => ("StageCountModel", "bestPlayer", "[I", true)
  | 20 => ("StageCountModel", "row", "[I", true)
  | 21 => ("StageCountModel", "bestRow", "[I", true)
  | 22 => ("StageCountModel", "filler", "[I", true)
  | 23 => ("StageCountModel", "kept", "[I", true)
  | 24 => ("StageCountModel", "isKept", "[Z", true)
  | 25 => ("StageCountModel", "keptAt", "I", false)
  | _ => ("StageCountModel", "isWriting", "Z", false)
def tyX6 : Nat → FieldType := fun k => match k with
  | 0 => .int
  | 1 => .int
  | 2 => .int
  | 3 => .array .int
  | 4 => .array .int
  | 5 => .int
  | 6 => .array .int
  | 7 => .array .int
  | 8 => .int
  | 9 => .array .int
  | 10 => .int
  | 11 => .array .int
  | 12 => .array .int
  | 13 => .int
  | 14 => .int
  | 15 => .int
  | 16 => .int
  | 17 => .array .int
  | 18 => .array .int
  | 19 => .array .int
  | 20 => .array .int
  | 21 => .array .int
  | 22 => .array .int
  | 23 => .array .int
  | 24 => .array .boolean
  | 25 => .int
  | _ => .boolean
abbrev wsX60 : List Cond := u_ws RX6 TX6 27
theorem nmX6 : ∀ a, a < 27 → ∀ b, b < 27 → a ≠ b → (TX6 a).2.1 ≠ (TX6 b).2.1 := by decide +kernel
theorem tyX6_ok : ∀ k, k < 27 → parseFieldDescriptor (TX6 k).2.2.1 = some (tyX6 k) := by decide +kernel
abbrev cX6_init : ByteArray := prog_8_method_1_code
def yX6_init : MethodName := ⟨RX6, "<init>", "()V"⟩
abbrev cX6_in : ByteArray := prog_8_method_3_code
def yX6_in : MethodName := ⟨RX6, "in", "(JJJ)Z"⟩
abbrev cX6_ones : ByteArray := prog_8_method_4_code
def yX6_ones : MethodName := ⟨RX6, "ones", "(I)I"⟩
abbrev cX6_isPart : ByteArray := prog_8_method_5_code
def yX6_isPart : MethodName := ⟨RX6, "isPart", "(I)Z"⟩
abbrev cX6_set : ByteArray := prog_8_method_6_code
def yX6_set : MethodName := ⟨RX6, "set", "(II)I"⟩
abbrev cX6_say : ByteArray := prog_8_method_7_code
def yX6_say : MethodName := ⟨RX6, "say", "(I)I"⟩
abbrev cX6_wipe : ByteArray := prog_8_method_8_code
def yX6_wipe : MethodName := ⟨RX6, "wipe", "()I"⟩
abbrev cX6_marks : ByteArray := prog_8_method_9_code
def yX6_marks : MethodName := ⟨RX6, "marks", "()I"⟩
abbrev cX6_fault : ByteArray := prog_8_method_10_code
def yX6_fault : MethodName := ⟨RX6, "fault", "()I"⟩
abbrev cX6_layEvents : ByteArray := prog_8_method_11_code
def yX6_layEvents : MethodName := ⟨RX6, "layEvents", "()V"⟩
abbrev cX6_go : ByteArray := prog_8_method_12_code
def yX6_go : MethodName := ⟨RX6, "go", "()Z"⟩
abbrev cX6_refusal : ByteArray := prog_8_method_13_code
def yX6_refusal : MethodName := ⟨RX6, "refusal", "()I"⟩
abbrev cX6_holds : ByteArray := prog_8_method_14_code
def yX6_holds : MethodName := ⟨RX6, "holds", "(II)Z"⟩
abbrev cX6_breaking : ByteArray := prog_8_method_15_code
def yX6_breaking : MethodName := ⟨RX6, "breaking", "()I"⟩
abbrev cX6_judge : ByteArray := prog_8_method_16_code
def yX6_judge : MethodName := ⟨RX6, "judge", "(I)I"⟩
abbrev cX6_on : ByteArray := prog_8_method_17_code
def yX6_on : MethodName := ⟨RX6, "on", "(I)I"⟩
abbrev cX6_linesOf : ByteArray := prog_8_method_18_code
def yX6_linesOf : MethodName := ⟨RX6, "linesOf", "(I)I"⟩
abbrev cX6_lines : ByteArray := prog_8_method_19_code
def yX6_lines : MethodName := ⟨RX6, "lines", "(I)I"⟩
abbrev cX6_may : ByteArray := prog_8_method_20_code
def yX6_may : MethodName := ⟨RX6, "may", "(III)I"⟩
abbrev cX6_mayBe : ByteArray := prog_8_method_21_code
def yX6_mayBe : MethodName := ⟨RX6, "mayBe", "(I)Z"⟩
abbrev cX6_broken : ByteArray := prog_8_method_22_code
def yX6_broken : MethodName := ⟨RX6, "broken", "()I"⟩
abbrev cX6_bar : ByteArray := prog_8_method_23_code
def yX6_bar : MethodName := ⟨RX6, "bar", "()I"⟩
abbrev cX6_strangers : ByteArray := prog_8_method_24_code
def yX6_strangers : MethodName := ⟨RX6, "strangers", "(I)I"⟩
abbrev cX6_mostStay : ByteArray := prog_8_method_25_code
def yX6_mostStay : MethodName := ⟨RX6, "mostStay", "()I"⟩
abbrev cX6_cuts : ByteArray := prog_8_method_26_code
def yX6_cuts : MethodName := ⟨RX6, "cuts", "()I"⟩
abbrev cX6_canBoth : ByteArray := prog_8_method_27_code
def yX6_canBoth : MethodName := ⟨RX6, "canBoth", "(III)Z"⟩
abbrev cX6_canBe : ByteArray := prog_8_method_28_code
def yX6_canBe : MethodName := ⟨RX6, "canBe", "(I)Z"⟩
abbrev cX6_highest : ByteArray := prog_8_method_29_code
def yX6_highest : MethodName := ⟨RX6, "highest", "(I)I"⟩
abbrev cX6_castWith : ByteArray := prog_8_method_30_code
def yX6_castWith : MethodName := ⟨RX6, "castWith", "(I)Z"⟩
abbrev cX6_castAll : ByteArray := prog_8_method_31_code
def yX6_castAll : MethodName := ⟨RX6, "castAll", "()I"⟩
abbrev cX6_cast : ByteArray := prog_8_method_32_code
def yX6_cast : MethodName := ⟨RX6, "cast", "(I)I"⟩
abbrev cX6_hasFrom : ByteArray := prog_8_method_33_code
def yX6_hasFrom : MethodName := ⟨RX6, "hasFrom", "(II)Z"⟩
abbrev cX6_isTaken : ByteArray := prog_8_method_34_code
def yX6_isTaken : MethodName := ⟨RX6, "isTaken", "(III)Z"⟩
abbrev cX6_ill : ByteArray := prog_8_method_35_code
def yX6_ill : MethodName := ⟨RX6, "ill", "(II)I"⟩
abbrev cX6_scene : ByteArray := prog_8_method_36_code
def yX6_scene : MethodName := ⟨RX6, "scene", "(I)I"⟩
abbrev cX6_strike : ByteArray := prog_8_method_37_code
def yX6_strike : MethodName := ⟨RX6, "strike", "()I"⟩
abbrev cX6_layRow : ByteArray := prog_8_method_38_code
def yX6_layRow : MethodName := ⟨RX6, "layRow", "(I)Z"⟩
abbrev cX6_movesOfRow : ByteArray := prog_8_method_39_code
def yX6_movesOfRow : MethodName := ⟨RX6, "movesOfRow", "()I"⟩
abbrev cX6_order : ByteArray := prog_8_method_40_code
def yX6_order : MethodName := ⟨RX6, "order", "(I)I"⟩
abbrev cX6_seen : ByteArray := prog_8_method_41_code
def yX6_seen : MethodName := ⟨RX6, "seen", "(II)I"⟩
abbrev cX6_forget : ByteArray := prog_8_method_42_code
def yX6_forget : MethodName := ⟨RX6, "forget", "()I"⟩
abbrev cX6_fills : ByteArray := prog_8_method_43_code
def yX6_fills : MethodName := ⟨RX6, "fills", "(I)Z"⟩
abbrev cX6_ways : ByteArray := prog_8_method_44_code
def yX6_ways : MethodName := ⟨RX6, "ways", "()I"⟩
abbrev cX6_fits : ByteArray := prog_8_method_45_code
def yX6_fits : MethodName := ⟨RX6, "fits", "(I)I"⟩
abbrev cX6_could : ByteArray := prog_8_method_46_code
def yX6_could : MethodName := ⟨RX6, "could", "(I)I"⟩
abbrev cX6_evening : ByteArray := prog_8_method_47_code
def yX6_evening : MethodName := ⟨RX6, "evening", "(III)I"⟩
abbrev cX6_pass : ByteArray := prog_8_method_48_code
def yX6_pass : MethodName := ⟨RX6, "pass", "(I)I"⟩
abbrev cX6_passAll : ByteArray := prog_8_method_49_code
def yX6_passAll : MethodName := ⟨RX6, "passAll", "()V"⟩
abbrev cX6_image : ByteArray := prog_8_method_50_code
def yX6_image : MethodName := ⟨RX6, "image", "(I)I"⟩
abbrev cX6_restore : ByteArray := prog_8_method_51_code
def yX6_restore : MethodName := ⟨RX6, "restore", "(I)I"⟩
abbrev cX6_told : ByteArray := prog_8_method_52_code
def yX6_told : MethodName := ⟨RX6, "told", "(I)I"⟩
def RJ6 : String := "java/lang/Integer"
def TJ6 : u_T := fun k => match k with
  | _ => ("", "", "", false)
def tyJ6 : Nat → FieldType := fun k => match k with
  | _ => .int
abbrev wsJ60 : List Cond := u_ws RJ6 TJ6 0
theorem nmJ6 : ∀ a, a < 0 → ∀ b, b < 0 → a ≠ b → (TJ6 a).2.1 ≠ (TJ6 b).2.1 := by decide +kernel
theorem tyJ6_ok : ∀ k, k < 0 → parseFieldDescriptor (TJ6 k).2.2.1 = some (tyJ6 k) := by decide +kernel
abbrev cJ6_bitCount_0f7a4 : ByteArray := prog_9_method_49_code
def yJ6_bitCount_0f7a4 : MethodName := ⟨RJ6, "bitCount", "(I)I"⟩
def RJ13 : String := "java/lang/Long"
def TJ13 : u_T := fun k => match k with
  | _ => ("", "", "", false)
def tyJ13 : Nat → FieldType := fun k => match k with
  | _ => .int
abbrev wsJ130 : List Cond := u_ws RJ13 TJ13 0
theorem nmJ13 : ∀ a, a < 0 → ∀ b, b < 0 → a ≠ b → (TJ13 a).2.1 ≠ (TJ13 b).2.1 := by decide +kernel
theorem tyJ13_ok : ∀ k, k < 0 → parseFieldDescriptor (TJ13 k).2.2.1 = some (tyJ13 k) := by decide +kernel
abbrev cJ13_bitCount_95d88 : ByteArray := prog_10_method_50_code
def yJ13_bitCount_95d88 : MethodName := ⟨RJ13, "bitCount", "(J)I"⟩
def RJ9 : String := "java/lang/Math"
def TJ9 : u_T := fun k => match k with
  | _ => ("", "", "", false)
def tyJ9 : Nat → FieldType := fun k => match k with
  | _ => .int
abbrev wsJ90 : List Cond := u_ws RJ9 TJ9 0
theorem nmJ9 : ∀ a, a < 0 → ∀ b, b < 0 → a ≠ b → (TJ9 a).2.1 ≠ (TJ9 b).2.1 := by decide +kernel
theorem tyJ9_ok : ∀ k, k < 0 → parseFieldDescriptor (TJ9 k).2.2.1 = some (tyJ9 k) := by decide +kernel
abbrev cJ9_max_7cf53 : ByteArray := prog_11_method_65_code
def yJ9_max_7cf53 : MethodName := ⟨RJ9, "max", "(II)I"⟩
abbrev cJ9_min_7cf53 : ByteArray := prog_11_method_69_code
def yJ9_min_7cf53 : MethodName := ⟨RJ9, "min", "(II)I"⟩
def RJ10 : String := "java/lang/System"
def TJ10 : u_T := fun k => match k with
  | _ => ("", "", "", false)
def tyJ10 : Nat → FieldType := fun k => match k with
  | _ => .int
abbrev wsJ100 : List Cond := u_ws RJ10 TJ10 0
theorem nmJ10 : ∀ a, a < 0 → ∀ b, b < 0 → a ≠ b → (TJ10 a).2.1 ≠ (TJ10 b).2.1 := by decide +kernel
theorem tyJ10_ok : ∀ k, k < 0 → parseFieldDescriptor (TJ10 k).2.2.1 = some (tyJ10 k) := by decide +kernel
def RJ7 : String := "java/util/Arrays"
def TJ7 : u_T := fun k => match k with
  | _ => ("", "", "", false)
def tyJ7 : Nat → FieldType := fun k => match k with
  | _ => .int
abbrev wsJ70 : List Cond := u_ws RJ7 TJ7 0
theorem nmJ7 : ∀ a, a < 0 → ∀ b, b < 0 → a ≠ b → (TJ7 a).2.1 ≠ (TJ7 b).2.1 := by decide +kernel
theorem tyJ7_ok : ∀ k, k < 0 → parseFieldDescriptor (TJ7 k).2.2.1 = some (tyJ7 k) := by decide +kernel
abbrev cJ7_fill_53178 : ByteArray := prog_13_method_103_code
def yJ7_fill_53178 : MethodName := ⟨RJ7, "fill", "([II)V"⟩
def RL : String := "StageCountLaw"
abbrev cL_law : ByteArray := code
def yL_law : MethodName := ⟨RL, "law", "([I)Z"⟩
abbrev vwCl : List vw_C := [(RX0, TX0, 5), (RX1, TX1, 3), (RX2, TX2, 11), (RX3, TX3, 10), (RX4, TX4, 5), (RX5, TX5, 8), (RX6, TX6, 27)]
end
section
def gT : List Cond := lw_tbl.filter goodWord
def isFN : Cond → Bool
  | .fieldLinkNest .. => true
  | _ => false
def gN : List Cond := lw_tbl.filter isFN
theorem tb_1 : ∀ w ∈ tables_1_1, w ∈ lw_tbl := fun _ h => List.mem_append_right _ (List.mem_append_left _ h)
theorem gt_1 {w : Cond} (i : Nat) (h : tables_1_1[i]? = some w) (hg : goodWord w = true) : w ∈ gT := List.mem_filter.mpr ⟨tb_1 _ (List.mem_of_getElem? h), hg⟩
theorem gn_1 {w : Cond} (i : Nat) (h : tables_1_1[i]? = some w) (hg : isFN w = true) : w ∈ gN := List.mem_filter.mpr ⟨tb_1 _ (List.mem_of_getElem? h), hg⟩
theorem tb_2 : ∀ w ∈ tables_1_2, w ∈ lw_tbl := fun _ h => List.mem_append_right _ (List.mem_append_right _ (List.mem_append_left _ h))
theorem gt_2 {w : Cond} (i : Nat) (h : tables_1_2[i]? = some w) (hg : goodWord w = true) : w ∈ gT := List.mem_filter.mpr ⟨tb_2 _ (List.mem_of_getElem? h), hg⟩
theorem gn_2 {w : Cond} (i : Nat) (h : tables_1_2[i]? = some w) (hg : isFN w = true) : w ∈ gN := List.mem_filter.mpr ⟨tb_2 _ (List.mem_of_getElem? h), hg⟩
theorem tb_3 : ∀ w ∈ tables_1_3, w ∈ lw_tbl := fun _ h => List.mem_append_right _ (List.mem_append_right _ (List.mem_append_right _ (List.mem_append_left _ h)))
theorem gt_3 {w : Cond} (i : Nat) (h : tables_1_3[i]? = some w) (hg : goodWord w = true) : w ∈ gT := List.mem_filter.mpr ⟨tb_3 _ (List.mem_of_getElem? h), hg⟩
theorem gn_3 {w : Cond} (i : Nat) (h : tables_1_3[i]? = some w) (hg : isFN w = true) : w ∈ gN := List.mem_filter.mpr ⟨tb_3 _ (List.mem_of_getElem? h), hg⟩
theorem tb_4 : ∀ w ∈ tables_1_4, w ∈ lw_tbl := fun _ h => List.mem_append_right _ (List.mem_append_right _ (List.mem_append_right _ (List.mem_append_right _ (h))))
theorem gt_4 {w : Cond} (i : Nat) (h : tables_1_4[i]? = some w) (hg : goodWord w = true) : w ∈ gT := List.mem_filter.mpr ⟨tb_4 _ (List.mem_of_getElem? h), hg⟩
theorem gn_4 {w : Cond} (i : Nat) (h : tables_1_4[i]? = some w) (hg : isFN w = true) : w ∈ gN := List.mem_filter.mpr ⟨tb_4 _ (List.mem_of_getElem? h), hg⟩
theorem gp_1 {q : MethodName × Nat} (i : Nat) (h : lw_privs_1[i]? = some q) : Cond.selects q.1.cls q.1 q.1 ∈ gT := by
  have h : q ∈ lw_privs_1 := List.mem_of_getElem? h
  have h2 : q ∈ lw_privs := List.mem_append_left _ h
  exact List.mem_filter.mpr ⟨List.mem_append_left _ (List.mem_map.mpr ⟨q, h2, rfl⟩), rfl⟩
theorem gp_2 {q : MethodName × Nat} (i : Nat) (h : lw_privs_2[i]? = some q) : Cond.selects q.1.cls q.1 q.1 ∈ gT := by
  have h : q ∈ lw_privs_2 := List.mem_of_getElem? h
  have h2 : q ∈ lw_privs := List.mem_append_right _ (List.mem_append_left _ h)
  exact List.mem_filter.mpr ⟨List.mem_append_left _ (List.mem_map.mpr ⟨q, h2, rfl⟩), rfl⟩
theorem gp_3 {q : MethodName × Nat} (i : Nat) (h : lw_privs_3[i]? = some q) : Cond.selects q.1.cls q.1 q.1 ∈ gT := by
  have h : q ∈ lw_privs_3 := List.mem_of_getElem? h
  have h2 : q ∈ lw_privs := List.mem_append_right _ (List.mem_append_right _ (h))
  exact List.mem_filter.mpr ⟨List.mem_append_left _ (List.mem_map.mpr ⟨q, h2, rfl⟩), rfl⟩
theorem in_L : Cond.initialized RL ∈ gT := gt_1 0 rfl rfl
theorem in_X5 : Cond.initialized RX5 ∈ gT := gt_1 1 rfl rfl
theorem in_X3 : Cond.initialized RX3 ∈ gT := gt_1 2 rfl rfl
theorem in_X2 : Cond.initialized RX2 ∈ gT := gt_1 3 rfl rfl
theorem in_X0 : Cond.initialized RX0 ∈ gT := gt_1 4 rfl rfl
theorem in_X4 : Cond.initialized RX4 ∈ gT := gt_1 5 rfl rfl
theorem in_X1 : Cond.initialized RX1 ∈ gT := gt_1 6 rfl rfl
theorem in_X6 : Cond.initialized RX6 ∈ gT := gt_1 7 rfl rfl
theorem in_J13 : Cond.initialized RJ13 ∈ gT := gt_1 8 rfl rfl
theorem in_J9 : Cond.initialized RJ9 ∈ gT := gt_1 9 rfl rfl
theorem in_J7 : Cond.initialized RJ7 ∈ gT := gt_1 10 rfl rfl
theorem in_J10 : Cond.initialized RJ10 ∈ gT := gt_1 11 rfl rfl
theorem in_J6 : Cond.initialized RJ6 ∈ gT := gt_1 12 rfl rfl
theorem cl_L_7 : Cond.classLink RL 7 RX5 ∈ gT := gt_1 13 rfl rfl
theorem is_X5 : Cond.instantiable RX5 8 ∈ gT := gt_1 14 rfl rfl
theorem ml_L_9 : Cond.methodLink RL 9 yX5_init ∈ gT := gt_1 15 rfl rfl
theorem im_X5_init : Cond.instanceMethod yX5_init ∈ gT := gt_1 16 rfl rfl
theorem cd_X5_init : Cond.code yX5_init cX5_init 2 none ∈ gT := gt_1 17 rfl rfl
theorem ml_X5_1 : Cond.methodLink RX5 1 objectInit ∈ gT := gt_1 18 rfl rfl
theorem im_objectInit : Cond.instanceMethod objectInit ∈ gT := gt_1 19 rfl rfl
theorem cd_objectInit : Cond.code objectInit ⟨#[0xb1]⟩ 1 none ∈ gT := gt_1 20 rfl rfl
theorem cl_X5_7 : Cond.classLink RX5 7 RX3 ∈ gT := gt_1 21 rfl rfl
theorem is_X3 : Cond.instantiable RX3 10 ∈ gT := gt_1 22 rfl rfl
theorem ml_X5_9 : Cond.methodLink RX5 9 yX3_init ∈ gT := gt_1 23 rfl rfl
theorem im_X3_init : Cond.instanceMethod yX3_init ∈ gT := gt_1 24 rfl rfl
theorem cd_X3_init : Cond.code yX3_init cX3_init 1 none ∈ gT := gt_1 25 rfl rfl
theorem ml_X3_3 : Cond.methodLink RX3 3 objectInit ∈ gT := gt_1 26 rfl rfl
theorem fl_X3_9 : Cond.fieldLink RX3 9 "StageCount$Rules" "law" "I" ∈ gT := gt_1 27 rfl rfl
theorem fn_X5_60 : Cond.fieldLinkNest RX5 60 "StageCount$Rules" "law" "I" "StageCount" ∈ gN := gn_1 28 rfl rfl
theorem fl_X3_15 : Cond.fieldLink RX3 15 "StageCount$Rules" "k" "I" ∈ gT := gt_1 29 rfl rfl
theorem fn_X5_64 : Cond.fieldLinkNest RX5 64 "StageCount$Rules" "k" "I" "StageCount" ∈ gN := gn_1 30 rfl rfl
theorem fl_X3_34 : Cond.fieldLink RX3 34 "StageCount$Rules" "change" "I" ∈ gT := gt_1 31 rfl rfl
theorem fn_X5_67 : Cond.fieldLinkNest RX5 67 "StageCount$Rules" "change" "I" "StageCount" ∈ gN := gn_1 32 rfl rfl
theorem fn_X4_21 : Cond.fieldLinkNest RX4 21 "StageCount$Rules" "scenes" "I" "StageCount" ∈ gN := gn_1 33 rfl rfl
theorem fl_X3_37 : Cond.fieldLink RX3 37 "StageCount$Rules" "scenes" "I" ∈ gT := gt_1 34 rfl rfl
theorem fn_X5_168 : Cond.fieldLinkNest RX5 168 "StageCount$Rules" "scenes" "I" "StageCount" ∈ gN := gn_1 35 rfl rfl
theorem fl_X3_40 : Cond.fieldLink RX3 40 "StageCount$Rules" "sights" "I" ∈ gT := gt_1 36 rfl rfl
theorem fn_X5_183 : Cond.fieldLinkNest RX5 183 "StageCount$Rules" "sights" "I" "StageCount" ∈ gN := gn_1 37 rfl rfl
theorem fl_X3_18 : Cond.fieldLink RX3 18 "StageCount$Rules" "apart" "[I" ∈ gT := gt_1 38 rfl rfl
theorem fl_X3_22 : Cond.fieldLink RX3 22 "StageCount$Rules" "together" "[I" ∈ gT := gt_1 39 rfl rfl
theorem fl_X3_25 : Cond.fieldLink RX3 25 "StageCount$Rules" "sceneOn" "[I" ∈ gT := gt_1 40 rfl rfl
theorem fn_X4_28 : Cond.fieldLinkNest RX4 28 "StageCount$Rules" "sceneOn" "[I" "StageCount" ∈ gN := gn_1 41 rfl rfl
theorem fn_X5_221 : Cond.fieldLinkNest RX5 221 "StageCount$Rules" "sceneOn" "[I" "StageCount" ∈ gN := gn_1 42 rfl rfl
theorem fl_X3_28 : Cond.fieldLink RX3 28 "StageCount$Rules" "sightLine" "[I" ∈ gT := gt_1 43 rfl rfl
theorem fl_X3_31 : Cond.fieldLink RX3 31 "StageCount$Rules" "sightMany" "[I" ∈ gT := gt_1 44 rfl rfl
theorem cl_X5_24 : Cond.classLink RX5 24 RX2 ∈ gT := gt_1 68 rfl rfl
theorem is_X2 : Cond.instantiable RX2 11 ∈ gT := gt_1 69 rfl rfl
theorem ml_X5_26 : Cond.methodLink RX5 26 yX2_init ∈ gT := gt_1 70 rfl rfl
theorem im_X2_init : Cond.instanceMethod yX2_init ∈ gT := gt_1 71 rfl rfl
theorem cd_X2_init : Cond.code yX2_init cX2_init 1 none ∈ gT := gt_1 72 rfl rfl
theorem ml_X2_3 : Cond.methodLink RX2 3 objectInit ∈ gT := gt_1 73 rfl rfl
theorem fl_X2_9 : Cond.fieldLink RX2 9 "StageCount$Play" "signs" "[I" ∈ gT := gt_1 74 rfl rfl
theorem fl_X2_21 : Cond.fieldLink RX2 21 "StageCount$Play" "count" "I" ∈ gT := gt_1 75 rfl rfl
theorem fn_X5_74 : Cond.fieldLinkNest RX5 74 "StageCount$Play" "count" "I" "StageCount" ∈ gN := gn_1 76 rfl rfl
theorem fl_X2_25 : Cond.fieldLink RX2 25 "StageCount$Play" "faultAt" "I" ∈ gT := gt_1 77 rfl rfl
theorem fn_X5_80 : Cond.fieldLinkNest RX5 80 "StageCount$Play" "faultAt" "I" "StageCount" ∈ gN := gn_1 78 rfl rfl
theorem fn_X1_34 : Cond.fieldLinkNest RX1 34 "StageCount$Play" "asked" "I" "StageCount" ∈ gN := gn_1 79 rfl rfl
theorem fl_X2_28 : Cond.fieldLink RX2 28 "StageCount$Play" "asked" "I" ∈ gT := gt_1 80 rfl rfl
theorem fn_X5_186 : Cond.fieldLinkNest RX5 186 "StageCount$Play" "asked" "I" "StageCount" ∈ gN := gn_1 81 rfl rfl
theorem fl_X2_31 : Cond.fieldLink RX2 31 "StageCount$Play" "comings" "I" ∈ gT := gt_1 82 rfl rfl
theorem fn_X5_107 : Cond.fieldLinkNest RX5 107 "StageCount$Play" "comings" "I" "StageCount" ∈ gN := gn_1 83 rfl rfl
theorem fn_X3_49 : Cond.fieldLinkNest RX3 49 "StageCount$Play" "lineCount" "I" "StageCount" ∈ gN := gn_1 84 rfl rfl
theorem fl_X2_34 : Cond.fieldLink RX2 34 "StageCount$Play" "lineCount" "I" ∈ gT := gt_1 85 rfl rfl
theorem fn_X5_110 : Cond.fieldLinkNest RX5 110 "StageCount$Play" "lineCount" "I" "StageCount" ∈ gN := gn_1 86 rfl rfl
theorem fl_X2_15 : Cond.fieldLink RX2 15 "StageCount$Play" "manyAt" "[I" ∈ gT := gt_1 87 rfl rfl
theorem fn_X3_54 : Cond.fieldLinkNest RX3 54 "StageCount$Play" "manyAt" "[I" "StageCount" ∈ gN := gn_1 88 rfl rfl
theorem fn_X5_228 : Cond.fieldLinkNest RX5 228 "StageCount$Play" "manyAt" "[I" "StageCount" ∈ gN := gn_1 89 rfl rfl
theorem fn_X1_43 : Cond.fieldLinkNest RX1 43 "StageCount$Play" "impossibleAt" "I" "StageCount" ∈ gN := gn_1 90 rfl rfl
theorem fn_X5_90 : Cond.fieldLinkNest RX5 90 "StageCount$Play" "impossibleAt" "I" "StageCount" ∈ gN := gn_1 91 rfl rfl
theorem fl_X2_44 : Cond.fieldLink RX2 44 "StageCount$Play" "impossibleAt" "I" ∈ gT := gt_1 92 rfl rfl
theorem fn_X5_93 : Cond.fieldLinkNest RX5 93 "StageCount$Play" "why" "I" "StageCount" ∈ gN := gn_1 93 rfl rfl
theorem fl_X2_47 : Cond.fieldLink RX2 47 "StageCount$Play" "why" "I" ∈ gT := gt_1 94 rfl rfl
theorem fn_X1_50 : Cond.fieldLinkNest RX1 50 "StageCount$Play" "met" "I" "StageCount" ∈ gN := gn_1 95 rfl rfl
theorem fl_X2_50 : Cond.fieldLink RX2 50 "StageCount$Play" "met" "I" ∈ gT := gt_1 96 rfl rfl
theorem fl_X2_18 : Cond.fieldLink RX2 18 "StageCount$Play" "onAt" "[I" ∈ gT := gt_1 97 rfl rfl
theorem fn_X3_65 : Cond.fieldLinkNest RX3 65 "StageCount$Play" "onAt" "[I" "StageCount" ∈ gN := gn_1 98 rfl rfl
theorem fn_X5_104 : Cond.fieldLinkNest RX5 104 "StageCount$Play" "onAt" "[I" "StageCount" ∈ gN := gn_1 99 rfl rfl
theorem cl_X5_31 : Cond.classLink RX5 31 RX0 ∈ gT := gt_1 124 rfl rfl
theorem is_X0 : Cond.instantiable RX0 5 ∈ gT := gt_1 125 rfl rfl
theorem ml_X5_33 : Cond.methodLink RX5 33 yX0_init ∈ gT := gt_1 126 rfl rfl
theorem im_X0_init : Cond.instanceMethod yX0_init ∈ gT := gt_1 127 rfl rfl
theorem cd_X0_init : Cond.code yX0_init cX0_init 1 none ∈ gT := gt_1 128 rfl rfl
theorem ml_X0_3 : Cond.methodLink RX0 3 objectInit ∈ gT := gt_1 129 rfl rfl
theorem fl_X0_35 : Cond.fieldLink RX0 35 "StageCount$Cast" "players" "I" ∈ gT := gt_1 130 rfl rfl
theorem fn_X5_155 : Cond.fieldLinkNest RX5 155 "StageCount$Cast" "players" "I" "StageCount" ∈ gN := gn_1 131 rfl rfl
theorem fl_X0_9 : Cond.fieldLink RX0 9 "StageCount$Cast" "playerOf" "[I" ∈ gT := gt_1 132 rfl rfl
theorem fn_X5_158 : Cond.fieldLinkNest RX5 158 "StageCount$Cast" "playerOf" "[I" "StageCount" ∈ gN := gn_1 133 rfl rfl
theorem fl_X0_22 : Cond.fieldLink RX0 22 "StageCount$Cast" "change" "I" ∈ gT := gt_1 134 rfl rfl
theorem fl_X0_15 : Cond.fieldLink RX0 15 "StageCount$Cast" "linesOf" "[J" ∈ gT := gt_1 135 rfl rfl
theorem fl_X0_19 : Cond.fieldLink RX0 19 "StageCount$Cast" "clashes" "[I" ∈ gT := gt_1 136 rfl rfl
theorem cl_X5_38 : Cond.classLink RX5 38 RX4 ∈ gT := gt_1 149 rfl rfl
theorem is_X4 : Cond.instantiable RX4 5 ∈ gT := gt_1 150 rfl rfl
theorem ml_X5_40 : Cond.methodLink RX5 40 yX4_init ∈ gT := gt_1 151 rfl rfl
theorem im_X4_init : Cond.instanceMethod yX4_init ∈ gT := gt_1 152 rfl rfl
theorem cd_X4_init : Cond.code yX4_init cX4_init 1 none ∈ gT := gt_1 153 rfl rfl
theorem ml_X4_3 : Cond.methodLink RX4 3 objectInit ∈ gT := gt_1 154 rfl rfl
theorem fl_X4_39 : Cond.fieldLink RX4 39 "StageCount$SceneOrder" "fewest" "I" ∈ gT := gt_1 155 rfl rfl
theorem fn_X5_174 : Cond.fieldLinkNest RX5 174 "StageCount$SceneOrder" "fewest" "I" "StageCount" ∈ gN := gn_1 156 rfl rfl
theorem fl_X4_9 : Cond.fieldLink RX4 9 "StageCount$SceneOrder" "row" "[I" ∈ gT := gt_1 157 rfl rfl
theorem fn_X5_177 : Cond.fieldLinkNest RX5 177 "StageCount$SceneOrder" "row" "[I" "StageCount" ∈ gN := gn_1 158 rfl rfl
theorem fl_X4_27 : Cond.fieldLink RX4 27 "StageCount$SceneOrder" "scenes" "I" ∈ gT := gt_1 159 rfl rfl
theorem fl_X4_15 : Cond.fieldLink RX4 15 "StageCount$SceneOrder" "sceneOn" "[I" ∈ gT := gt_1 160 rfl rfl
theorem fl_X4_18 : Cond.fieldLink RX4 18 "StageCount$SceneOrder" "behind" "[I" ∈ gT := gt_1 161 rfl rfl
theorem cl_X5_45 : Cond.classLink RX5 45 RX1 ∈ gT := gt_1 173 rfl rfl
theorem is_X1 : Cond.instantiable RX1 3 ∈ gT := gt_1 174 rfl rfl
theorem ml_X5_47 : Cond.methodLink RX5 47 yX1_init ∈ gT := gt_1 175 rfl rfl
theorem im_X1_init : Cond.instanceMethod yX1_init ∈ gT := gt_1 176 rfl rfl
theorem cd_X1_init : Cond.code yX1_init cX1_init 1 none ∈ gT := gt_1 177 rfl rfl
theorem ml_X1_3 : Cond.methodLink RX1 3 objectInit ∈ gT := gt_1 178 rfl rfl
theorem fl_X1_15 : Cond.fieldLink RX1 15 "StageCount$Guess" "ways" "I" ∈ gT := gt_1 179 rfl rfl
theorem fn_X5_193 : Cond.fieldLinkNest RX5 193 "StageCount$Guess" "ways" "I" "StageCount" ∈ gN := gn_1 180 rfl rfl
theorem fl_X1_19 : Cond.fieldLink RX1 19 "StageCount$Guess" "first" "I" ∈ gT := gt_1 181 rfl rfl
theorem fn_X5_196 : Cond.fieldLinkNest RX5 196 "StageCount$Guess" "first" "I" "StageCount" ∈ gN := gn_1 182 rfl rfl
theorem fl_X1_9 : Cond.fieldLink RX1 9 "StageCount$Guess" "who" "[I" ∈ gT := gt_1 183 rfl rfl
theorem fn_X5_202 : Cond.fieldLinkNest RX5 202 "StageCount$Guess" "who" "[I" "StageCount" ∈ gN := gn_1 184 rfl rfl
theorem fl_X5_10 : Cond.fieldLink RX5 10 "StageCount" "rules" "LStageCount$Rules;" ∈ gT := gt_1 192 rfl rfl
theorem fl_X5_16 : Cond.fieldLink RX5 16 "StageCount" "images" "[LStageCount$Rules;" ∈ gT := gt_1 193 rfl rfl
theorem fl_X5_20 : Cond.fieldLink RX5 20 "StageCount" "kept" "[Z" ∈ gT := gt_1 194 rfl rfl
theorem fl_X5_27 : Cond.fieldLink RX5 27 "StageCount" "play" "LStageCount$Play;" ∈ gT := gt_1 195 rfl rfl
theorem fl_X5_34 : Cond.fieldLink RX5 34 "StageCount" "company" "LStageCount$Cast;" ∈ gT := gt_1 196 rfl rfl
theorem fl_X5_41 : Cond.fieldLink RX5 41 "StageCount" "sceneOrder" "LStageCount$SceneOrder;" ∈ gT := gt_1 197 rfl rfl
theorem fl_X5_48 : Cond.fieldLink RX5 48 "StageCount" "guess" "LStageCount$Guess;" ∈ gT := gt_1 198 rfl rfl
theorem fl_X5_52 : Cond.fieldLink RX5 52 "StageCount" "staying" "[I" ∈ gT := gt_1 199 rfl rfl
theorem ml_L_13 : Cond.methodLink RL 13 yX5_set ∈ gT := gt_1 217 rfl rfl
theorem im_X5_set : Cond.instanceMethod yX5_set ∈ gT := gt_1 218 rfl rfl
theorem sl_X5_set : Cond.selects RX5 yX5_set yX5_set ∈ gT := gt_1 219 rfl rfl
theorem cd_X5_set : Cond.code yX5_set cX5_set 4 (some .int) ∈ gT := gt_1 220 rfl rfl
theorem ml_X5_56 : Cond.methodLink RX5 56 yX5_isWithin ∈ gT := gt_1 221 rfl rfl
theorem st_X5_isWithin : Cond.static yX5_isWithin ∈ gT := gt_1 222 rfl rfl
theorem cd_X5_isWithin : Cond.code yX5_isWithin cX5_isWithin 2 (some .boolean) ∈ gT := gt_1 223 rfl rfl
theorem ml_L_18 : Cond.methodLink RL 18 yX5_say ∈ gT := gt_1 224 rfl rfl
theorem im_X5_say : Cond.instanceMethod yX5_say ∈ gT := gt_1 225 rfl rfl
theorem sl_X5_say : Cond.selects RX5 yX5_say yX5_say ∈ gT := gt_1 226 rfl rfl
theorem cd_X5_say : Cond.code yX5_say cX5_say 2 (some .int) ∈ gT := gt_1 227 rfl rfl
theorem ml_X5_70 : Cond.methodLink RX5 70 yX2_add ∈ gT := gt_1 228 rfl rfl
theorem im_X2_add : Cond.instanceMethod yX2_add ∈ gT := gt_1 229 rfl rfl
theorem sl_X2_add : Cond.selects RX2 yX2_add yX2_add ∈ gT := gt_1 230 rfl rfl
theorem cd_X2_add : Cond.code yX2_add cX2_add 2 (some .int) ∈ gT := gt_1 231 rfl rfl
theorem ml_L_23 : Cond.methodLink RL 23 yX5_wipe ∈ gT := gt_1 232 rfl rfl
theorem im_X5_wipe : Cond.instanceMethod yX5_wipe ∈ gT := gt_1 233 rfl rfl
theorem sl_X5_wipe : Cond.selects RX5 yX5_wipe yX5_wipe ∈ gT := gt_1 234 rfl rfl
theorem cd_X5_wipe : Cond.code yX5_wipe cX5_wipe 2 (some .int) ∈ gT := gt_1 235 rfl rfl
theorem ml_L_28 : Cond.methodLink RL 28 yX5_fault ∈ gT := gt_1 236 rfl rfl
theorem im_X5_fault : Cond.instanceMethod yX5_fault ∈ gT := gt_1 237 rfl rfl
theorem sl_X5_fault : Cond.selects RX5 yX5_fault yX5_fault ∈ gT := gt_1 238 rfl rfl
theorem cd_X5_fault : Cond.code yX5_fault cX5_fault 1 (some .int) ∈ gT := gt_1 239 rfl rfl
theorem ml_X5_77 : Cond.methodLink RX5 77 yX2_survey ∈ gT := gt_2 0 rfl rfl
theorem im_X2_survey : Cond.instanceMethod yX2_survey ∈ gT := gt_2 1 rfl rfl
theorem sl_X2_survey : Cond.selects RX2 yX2_survey yX2_survey ∈ gT := gt_2 2 rfl rfl
theorem cd_X2_survey : Cond.code yX2_survey cX2_survey 4 none ∈ gT := gt_2 3 rfl rfl
theorem ml_X2_37 : Cond.methodLink RX2 37 yX2_isComing ∈ gT := gt_2 4 rfl rfl
theorem st_X2_isComing : Cond.static yX2_isComing ∈ gT := gt_2 5 rfl rfl
theorem cd_X2_isComing : Cond.code yX2_isComing cX2_isComing 1 (some .boolean) ∈ gT := gt_2 6 rfl rfl
theorem ml_X2_41 : Cond.methodLink RX2 41 yX2_isGoing ∈ gT := gt_2 7 rfl rfl
theorem st_X2_isGoing : Cond.static yX2_isGoing ∈ gT := gt_2 8 rfl rfl
theorem cd_X2_isGoing : Cond.code yX2_isGoing cX2_isGoing 1 (some .boolean) ∈ gT := gt_2 9 rfl rfl
theorem ml_L_32 : Cond.methodLink RL 32 yX5_judge ∈ gT := gt_2 10 rfl rfl
theorem im_X5_judge : Cond.instanceMethod yX5_judge ∈ gT := gt_2 11 rfl rfl
theorem sl_X5_judge : Cond.selects RX5 yX5_judge yX5_judge ∈ gT := gt_2 12 rfl rfl
theorem cd_X5_judge : Cond.code yX5_judge cX5_judge 3 (some .int) ∈ gT := gt_2 13 rfl rfl
theorem ml_X5_83 : Cond.methodLink RX5 83 yX5_refusalOfLines ∈ gT := gt_2 14 rfl rfl
theorem im_X5_refusalOfLines : Cond.instanceMethod yX5_refusalOfLines ∈ gT := gt_2 16 rfl rfl
theorem cd_X5_refusalOfLines : Cond.code yX5_refusalOfLines cX5_refusalOfLines 2 (some .int) ∈ gT := gt_2 17 rfl rfl
theorem ml_X5_87 : Cond.methodLink RX5 87 yX5_refusalOfEvents ∈ gT := gt_2 18 rfl rfl
theorem im_X5_refusalOfEvents : Cond.instanceMethod yX5_refusalOfEvents ∈ gT := gt_2 20 rfl rfl
theorem cd_X5_refusalOfEvents : Cond.code yX5_refusalOfEvents cX5_refusalOfEvents 1 (some .int) ∈ gT := gt_2 21 rfl rfl
theorem ml_X5_224 : Cond.methodLink RX5 224 yX2_perform ∈ gT := gt_2 22 rfl rfl
theorem im_X2_perform : Cond.instanceMethod yX2_perform ∈ gT := gt_2 23 rfl rfl
theorem sl_X2_perform : Cond.selects RX2 yX2_perform yX2_perform ∈ gT := gt_2 24 rfl rfl
theorem cd_X2_perform : Cond.code yX2_perform cX2_perform 7 none ∈ gT := gt_2 25 rfl rfl
theorem ml_X2_53 : Cond.methodLink RX2 53 yX2_refuseUnless ∈ gT := gt_2 26 rfl rfl
theorem im_X2_refuseUnless : Cond.instanceMethod yX2_refuseUnless ∈ gT := gt_2 28 rfl rfl
theorem cd_X2_refuseUnless : Cond.code yX2_refuseUnless cX2_refuseUnless 4 none ∈ gT := gt_2 29 rfl rfl
theorem ml_X2_57 : Cond.methodLink RX2 57 yX2_comer ∈ gT := gt_2 30 rfl rfl
theorem im_X2_comer : Cond.instanceMethod yX2_comer ∈ gT := gt_2 32 rfl rfl
theorem cd_X2_comer : Cond.code yX2_comer cX2_comer 3 (some .int) ∈ gT := gt_2 33 rfl rfl
theorem ml_X2_61 : Cond.methodLink RX2 61 yX2_guessed ∈ gT := gt_2 34 rfl rfl
theorem im_X2_guessed : Cond.instanceMethod yX2_guessed ∈ gT := gt_2 35 rfl rfl
theorem sl_X2_guessed : Cond.selects RX2 yX2_guessed yX2_guessed ∈ gT := gt_2 36 rfl rfl
theorem cd_X2_guessed : Cond.code yX2_guessed cX2_guessed 3 (some .int) ∈ gT := gt_2 37 rfl rfl
theorem ml_X5_96 : Cond.methodLink RX5 96 yX3_firstAgainstLaw ∈ gT := gt_2 38 rfl rfl
theorem im_X3_firstAgainstLaw : Cond.instanceMethod yX3_firstAgainstLaw ∈ gT := gt_2 39 rfl rfl
theorem sl_X3_firstAgainstLaw : Cond.selects RX3 yX3_firstAgainstLaw yX3_firstAgainstLaw ∈ gT := gt_2 40 rfl rfl
theorem cd_X3_firstAgainstLaw : Cond.code yX3_firstAgainstLaw cX3_firstAgainstLaw 5 (some .int) ∈ gT := gt_2 41 rfl rfl
theorem ml_X3_57 : Cond.methodLink RX3 57 yX3_holds ∈ gT := gt_2 42 rfl rfl
theorem im_X3_holds : Cond.instanceMethod yX3_holds ∈ gT := gt_2 43 rfl rfl
theorem sl_X3_holds : Cond.selects RX3 yX3_holds yX3_holds ∈ gT := gt_2 44 rfl rfl
theorem cd_X3_holds : Cond.code yX3_holds cX3_holds 3 (some .boolean) ∈ gT := gt_2 45 rfl rfl
theorem ml_L_36 : Cond.methodLink RL 36 yX5_on ∈ gT := gt_2 46 rfl rfl
theorem im_X5_on : Cond.instanceMethod yX5_on ∈ gT := gt_2 47 rfl rfl
theorem sl_X5_on : Cond.selects RX5 yX5_on yX5_on ∈ gT := gt_2 48 rfl rfl
theorem cd_X5_on : Cond.code yX5_on cX5_on 3 (some .int) ∈ gT := gt_2 49 rfl rfl
theorem ml_X5_100 : Cond.methodLink RX5 100 yX5_isLine ∈ gT := gt_2 50 rfl rfl
theorem im_X5_isLine : Cond.instanceMethod yX5_isLine ∈ gT := gt_2 52 rfl rfl
theorem cd_X5_isLine : Cond.code yX5_isLine cX5_isLine 2 (some .boolean) ∈ gT := gt_2 53 rfl rfl
theorem ml_L_40 : Cond.methodLink RL 40 yX5_lines ∈ gT := gt_2 54 rfl rfl
theorem im_X5_lines : Cond.instanceMethod yX5_lines ∈ gT := gt_2 55 rfl rfl
theorem sl_X5_lines : Cond.selects RX5 yX5_lines yX5_lines ∈ gT := gt_2 56 rfl rfl
theorem cd_X5_lines : Cond.code yX5_lines cX5_lines 3 (some .int) ∈ gT := gt_2 57 rfl rfl
theorem ml_X5_113 : Cond.methodLink RX5 113 yX2_linesOf ∈ gT := gt_2 58 rfl rfl
theorem im_X2_linesOf : Cond.instanceMethod yX2_linesOf ∈ gT := gt_2 59 rfl rfl
theorem sl_X2_linesOf : Cond.selects RX2 yX2_linesOf yX2_linesOf ∈ gT := gt_2 60 rfl rfl
theorem cd_X2_linesOf : Cond.code yX2_linesOf cX2_linesOf 5 (some .long) ∈ gT := gt_2 61 rfl rfl
theorem ml_X5_117 : Cond.methodLink RX5 117 yJ13_bitCount_95d88 ∈ gT := gt_2 62 rfl rfl
theorem st_J13_bitCount_95d88 : Cond.static yJ13_bitCount_95d88 ∈ gT := gt_2 63 rfl rfl
theorem cd_J13_bitCount_95d88 : Cond.code yJ13_bitCount_95d88 cJ13_bitCount_95d88 2 (some .int) ∈ gT := gt_2 64 rfl rfl
theorem kc_J13_314 : Cond.constantLong RJ13 314 (6148914691236517205) ∈ gT := gt_2 65 rfl rfl
theorem kc_J13_316 : Cond.constantLong RJ13 316 (3689348814741910323) ∈ gT := gt_2 66 rfl rfl
theorem kc_J13_318 : Cond.constantLong RJ13 318 (1085102592571150095) ∈ gT := gt_2 67 rfl rfl
theorem ml_L_44 : Cond.methodLink RL 44 yX5_may ∈ gT := gt_2 68 rfl rfl
theorem im_X5_may : Cond.instanceMethod yX5_may ∈ gT := gt_2 69 rfl rfl
theorem sl_X5_may : Cond.selects RX5 yX5_may yX5_may ∈ gT := gt_2 70 rfl rfl
theorem cd_X5_may : Cond.code yX5_may cX5_may 4 (some .int) ∈ gT := gt_2 71 rfl rfl
theorem ml_X5_123 : Cond.methodLink RX5 123 yX5_isPart ∈ gT := gt_2 72 rfl rfl
theorem st_X5_isPart : Cond.static yX5_isPart ∈ gT := gt_2 73 rfl rfl
theorem cd_X5_isPart : Cond.code yX5_isPart cX5_isPart 1 (some .boolean) ∈ gT := gt_2 74 rfl rfl
theorem ml_X5_126 : Cond.methodLink RX5 126 yX3_setTogether ∈ gT := gt_2 75 rfl rfl
theorem im_X3_setTogether : Cond.instanceMethod yX3_setTogether ∈ gT := gt_2 76 rfl rfl
theorem sl_X3_setTogether : Cond.selects RX3 yX3_setTogether yX3_setTogether ∈ gT := gt_2 77 rfl rfl
theorem cd_X3_setTogether : Cond.code yX3_setTogether cX3_setTogether 5 (some .int) ∈ gT := gt_2 78 rfl rfl
theorem ml_X3_61 : Cond.methodLink RX3 61 yX3_setPair ∈ gT := gt_2 79 rfl rfl
theorem st_X3_setPair : Cond.static yX3_setPair ∈ gT := gt_2 80 rfl rfl
theorem cd_X3_setPair : Cond.code yX3_setPair cX3_setPair 6 none ∈ gT := gt_2 81 rfl rfl
theorem ml_L_49 : Cond.methodLink RL 49 yX5_broken ∈ gT := gt_2 82 rfl rfl
theorem im_X5_broken : Cond.instanceMethod yX5_broken ∈ gT := gt_2 83 rfl rfl
theorem sl_X5_broken : Cond.selects RX5 yX5_broken yX5_broken ∈ gT := gt_2 84 rfl rfl
theorem cd_X5_broken : Cond.code yX5_broken cX5_broken 2 (some .int) ∈ gT := gt_2 85 rfl rfl
theorem ml_X5_130 : Cond.methodLink RX5 130 yX3_firstAgainstMay ∈ gT := gt_2 86 rfl rfl
theorem im_X3_firstAgainstMay : Cond.instanceMethod yX3_firstAgainstMay ∈ gT := gt_2 87 rfl rfl
theorem sl_X3_firstAgainstMay : Cond.selects RX3 yX3_firstAgainstMay yX3_firstAgainstMay ∈ gT := gt_2 88 rfl rfl
theorem cd_X3_firstAgainstMay : Cond.code yX3_firstAgainstMay cX3_firstAgainstMay 3 (some .int) ∈ gT := gt_2 89 rfl rfl
theorem ml_X3_68 : Cond.methodLink RX3 68 yX3_breaksMay ∈ gT := gt_2 90 rfl rfl
theorem im_X3_breaksMay : Cond.instanceMethod yX3_breaksMay ∈ gT := gt_2 92 rfl rfl
theorem cd_X3_breaksMay : Cond.code yX3_breaksMay cX3_breaksMay 4 (some .boolean) ∈ gT := gt_2 93 rfl rfl
theorem ml_L_53 : Cond.methodLink RL 53 yX5_strangers ∈ gT := gt_2 94 rfl rfl
theorem im_X5_strangers : Cond.instanceMethod yX5_strangers ∈ gT := gt_2 95 rfl rfl
theorem sl_X5_strangers : Cond.selects RX5 yX5_strangers yX5_strangers ∈ gT := gt_2 96 rfl rfl
theorem cd_X5_strangers : Cond.code yX5_strangers cX5_strangers 5 (some .int) ∈ gT := gt_2 97 rfl rfl
theorem ml_X5_133 : Cond.methodLink RX5 133 yX5_bar ∈ gT := gt_2 98 rfl rfl
theorem im_X5_bar : Cond.instanceMethod yX5_bar ∈ gT := gt_2 100 rfl rfl
theorem cd_X5_bar : Cond.code yX5_bar cX5_bar 2 (some .int) ∈ gT := gt_2 101 rfl rfl
theorem ml_X5_136 : Cond.methodLink RX5 136 yX5_strangersAt ∈ gT := gt_2 102 rfl rfl
theorem im_X5_strangersAt : Cond.instanceMethod yX5_strangersAt ∈ gT := gt_2 104 rfl rfl
theorem cd_X5_strangersAt : Cond.code yX5_strangersAt cX5_strangersAt 2 (some .int) ∈ gT := gt_2 105 rfl rfl
theorem ml_X5_139 : Cond.methodLink RX5 139 yX5_strangersComings ∈ gT := gt_2 106 rfl rfl
theorem im_X5_strangersComings : Cond.instanceMethod yX5_strangersComings ∈ gT := gt_2 108 rfl rfl
theorem cd_X5_strangersComings : Cond.code yX5_strangersComings cX5_strangersComings 4 (some .int) ∈ gT := gt_2 109 rfl rfl
theorem ml_X5_210 : Cond.methodLink RX5 210 Lib.Math.max.name ∈ gT := gt_2 110 rfl rfl
theorem st_Lib_Math_max_name : Cond.static Lib.Math.max.name ∈ gT := gt_2 111 rfl rfl
theorem cd_Lib_Math_max_name : Cond.code Lib.Math.max.name Lib.Math.max.code 2 (some .int) ∈ gT := gt_2 112 rfl rfl
theorem ml_X5_142 : Cond.methodLink RX5 142 yX5_mostStrangers ∈ gT := gt_2 113 rfl rfl
theorem im_X5_mostStrangers : Cond.instanceMethod yX5_mostStrangers ∈ gT := gt_2 115 rfl rfl
theorem cd_X5_mostStrangers : Cond.code yX5_mostStrangers cX5_mostStrangers 3 (some .int) ∈ gT := gt_2 116 rfl rfl
theorem ml_L_57 : Cond.methodLink RL 57 yX5_cuts ∈ gT := gt_2 117 rfl rfl
theorem im_X5_cuts : Cond.instanceMethod yX5_cuts ∈ gT := gt_2 118 rfl rfl
theorem sl_X5_cuts : Cond.selects RX5 yX5_cuts yX5_cuts ∈ gT := gt_2 119 rfl rfl
theorem cd_X5_cuts : Cond.code yX5_cuts cX5_cuts 3 (some .int) ∈ gT := gt_2 120 rfl rfl
theorem ml_X5_145 : Cond.methodLink RX5 145 yX5_linesInLaw ∈ gT := gt_2 121 rfl rfl
theorem im_X5_linesInLaw : Cond.instanceMethod yX5_linesInLaw ∈ gT := gt_2 123 rfl rfl
theorem cd_X5_linesInLaw : Cond.code yX5_linesInLaw cX5_linesInLaw 3 (some .int) ∈ gT := gt_2 124 rfl rfl
theorem ml_X5_215 : Cond.methodLink RX5 215 yX3_holds ∈ gT := gt_2 125 rfl rfl
theorem ml_X5_148 : Cond.methodLink RX5 148 yX5_longestRising ∈ gT := gt_2 126 rfl rfl
theorem im_X5_longestRising : Cond.instanceMethod yX5_longestRising ∈ gT := gt_2 128 rfl rfl
theorem cd_X5_longestRising : Cond.code yX5_longestRising cX5_longestRising 6 (some .int) ∈ gT := gt_2 129 rfl rfl
theorem ml_X5_231 : Cond.methodLink RX5 231 yJ7_fill_53178 ∈ gT := gt_2 130 rfl rfl
theorem st_J7_fill_53178 : Cond.static yJ7_fill_53178 ∈ gT := gt_2 131 rfl rfl
theorem cd_J7_fill_53178 : Cond.code yJ7_fill_53178 cJ7_fill_53178 4 none ∈ gT := gt_2 132 rfl rfl
theorem ml_L_61 : Cond.methodLink RL 61 yX5_cast ∈ gT := gt_2 133 rfl rfl
theorem im_X5_cast : Cond.instanceMethod yX5_cast ∈ gT := gt_2 134 rfl rfl
theorem sl_X5_cast : Cond.selects RX5 yX5_cast yX5_cast ∈ gT := gt_2 135 rfl rfl
theorem cd_X5_cast : Cond.code yX5_cast cX5_cast 3 (some .int) ∈ gT := gt_2 136 rfl rfl
theorem ml_X5_151 : Cond.methodLink RX5 151 yX0_choose ∈ gT := gt_2 137 rfl rfl
theorem im_X0_choose : Cond.instanceMethod yX0_choose ∈ gT := gt_2 138 rfl rfl
theorem sl_X0_choose : Cond.selects RX0 yX0_choose yX0_choose ∈ gT := gt_2 139 rfl rfl
theorem cd_X0_choose : Cond.code yX0_choose cX0_choose 5 none ∈ gT := gt_2 140 rfl rfl
theorem ml_X0_26 : Cond.methodLink RX0 26 yX2_linesOf ∈ gT := gt_2 141 rfl rfl
theorem ml_X0_31 : Cond.methodLink RX0 31 yX0_clashesOf ∈ gT := gt_2 142 rfl rfl
theorem im_X0_clashesOf : Cond.instanceMethod yX0_clashesOf ∈ gT := gt_2 144 rfl rfl
theorem cd_X0_clashesOf : Cond.code yX0_clashesOf cX0_clashesOf 7 (some .int) ∈ gT := gt_2 145 rfl rfl
theorem ml_X0_38 : Cond.methodLink RX0 38 yX0_isCast ∈ gT := gt_2 146 rfl rfl
theorem st_X0_isCast : Cond.static yX0_isCast ∈ gT := gt_2 147 rfl rfl
theorem cd_X0_isCast : Cond.code yX0_isCast cX0_isCast 4 (some .boolean) ∈ gT := gt_2 148 rfl rfl
theorem ml_X0_42 : Cond.methodLink RX0 42 yX0_partsOf ∈ gT := gt_2 149 rfl rfl
theorem im_X0_partsOf : Cond.instanceMethod yX0_partsOf ∈ gT := gt_2 151 rfl rfl
theorem cd_X0_partsOf : Cond.code yX0_partsOf cX0_partsOf 4 (some .int) ∈ gT := gt_2 152 rfl rfl
theorem ml_X0_46 : Cond.methodLink RX0 46 Lib.Math.max.name ∈ gT := gt_2 153 rfl rfl
theorem ml_L_65 : Cond.methodLink RL 65 yX5_ill ∈ gT := gt_2 154 rfl rfl
theorem im_X5_ill : Cond.instanceMethod yX5_ill ∈ gT := gt_2 155 rfl rfl
theorem sl_X5_ill : Cond.selects RX5 yX5_ill yX5_ill ∈ gT := gt_2 156 rfl rfl
theorem cd_X5_ill : Cond.code yX5_ill cX5_ill 4 (some .int) ∈ gT := gt_2 157 rfl rfl
theorem ml_X5_161 : Cond.methodLink RX5 161 yX0_notTakenOver ∈ gT := gt_2 158 rfl rfl
theorem im_X0_notTakenOver : Cond.instanceMethod yX0_notTakenOver ∈ gT := gt_2 159 rfl rfl
theorem sl_X0_notTakenOver : Cond.selects RX0 yX0_notTakenOver yX0_notTakenOver ∈ gT := gt_2 160 rfl rfl
theorem cd_X0_notTakenOver : Cond.code yX0_notTakenOver cX0_notTakenOver 7 (some .int) ∈ gT := gt_2 161 rfl rfl
theorem ml_X0_52 : Cond.methodLink RX0 52 yX0_canTakeOver ∈ gT := gt_2 162 rfl rfl
theorem im_X0_canTakeOver : Cond.instanceMethod yX0_canTakeOver ∈ gT := gt_2 164 rfl rfl
theorem cd_X0_canTakeOver : Cond.code yX0_canTakeOver cX0_canTakeOver 6 (some .boolean) ∈ gT := gt_2 165 rfl rfl
theorem ml_L_69 : Cond.methodLink RL 69 yX5_scene ∈ gT := gt_2 166 rfl rfl
theorem im_X5_scene : Cond.instanceMethod yX5_scene ∈ gT := gt_2 167 rfl rfl
theorem sl_X5_scene : Cond.selects RX5 yX5_scene yX5_scene ∈ gT := gt_2 168 rfl rfl
theorem cd_X5_scene : Cond.code yX5_scene cX5_scene 2 (some .int) ∈ gT := gt_2 169 rfl rfl
theorem ml_X5_165 : Cond.methodLink RX5 165 yX3_addScene ∈ gT := gt_2 170 rfl rfl
theorem im_X3_addScene : Cond.instanceMethod yX3_addScene ∈ gT := gt_2 171 rfl rfl
theorem sl_X3_addScene : Cond.selects RX3 yX3_addScene yX3_addScene ∈ gT := gt_2 172 rfl rfl
theorem cd_X3_addScene : Cond.code yX3_addScene cX3_addScene 2 (some .int) ∈ gT := gt_2 173 rfl rfl
theorem ml_L_73 : Cond.methodLink RL 73 yX5_strike ∈ gT := gt_2 174 rfl rfl
theorem im_X5_strike : Cond.instanceMethod yX5_strike ∈ gT := gt_2 175 rfl rfl
theorem sl_X5_strike : Cond.selects RX5 yX5_strike yX5_strike ∈ gT := gt_2 176 rfl rfl
theorem cd_X5_strike : Cond.code yX5_strike cX5_strike 2 (some .int) ∈ gT := gt_2 177 rfl rfl
theorem ml_L_77 : Cond.methodLink RL 77 yX5_order ∈ gT := gt_2 178 rfl rfl
theorem im_X5_order : Cond.instanceMethod yX5_order ∈ gT := gt_2 179 rfl rfl
theorem sl_X5_order : Cond.selects RX5 yX5_order yX5_order ∈ gT := gt_2 180 rfl rfl
theorem cd_X5_order : Cond.code yX5_order cX5_order 2 (some .int) ∈ gT := gt_2 181 rfl rfl
theorem ml_X5_171 : Cond.methodLink RX5 171 yX4_choose ∈ gT := gt_2 182 rfl rfl
theorem im_X4_choose : Cond.instanceMethod yX4_choose ∈ gT := gt_2 183 rfl rfl
theorem sl_X4_choose : Cond.selects RX4 yX4_choose yX4_choose ∈ gT := gt_2 184 rfl rfl
theorem cd_X4_choose : Cond.code yX4_choose cX4_choose 4 none ∈ gT := gt_2 185 rfl rfl
theorem ml_X4_29 : Cond.methodLink RX4 29 arraycopyName ∈ gT := gt_2 186 rfl rfl
theorem st_arraycopyName : Cond.static arraycopyName ∈ gT := gt_2 187 rfl rfl
theorem nt_arraycopyName : Cond.native arraycopyName ∈ gT := gt_2 188 rfl rfl
theorem ml_X4_35 : Cond.methodLink RX4 35 yX4_fewestFrom ∈ gT := gt_2 189 rfl rfl
theorem im_X4_fewestFrom : Cond.instanceMethod yX4_fewestFrom ∈ gT := gt_2 191 rfl rfl
theorem cd_X4_fewestFrom : Cond.code yX4_fewestFrom cX4_fewestFrom 5 (some .int) ∈ gT := gt_2 192 rfl rfl
theorem kc_X4_51 : Cond.constant RX4 51 (2147483647) ∈ gT := gt_2 193 rfl rfl
theorem ml_X4_52 : Cond.methodLink RX4 52 yX4_fewestBy ∈ gT := gt_2 194 rfl rfl
theorem im_X4_fewestBy : Cond.instanceMethod yX4_fewestBy ∈ gT := gt_2 196 rfl rfl
theorem cd_X4_fewestBy : Cond.code yX4_fewestBy cX4_fewestBy 4 (some .int) ∈ gT := gt_2 197 rfl rfl
theorem ml_X4_45 : Cond.methodLink RX4 45 yJ6_bitCount_0f7a4 ∈ gT := gt_2 198 rfl rfl
theorem st_J6_bitCount_0f7a4 : Cond.static yJ6_bitCount_0f7a4 ∈ gT := gt_2 199 rfl rfl
theorem cd_J6_bitCount_0f7a4 : Cond.code yJ6_bitCount_0f7a4 cJ6_bitCount_0f7a4 1 (some .int) ∈ gT := gt_2 200 rfl rfl
theorem kc_J6_265 : Cond.constant RJ6 265 (1431655765) ∈ gT := gt_2 201 rfl rfl
theorem kc_J6_266 : Cond.constant RJ6 266 (858993459) ∈ gT := gt_2 202 rfl rfl
theorem kc_J6_267 : Cond.constant RJ6 267 (252645135) ∈ gT := gt_2 203 rfl rfl
theorem ml_X4_56 : Cond.methodLink RX4 56 Lib.Math.min.name ∈ gT := gt_2 204 rfl rfl
theorem st_Lib_Math_min_name : Cond.static Lib.Math.min.name ∈ gT := gt_2 205 rfl rfl
theorem cd_Lib_Math_min_name : Cond.code Lib.Math.min.name Lib.Math.min.code 2 (some .int) ∈ gT := gt_2 206 rfl rfl
theorem ml_X4_42 : Cond.methodLink RX4 42 yX4_fillRow ∈ gT := gt_2 207 rfl rfl
theorem im_X4_fillRow : Cond.instanceMethod yX4_fillRow ∈ gT := gt_2 209 rfl rfl
theorem cd_X4_fillRow : Cond.code yX4_fillRow cX4_fillRow 5 none ∈ gT := gt_2 210 rfl rfl
theorem ml_X4_61 : Cond.methodLink RX4 61 yX4_firstBest ∈ gT := gt_2 211 rfl rfl
theorem im_X4_firstBest : Cond.instanceMethod yX4_firstBest ∈ gT := gt_2 213 rfl rfl
theorem cd_X4_firstBest : Cond.code yX4_firstBest cX4_firstBest 5 (some .int) ∈ gT := gt_2 214 rfl rfl
theorem ml_L_81 : Cond.methodLink RL 81 yX5_seen ∈ gT := gt_2 215 rfl rfl
theorem im_X5_seen : Cond.instanceMethod yX5_seen ∈ gT := gt_2 216 rfl rfl
theorem sl_X5_seen : Cond.selects RX5 yX5_seen yX5_seen ∈ gT := gt_2 217 rfl rfl
theorem cd_X5_seen : Cond.code yX5_seen cX5_seen 3 (some .int) ∈ gT := gt_2 218 rfl rfl
theorem ml_X5_180 : Cond.methodLink RX5 180 yX3_addSight ∈ gT := gt_2 219 rfl rfl
theorem im_X3_addSight : Cond.instanceMethod yX3_addSight ∈ gT := gt_2 220 rfl rfl
theorem sl_X3_addSight : Cond.selects RX3 yX3_addSight yX3_addSight ∈ gT := gt_2 221 rfl rfl
theorem cd_X3_addSight : Cond.code yX3_addSight cX3_addSight 3 (some .int) ∈ gT := gt_2 222 rfl rfl
theorem ml_L_85 : Cond.methodLink RL 85 yX5_forget ∈ gT := gt_2 223 rfl rfl
theorem im_X5_forget : Cond.instanceMethod yX5_forget ∈ gT := gt_2 224 rfl rfl
theorem sl_X5_forget : Cond.selects RX5 yX5_forget yX5_forget ∈ gT := gt_2 225 rfl rfl
theorem cd_X5_forget : Cond.code yX5_forget cX5_forget 2 (some .int) ∈ gT := gt_2 226 rfl rfl
theorem ml_L_89 : Cond.methodLink RL 89 yX5_fits ∈ gT := gt_2 227 rfl rfl
theorem im_X5_fits : Cond.instanceMethod yX5_fits ∈ gT := gt_2 228 rfl rfl
theorem sl_X5_fits : Cond.selects RX5 yX5_fits yX5_fits ∈ gT := gt_2 229 rfl rfl
theorem cd_X5_fits : Cond.code yX5_fits cX5_fits 2 (some .int) ∈ gT := gt_2 230 rfl rfl
theorem ml_X5_189 : Cond.methodLink RX5 189 yX1_tryAll ∈ gT := gt_2 231 rfl rfl
theorem im_X1_tryAll : Cond.instanceMethod yX1_tryAll ∈ gT := gt_2 232 rfl rfl
theorem sl_X1_tryAll : Cond.selects RX1 yX1_tryAll yX1_tryAll ∈ gT := gt_2 233 rfl rfl
theorem cd_X1_tryAll : Cond.code yX1_tryAll cX1_tryAll 5 none ∈ gT := gt_2 234 rfl rfl
theorem ml_X1_22 : Cond.methodLink RX1 22 yJ7_fill_53178 ∈ gT := gt_2 235 rfl rfl
theorem ml_X1_28 : Cond.methodLink RX1 28 yX3_sightsHold ∈ gT := gt_2 236 rfl rfl
theorem im_X3_sightsHold : Cond.instanceMethod yX3_sightsHold ∈ gT := gt_2 237 rfl rfl
theorem sl_X3_sightsHold : Cond.selects RX3 yX3_sightsHold yX3_sightsHold ∈ gT := gt_2 238 rfl rfl
theorem cd_X3_sightsHold : Cond.code yX3_sightsHold cX3_sightsHold 4 (some .boolean) ∈ gT := gt_2 239 rfl rfl
theorem ml_X1_39 : Cond.methodLink RX1 39 yX2_perform ∈ gT := gt_3 0 rfl rfl
theorem ml_X1_46 : Cond.methodLink RX1 46 yX1_keep ∈ gT := gt_3 1 rfl rfl
theorem im_X1_keep : Cond.instanceMethod yX1_keep ∈ gT := gt_3 3 rfl rfl
theorem cd_X1_keep : Cond.code yX1_keep cX1_keep 4 none ∈ gT := gt_3 4 rfl rfl
theorem ml_X1_53 : Cond.methodLink RX1 53 yX2_guessed ∈ gT := gt_3 5 rfl rfl
theorem ml_X5_199 : Cond.methodLink RX5 199 yX2_guessed ∈ gT := gt_3 6 rfl rfl
theorem ml_L_93 : Cond.methodLink RL 93 yX5_could ∈ gT := gt_3 7 rfl rfl
theorem im_X5_could : Cond.instanceMethod yX5_could ∈ gT := gt_3 8 rfl rfl
theorem sl_X5_could : Cond.selects RX5 yX5_could yX5_could ∈ gT := gt_3 9 rfl rfl
theorem cd_X5_could : Cond.code yX5_could cX5_could 2 (some .int) ∈ gT := gt_3 10 rfl rfl
theorem ml_L_97 : Cond.methodLink RL 97 yX5_evening ∈ gT := gt_3 11 rfl rfl
theorem im_X5_evening : Cond.instanceMethod yX5_evening ∈ gT := gt_3 12 rfl rfl
theorem sl_X5_evening : Cond.selects RX5 yX5_evening yX5_evening ∈ gT := gt_3 13 rfl rfl
theorem cd_X5_evening : Cond.code yX5_evening cX5_evening 11 (some .int) ∈ gT := gt_3 14 rfl rfl
theorem kc_X5_205 : Cond.constant RX5 205 (65537) ∈ gT := gt_3 15 rfl rfl
theorem ml_X5_206 : Cond.methodLink RX5 206 yJ6_bitCount_0f7a4 ∈ gT := gt_3 16 rfl rfl
theorem ml_L_101 : Cond.methodLink RL 101 yX5_image ∈ gT := gt_3 17 rfl rfl
theorem im_X5_image : Cond.instanceMethod yX5_image ∈ gT := gt_3 18 rfl rfl
theorem sl_X5_image : Cond.selects RX5 yX5_image yX5_image ∈ gT := gt_3 19 rfl rfl
theorem cd_X5_image : Cond.code yX5_image cX5_image 2 (some .int) ∈ gT := gt_3 20 rfl rfl
theorem ml_X5_218 : Cond.methodLink RX5 218 yX3_become ∈ gT := gt_3 21 rfl rfl
theorem im_X3_become : Cond.instanceMethod yX3_become ∈ gT := gt_3 22 rfl rfl
theorem sl_X3_become : Cond.selects RX3 yX3_become yX3_become ∈ gT := gt_3 23 rfl rfl
theorem cd_X3_become : Cond.code yX3_become cX3_become 2 none ∈ gT := gt_3 24 rfl rfl
theorem ml_X3_43 : Cond.methodLink RX3 43 arraycopyName ∈ gT := gt_3 25 rfl rfl
theorem ml_L_105 : Cond.methodLink RL 105 yX5_restore ∈ gT := gt_3 26 rfl rfl
theorem im_X5_restore : Cond.instanceMethod yX5_restore ∈ gT := gt_3 27 rfl rfl
theorem sl_X5_restore : Cond.selects RX5 yX5_restore yX5_restore ∈ gT := gt_3 28 rfl rfl
theorem cd_X5_restore : Cond.code yX5_restore cX5_restore 2 (some .int) ∈ gT := gt_3 29 rfl rfl
theorem ml_L_109 : Cond.methodLink RL 109 yX5_told ∈ gT := gt_3 30 rfl rfl
theorem im_X5_told : Cond.instanceMethod yX5_told ∈ gT := gt_3 31 rfl rfl
theorem sl_X5_told : Cond.selects RX5 yX5_told yX5_told ∈ gT := gt_3 32 rfl rfl
theorem cd_X5_told : Cond.code yX5_told cX5_told 2 (some .int) ∈ gT := gt_3 33 rfl rfl
theorem cl_L_10 : Cond.classLink RL 10 RX6 ∈ gT := gt_3 34 rfl rfl
theorem is_X6 : Cond.instantiable RX6 27 ∈ gT := gt_3 35 rfl rfl
theorem ml_L_12 : Cond.methodLink RL 12 yX6_init ∈ gT := gt_3 36 rfl rfl
theorem im_X6_init : Cond.instanceMethod yX6_init ∈ gT := gt_3 37 rfl rfl
theorem cd_X6_init : Cond.code yX6_init cX6_init 1 none ∈ gT := gt_3 38 rfl rfl
theorem ml_X6_1 : Cond.methodLink RX6 1 objectInit ∈ gT := gt_3 39 rfl rfl
theorem fl_X6_72 : Cond.fieldLink RX6 72 "StageCountModel" "law" "I" ∈ gT := gt_3 40 rfl rfl
theorem fl_X6_56 : Cond.fieldLink RX6 56 "StageCountModel" "just" "I" ∈ gT := gt_3 41 rfl rfl
theorem fl_X6_75 : Cond.fieldLink RX6 75 "StageCountModel" "change" "I" ∈ gT := gt_3 42 rfl rfl
theorem fl_X6_7 : Cond.fieldLink RX6 7 "StageCountModel" "may" "[I" ∈ gT := gt_3 43 rfl rfl
theorem fl_X6_13 : Cond.fieldLink RX6 13 "StageCountModel" "scene" "[I" ∈ gT := gt_3 44 rfl rfl
theorem fl_X6_179 : Cond.fieldLink RX6 179 "StageCountModel" "scenes" "I" ∈ gT := gt_3 45 rfl rfl
theorem fl_X6_16 : Cond.fieldLink RX6 16 "StageCountModel" "sightLine" "[I" ∈ gT := gt_3 46 rfl rfl
theorem fl_X6_19 : Cond.fieldLink RX6 19 "StageCountModel" "sightMany" "[I" ∈ gT := gt_3 47 rfl rfl
theorem fl_X6_190 : Cond.fieldLink RX6 190 "StageCountModel" "sights" "I" ∈ gT := gt_3 48 rfl rfl
theorem fl_X6_22 : Cond.fieldLink RX6 22 "StageCountModel" "pad" "[I" ∈ gT := gt_3 49 rfl rfl
theorem fl_X6_82 : Cond.fieldLink RX6 82 "StageCountModel" "padMany" "I" ∈ gT := gt_3 50 rfl rfl
theorem fl_X6_25 : Cond.fieldLink RX6 25 "StageCountModel" "event" "[I" ∈ gT := gt_3 51 rfl rfl
theorem fl_X6_28 : Cond.fieldLink RX6 28 "StageCountModel" "on" "[I" ∈ gT := gt_3 52 rfl rfl
theorem fl_X6_93 : Cond.fieldLink RX6 93 "StageCountModel" "lines" "I" ∈ gT := gt_3 53 rfl rfl
theorem fl_X6_96 : Cond.fieldLink RX6 96 "StageCountModel" "comings" "I" ∈ gT := gt_3 54 rfl rfl
theorem fl_X6_99 : Cond.fieldLink RX6 99 "StageCountModel" "badEvent" "I" ∈ gT := gt_3 55 rfl rfl
theorem fl_X6_102 : Cond.fieldLink RX6 102 "StageCountModel" "badWhy" "I" ∈ gT := gt_3 56 rfl rfl
theorem fl_X6_31 : Cond.fieldLink RX6 31 "StageCountModel" "stay" "[I" ∈ gT := gt_3 57 rfl rfl
theorem fl_X6_34 : Cond.fieldLink RX6 34 "StageCountModel" "player" "[I" ∈ gT := gt_3 58 rfl rfl
theorem fl_X6_37 : Cond.fieldLink RX6 37 "StageCountModel" "bestPlayer" "[I" ∈ gT := gt_3 59 rfl rfl
theorem fl_X6_40 : Cond.fieldLink RX6 40 "StageCountModel" "row" "[I" ∈ gT := gt_3 60 rfl rfl
theorem fl_X6_43 : Cond.fieldLink RX6 43 "StageCountModel" "bestRow" "[I" ∈ gT := gt_3 61 rfl rfl
theorem fl_X6_46 : Cond.fieldLink RX6 46 "StageCountModel" "filler" "[I" ∈ gT := gt_3 62 rfl rfl
theorem fl_X6_49 : Cond.fieldLink RX6 49 "StageCountModel" "kept" "[I" ∈ gT := gt_3 63 rfl rfl
theorem fl_X6_52 : Cond.fieldLink RX6 52 "StageCountModel" "isKept" "[Z" ∈ gT := gt_3 64 rfl rfl
theorem fl_X6_213 : Cond.fieldLink RX6 213 "StageCountModel" "keptAt" "I" ∈ gT := gt_3 65 rfl rfl
theorem fl_X6_209 : Cond.fieldLink RX6 209 "StageCountModel" "isWriting" "Z" ∈ gT := gt_3 66 rfl rfl
theorem ml_L_17 : Cond.methodLink RL 17 yX6_set ∈ gT := gt_3 122 rfl rfl
theorem im_X6_set : Cond.instanceMethod yX6_set ∈ gT := gt_3 123 rfl rfl
theorem sl_X6_set : Cond.selects RX6 yX6_set yX6_set ∈ gT := gt_3 124 rfl rfl
theorem cd_X6_set : Cond.code yX6_set cX6_set 4 (some .int) ∈ gT := gt_3 125 rfl rfl
theorem kc_X6_66 : Cond.constantLong RX6 66 (2) ∈ gT := gt_3 126 rfl rfl
theorem ml_X6_62 : Cond.methodLink RX6 62 yX6_in ∈ gT := gt_3 127 rfl rfl
theorem st_X6_in : Cond.static yX6_in ∈ gT := gt_3 128 rfl rfl
theorem cd_X6_in : Cond.code yX6_in cX6_in 6 (some .boolean) ∈ gT := gt_3 129 rfl rfl
theorem kc_X6_68 : Cond.constantLong RX6 68 (8) ∈ gT := gt_3 130 rfl rfl
theorem kc_X6_70 : Cond.constantLong RX6 70 (9) ∈ gT := gt_3 131 rfl rfl
theorem ml_L_22 : Cond.methodLink RL 22 yX6_say ∈ gT := gt_3 132 rfl rfl
theorem im_X6_say : Cond.instanceMethod yX6_say ∈ gT := gt_3 133 rfl rfl
theorem sl_X6_say : Cond.selects RX6 yX6_say yX6_say ∈ gT := gt_3 134 rfl rfl
theorem cd_X6_say : Cond.code yX6_say cX6_say 2 (some .int) ∈ gT := gt_3 135 rfl rfl
theorem kc_X6_78 : Cond.constantLong RX6 78 (33) ∈ gT := gt_3 136 rfl rfl
theorem kc_X6_80 : Cond.constantLong RX6 80 (126) ∈ gT := gt_3 137 rfl rfl
theorem ml_L_27 : Cond.methodLink RL 27 yX6_wipe ∈ gT := gt_3 138 rfl rfl
theorem im_X6_wipe : Cond.instanceMethod yX6_wipe ∈ gT := gt_3 139 rfl rfl
theorem sl_X6_wipe : Cond.selects RX6 yX6_wipe yX6_wipe ∈ gT := gt_3 140 rfl rfl
theorem cd_X6_wipe : Cond.code yX6_wipe cX6_wipe 2 (some .int) ∈ gT := gt_3 141 rfl rfl
theorem ml_L_31 : Cond.methodLink RL 31 yX6_fault ∈ gT := gt_3 142 rfl rfl
theorem im_X6_fault : Cond.instanceMethod yX6_fault ∈ gT := gt_3 143 rfl rfl
theorem sl_X6_fault : Cond.selects RX6 yX6_fault yX6_fault ∈ gT := gt_3 144 rfl rfl
theorem cd_X6_fault : Cond.code yX6_fault cX6_fault 5 (some .int) ∈ gT := gt_3 145 rfl rfl
theorem kc_X6_85 : Cond.constantLong RX6 85 (65) ∈ gT := gt_3 146 rfl rfl
theorem kc_X6_87 : Cond.constantLong RX6 87 (72) ∈ gT := gt_3 147 rfl rfl
theorem kc_X6_89 : Cond.constantLong RX6 89 (97) ∈ gT := gt_3 148 rfl rfl
theorem kc_X6_91 : Cond.constantLong RX6 91 (104) ∈ gT := gt_3 149 rfl rfl
theorem ml_L_35 : Cond.methodLink RL 35 yX6_judge ∈ gT := gt_3 150 rfl rfl
theorem im_X6_judge : Cond.instanceMethod yX6_judge ∈ gT := gt_3 151 rfl rfl
theorem sl_X6_judge : Cond.selects RX6 yX6_judge yX6_judge ∈ gT := gt_3 152 rfl rfl
theorem cd_X6_judge : Cond.code yX6_judge cX6_judge 3 (some .int) ∈ gT := gt_3 153 rfl rfl
theorem ml_X6_105 : Cond.methodLink RX6 105 yX6_fault ∈ gT := gt_3 154 rfl rfl
theorem ml_X6_109 : Cond.methodLink RX6 109 yX6_marks ∈ gT := gt_3 155 rfl rfl
theorem im_X6_marks : Cond.instanceMethod yX6_marks ∈ gT := gt_3 157 rfl rfl
theorem cd_X6_marks : Cond.code yX6_marks cX6_marks 3 (some .int) ∈ gT := gt_3 158 rfl rfl
theorem ml_X6_112 : Cond.methodLink RX6 112 yX6_layEvents ∈ gT := gt_3 159 rfl rfl
theorem im_X6_layEvents : Cond.instanceMethod yX6_layEvents ∈ gT := gt_3 161 rfl rfl
theorem cd_X6_layEvents : Cond.code yX6_layEvents cX6_layEvents 3 none ∈ gT := gt_3 162 rfl rfl
theorem ml_X6_115 : Cond.methodLink RX6 115 yX6_go ∈ gT := gt_3 163 rfl rfl
theorem im_X6_go : Cond.instanceMethod yX6_go ∈ gT := gt_3 165 rfl rfl
theorem cd_X6_go : Cond.code yX6_go cX6_go 7 (some .boolean) ∈ gT := gt_3 166 rfl rfl
theorem ml_X6_127 : Cond.methodLink RX6 127 yX6_breaking ∈ gT := gt_3 167 rfl rfl
theorem im_X6_breaking : Cond.instanceMethod yX6_breaking ∈ gT := gt_3 169 rfl rfl
theorem cd_X6_breaking : Cond.code yX6_breaking cX6_breaking 2 (some .int) ∈ gT := gt_3 170 rfl rfl
theorem ml_X6_119 : Cond.methodLink RX6 119 yX6_ones ∈ gT := gt_3 171 rfl rfl
theorem st_X6_ones : Cond.static yX6_ones ∈ gT := gt_3 172 rfl rfl
theorem cd_X6_ones : Cond.code yX6_ones cX6_ones 3 (some .int) ∈ gT := gt_3 173 rfl rfl
theorem ml_X6_123 : Cond.methodLink RX6 123 yX6_holds ∈ gT := gt_3 174 rfl rfl
theorem im_X6_holds : Cond.instanceMethod yX6_holds ∈ gT := gt_3 176 rfl rfl
theorem cd_X6_holds : Cond.code yX6_holds cX6_holds 3 (some .boolean) ∈ gT := gt_3 177 rfl rfl
theorem ml_L_39 : Cond.methodLink RL 39 yX6_on ∈ gT := gt_3 178 rfl rfl
theorem im_X6_on : Cond.instanceMethod yX6_on ∈ gT := gt_3 179 rfl rfl
theorem sl_X6_on : Cond.selects RX6 yX6_on yX6_on ∈ gT := gt_3 180 rfl rfl
theorem cd_X6_on : Cond.code yX6_on cX6_on 3 (some .int) ∈ gT := gt_3 181 rfl rfl
theorem ml_X6_130 : Cond.methodLink RX6 130 yX6_refusal ∈ gT := gt_3 182 rfl rfl
theorem im_X6_refusal : Cond.instanceMethod yX6_refusal ∈ gT := gt_3 184 rfl rfl
theorem cd_X6_refusal : Cond.code yX6_refusal cX6_refusal 1 (some .int) ∈ gT := gt_3 185 rfl rfl
theorem ml_L_43 : Cond.methodLink RL 43 yX6_lines ∈ gT := gt_3 186 rfl rfl
theorem im_X6_lines : Cond.instanceMethod yX6_lines ∈ gT := gt_3 187 rfl rfl
theorem sl_X6_lines : Cond.selects RX6 yX6_lines yX6_lines ∈ gT := gt_3 188 rfl rfl
theorem cd_X6_lines : Cond.code yX6_lines cX6_lines 3 (some .int) ∈ gT := gt_3 189 rfl rfl
theorem kc_X6_133 : Cond.constantLong RX6 133 (-2) ∈ gT := gt_3 190 rfl rfl
theorem kc_X6_60 : Cond.constantLong RX6 60 (7) ∈ gT := gt_3 191 rfl rfl
theorem ml_X6_135 : Cond.methodLink RX6 135 yX6_linesOf ∈ gT := gt_3 192 rfl rfl
theorem im_X6_linesOf : Cond.instanceMethod yX6_linesOf ∈ gT := gt_3 194 rfl rfl
theorem cd_X6_linesOf : Cond.code yX6_linesOf cX6_linesOf 4 (some .int) ∈ gT := gt_3 195 rfl rfl
theorem ml_L_48 : Cond.methodLink RL 48 yX6_may ∈ gT := gt_3 196 rfl rfl
theorem im_X6_may : Cond.instanceMethod yX6_may ∈ gT := gt_3 197 rfl rfl
theorem sl_X6_may : Cond.selects RX6 yX6_may yX6_may ∈ gT := gt_3 198 rfl rfl
theorem cd_X6_may : Cond.code yX6_may cX6_may 5 (some .int) ∈ gT := gt_3 199 rfl rfl
theorem ml_X6_138 : Cond.methodLink RX6 138 yX6_isPart ∈ gT := gt_3 200 rfl rfl
theorem st_X6_isPart : Cond.static yX6_isPart ∈ gT := gt_3 201 rfl rfl
theorem cd_X6_isPart : Cond.code yX6_isPart cX6_isPart 1 (some .boolean) ∈ gT := gt_3 202 rfl rfl
theorem ml_L_52 : Cond.methodLink RL 52 yX6_broken ∈ gT := gt_3 203 rfl rfl
theorem im_X6_broken : Cond.instanceMethod yX6_broken ∈ gT := gt_3 204 rfl rfl
theorem sl_X6_broken : Cond.selects RX6 yX6_broken yX6_broken ∈ gT := gt_3 205 rfl rfl
theorem cd_X6_broken : Cond.code yX6_broken cX6_broken 3 (some .int) ∈ gT := gt_3 206 rfl rfl
theorem ml_X6_142 : Cond.methodLink RX6 142 yX6_mayBe ∈ gT := gt_3 207 rfl rfl
theorem im_X6_mayBe : Cond.instanceMethod yX6_mayBe ∈ gT := gt_3 209 rfl rfl
theorem cd_X6_mayBe : Cond.code yX6_mayBe cX6_mayBe 7 (some .boolean) ∈ gT := gt_3 210 rfl rfl
theorem ml_L_56 : Cond.methodLink RL 56 yX6_strangers ∈ gT := gt_3 211 rfl rfl
theorem im_X6_strangers : Cond.instanceMethod yX6_strangers ∈ gT := gt_3 212 rfl rfl
theorem sl_X6_strangers : Cond.selects RX6 yX6_strangers yX6_strangers ∈ gT := gt_3 213 rfl rfl
theorem cd_X6_strangers : Cond.code yX6_strangers cX6_strangers 9 (some .int) ∈ gT := gt_3 214 rfl rfl
theorem kc_X6_145 : Cond.constantLong RX6 145 (10) ∈ gT := gt_3 215 rfl rfl
theorem ml_X6_147 : Cond.methodLink RX6 147 yX6_bar ∈ gT := gt_3 216 rfl rfl
theorem im_X6_bar : Cond.instanceMethod yX6_bar ∈ gT := gt_3 218 rfl rfl
theorem cd_X6_bar : Cond.code yX6_bar cX6_bar 2 (some .int) ∈ gT := gt_3 219 rfl rfl
theorem ml_L_60 : Cond.methodLink RL 60 yX6_cuts ∈ gT := gt_3 220 rfl rfl
theorem im_X6_cuts : Cond.instanceMethod yX6_cuts ∈ gT := gt_3 221 rfl rfl
theorem sl_X6_cuts : Cond.selects RX6 yX6_cuts yX6_cuts ∈ gT := gt_3 222 rfl rfl
theorem cd_X6_cuts : Cond.code yX6_cuts cX6_cuts 4 (some .int) ∈ gT := gt_3 223 rfl rfl
theorem ml_X6_150 : Cond.methodLink RX6 150 yX6_mostStay ∈ gT := gt_3 224 rfl rfl
theorem im_X6_mostStay : Cond.instanceMethod yX6_mostStay ∈ gT := gt_3 226 rfl rfl
theorem cd_X6_mostStay : Cond.code yX6_mostStay cX6_mostStay 6 (some .int) ∈ gT := gt_3 227 rfl rfl
theorem ml_L_64 : Cond.methodLink RL 64 yX6_cast ∈ gT := gt_3 228 rfl rfl
theorem im_X6_cast : Cond.instanceMethod yX6_cast ∈ gT := gt_3 229 rfl rfl
theorem sl_X6_cast : Cond.selects RX6 yX6_cast yX6_cast ∈ gT := gt_3 230 rfl rfl
theorem cd_X6_cast : Cond.code yX6_cast cX6_cast 4 (some .int) ∈ gT := gt_3 231 rfl rfl
theorem kc_X6_166 : Cond.constantLong RX6 166 (-1) ∈ gT := gt_3 232 rfl rfl
theorem ml_X6_168 : Cond.methodLink RX6 168 yX6_castAll ∈ gT := gt_3 233 rfl rfl
theorem im_X6_castAll : Cond.instanceMethod yX6_castAll ∈ gT := gt_3 235 rfl rfl
theorem cd_X6_castAll : Cond.code yX6_castAll cX6_castAll 5 (some .int) ∈ gT := gt_3 236 rfl rfl
theorem ml_X6_163 : Cond.methodLink RX6 163 yX6_castWith ∈ gT := gt_3 237 rfl rfl
theorem im_X6_castWith : Cond.instanceMethod yX6_castWith ∈ gT := gt_3 239 rfl rfl
theorem cd_X6_castWith : Cond.code yX6_castWith cX6_castWith 6 (some .boolean) ∈ gT := gt_4 0 rfl rfl
theorem ml_X6_157 : Cond.methodLink RX6 157 yX6_highest ∈ gT := gt_4 1 rfl rfl
theorem im_X6_highest : Cond.instanceMethod yX6_highest ∈ gT := gt_4 3 rfl rfl
theorem cd_X6_highest : Cond.code yX6_highest cX6_highest 4 (some .int) ∈ gT := gt_4 4 rfl rfl
theorem ml_X6_160 : Cond.methodLink RX6 160 yX6_canBe ∈ gT := gt_4 5 rfl rfl
theorem im_X6_canBe : Cond.instanceMethod yX6_canBe ∈ gT := gt_4 7 rfl rfl
theorem cd_X6_canBe : Cond.code yX6_canBe cX6_canBe 4 (some .boolean) ∈ gT := gt_4 8 rfl rfl
theorem ml_X6_153 : Cond.methodLink RX6 153 yX6_canBoth ∈ gT := gt_4 9 rfl rfl
theorem im_X6_canBoth : Cond.instanceMethod yX6_canBoth ∈ gT := gt_4 11 rfl rfl
theorem cd_X6_canBoth : Cond.code yX6_canBoth cX6_canBoth 9 (some .boolean) ∈ gT := gt_4 12 rfl rfl
theorem ml_L_68 : Cond.methodLink RL 68 yX6_ill ∈ gT := gt_4 13 rfl rfl
theorem im_X6_ill : Cond.instanceMethod yX6_ill ∈ gT := gt_4 14 rfl rfl
theorem sl_X6_ill : Cond.selects RX6 yX6_ill yX6_ill ∈ gT := gt_4 15 rfl rfl
theorem cd_X6_ill : Cond.code yX6_ill cX6_ill 9 (some .int) ∈ gT := gt_4 16 rfl rfl
theorem ml_X6_171 : Cond.methodLink RX6 171 yX6_hasFrom ∈ gT := gt_4 17 rfl rfl
theorem im_X6_hasFrom : Cond.instanceMethod yX6_hasFrom ∈ gT := gt_4 19 rfl rfl
theorem cd_X6_hasFrom : Cond.code yX6_hasFrom cX6_hasFrom 5 (some .boolean) ∈ gT := gt_4 20 rfl rfl
theorem ml_X6_174 : Cond.methodLink RX6 174 yX6_isTaken ∈ gT := gt_4 21 rfl rfl
theorem im_X6_isTaken : Cond.instanceMethod yX6_isTaken ∈ gT := gt_4 23 rfl rfl
theorem cd_X6_isTaken : Cond.code yX6_isTaken cX6_isTaken 7 (some .boolean) ∈ gT := gt_4 24 rfl rfl
theorem ml_L_72 : Cond.methodLink RL 72 yX6_scene ∈ gT := gt_4 25 rfl rfl
theorem im_X6_scene : Cond.instanceMethod yX6_scene ∈ gT := gt_4 26 rfl rfl
theorem sl_X6_scene : Cond.selects RX6 yX6_scene yX6_scene ∈ gT := gt_4 27 rfl rfl
theorem cd_X6_scene : Cond.code yX6_scene cX6_scene 2 (some .int) ∈ gT := gt_4 28 rfl rfl
theorem kc_X6_177 : Cond.constantLong RX6 177 (255) ∈ gT := gt_4 29 rfl rfl
theorem ml_L_76 : Cond.methodLink RL 76 yX6_strike ∈ gT := gt_4 30 rfl rfl
theorem im_X6_strike : Cond.instanceMethod yX6_strike ∈ gT := gt_4 31 rfl rfl
theorem sl_X6_strike : Cond.selects RX6 yX6_strike yX6_strike ∈ gT := gt_4 32 rfl rfl
theorem cd_X6_strike : Cond.code yX6_strike cX6_strike 2 (some .int) ∈ gT := gt_4 33 rfl rfl
theorem ml_L_80 : Cond.methodLink RL 80 yX6_order ∈ gT := gt_4 34 rfl rfl
theorem im_X6_order : Cond.instanceMethod yX6_order ∈ gT := gt_4 35 rfl rfl
theorem sl_X6_order : Cond.selects RX6 yX6_order yX6_order ∈ gT := gt_4 36 rfl rfl
theorem cd_X6_order : Cond.code yX6_order cX6_order 7 (some .int) ∈ gT := gt_4 37 rfl rfl
theorem ml_X6_182 : Cond.methodLink RX6 182 yX6_layRow ∈ gT := gt_4 38 rfl rfl
theorem im_X6_layRow : Cond.instanceMethod yX6_layRow ∈ gT := gt_4 40 rfl rfl
theorem cd_X6_layRow : Cond.code yX6_layRow cX6_layRow 5 (some .boolean) ∈ gT := gt_4 41 rfl rfl
theorem ml_X6_185 : Cond.methodLink RX6 185 yX6_movesOfRow ∈ gT := gt_4 42 rfl rfl
theorem im_X6_movesOfRow : Cond.instanceMethod yX6_movesOfRow ∈ gT := gt_4 44 rfl rfl
theorem cd_X6_movesOfRow : Cond.code yX6_movesOfRow cX6_movesOfRow 4 (some .int) ∈ gT := gt_4 45 rfl rfl
theorem ml_L_84 : Cond.methodLink RL 84 yX6_seen ∈ gT := gt_4 46 rfl rfl
theorem im_X6_seen : Cond.instanceMethod yX6_seen ∈ gT := gt_4 47 rfl rfl
theorem sl_X6_seen : Cond.selects RX6 yX6_seen yX6_seen ∈ gT := gt_4 48 rfl rfl
theorem cd_X6_seen : Cond.code yX6_seen cX6_seen 3 (some .int) ∈ gT := gt_4 49 rfl rfl
theorem kc_X6_188 : Cond.constantLong RX6 188 (39) ∈ gT := gt_4 50 rfl rfl
theorem ml_L_88 : Cond.methodLink RL 88 yX6_forget ∈ gT := gt_4 51 rfl rfl
theorem im_X6_forget : Cond.instanceMethod yX6_forget ∈ gT := gt_4 52 rfl rfl
theorem sl_X6_forget : Cond.selects RX6 yX6_forget yX6_forget ∈ gT := gt_4 53 rfl rfl
theorem cd_X6_forget : Cond.code yX6_forget cX6_forget 2 (some .int) ∈ gT := gt_4 54 rfl rfl
theorem ml_L_92 : Cond.methodLink RL 92 yX6_fits ∈ gT := gt_4 55 rfl rfl
theorem im_X6_fits : Cond.instanceMethod yX6_fits ∈ gT := gt_4 56 rfl rfl
theorem sl_X6_fits : Cond.selects RX6 yX6_fits yX6_fits ∈ gT := gt_4 57 rfl rfl
theorem cd_X6_fits : Cond.code yX6_fits cX6_fits 5 (some .int) ∈ gT := gt_4 58 rfl rfl
theorem ml_X6_193 : Cond.methodLink RX6 193 yX6_ways ∈ gT := gt_4 59 rfl rfl
theorem im_X6_ways : Cond.instanceMethod yX6_ways ∈ gT := gt_4 61 rfl rfl
theorem cd_X6_ways : Cond.code yX6_ways cX6_ways 1 (some .int) ∈ gT := gt_4 62 rfl rfl
theorem ml_X6_196 : Cond.methodLink RX6 196 yX6_fills ∈ gT := gt_4 63 rfl rfl
theorem im_X6_fills : Cond.instanceMethod yX6_fills ∈ gT := gt_4 65 rfl rfl
theorem cd_X6_fills : Cond.code yX6_fills cX6_fills 6 (some .boolean) ∈ gT := gt_4 66 rfl rfl
theorem ml_L_96 : Cond.methodLink RL 96 yX6_could ∈ gT := gt_4 67 rfl rfl
theorem im_X6_could : Cond.instanceMethod yX6_could ∈ gT := gt_4 68 rfl rfl
theorem sl_X6_could : Cond.selects RX6 yX6_could yX6_could ∈ gT := gt_4 69 rfl rfl
theorem cd_X6_could : Cond.code yX6_could cX6_could 5 (some .int) ∈ gT := gt_4 70 rfl rfl
theorem ml_L_100 : Cond.methodLink RL 100 yX6_evening ∈ gT := gt_4 71 rfl rfl
theorem im_X6_evening : Cond.instanceMethod yX6_evening ∈ gT := gt_4 72 rfl rfl
theorem sl_X6_evening : Cond.selects RX6 yX6_evening yX6_evening ∈ gT := gt_4 73 rfl rfl
theorem cd_X6_evening : Cond.code yX6_evening cX6_evening 11 (some .int) ∈ gT := gt_4 74 rfl rfl
theorem kc_X6_199 : Cond.constantLong RX6 199 (9999) ∈ gT := gt_4 75 rfl rfl
theorem kc_X6_201 : Cond.constantLong RX6 201 (99) ∈ gT := gt_4 76 rfl rfl
theorem kc_X6_203 : Cond.constantLong RX6 203 (75) ∈ gT := gt_4 77 rfl rfl
theorem kc_X6_205 : Cond.constantLong RX6 205 (74) ∈ gT := gt_4 78 rfl rfl
theorem kc_X6_207 : Cond.constantLong RX6 207 (65537) ∈ gT := gt_4 79 rfl rfl
theorem ml_L_104 : Cond.methodLink RL 104 yX6_image ∈ gT := gt_4 80 rfl rfl
theorem im_X6_image : Cond.instanceMethod yX6_image ∈ gT := gt_4 81 rfl rfl
theorem sl_X6_image : Cond.selects RX6 yX6_image yX6_image ∈ gT := gt_4 82 rfl rfl
theorem cd_X6_image : Cond.code yX6_image cX6_image 2 (some .int) ∈ gT := gt_4 83 rfl rfl
theorem ml_X6_219 : Cond.methodLink RX6 219 yX6_passAll ∈ gT := gt_4 84 rfl rfl
theorem im_X6_passAll : Cond.instanceMethod yX6_passAll ∈ gT := gt_4 86 rfl rfl
theorem cd_X6_passAll : Cond.code yX6_passAll cX6_passAll 2 none ∈ gT := gt_4 87 rfl rfl
theorem ml_X6_216 : Cond.methodLink RX6 216 yX6_pass ∈ gT := gt_4 88 rfl rfl
theorem im_X6_pass : Cond.instanceMethod yX6_pass ∈ gT := gt_4 90 rfl rfl
theorem cd_X6_pass : Cond.code yX6_pass cX6_pass 3 (some .int) ∈ gT := gt_4 91 rfl rfl
theorem ml_L_108 : Cond.methodLink RL 108 yX6_restore ∈ gT := gt_4 92 rfl rfl
theorem im_X6_restore : Cond.instanceMethod yX6_restore ∈ gT := gt_4 93 rfl rfl
theorem sl_X6_restore : Cond.selects RX6 yX6_restore yX6_restore ∈ gT := gt_4 94 rfl rfl
theorem cd_X6_restore : Cond.code yX6_restore cX6_restore 2 (some .int) ∈ gT := gt_4 95 rfl rfl
theorem ml_L_112 : Cond.methodLink RL 112 yX6_told ∈ gT := gt_4 96 rfl rfl
theorem im_X6_told : Cond.instanceMethod yX6_told ∈ gT := gt_4 97 rfl rfl
theorem sl_X6_told : Cond.selects RX6 yX6_told yX6_told ∈ gT := gt_4 98 rfl rfl
theorem cd_X6_told : Cond.code yX6_told cX6_told 2 (some .int) ∈ gT := gt_4 99 rfl rfl
theorem sl_X5_refusalOfLines : Cond.selects RX5 yX5_refusalOfLines yX5_refusalOfLines ∈ gT := gp_1 (q := (_, _)) 0 rfl
theorem sl_X5_refusalOfEvents : Cond.selects RX5 yX5_refusalOfEvents yX5_refusalOfEvents ∈ gT := gp_1 (q := (_, _)) 1 rfl
theorem sl_X2_refuseUnless : Cond.selects RX2 yX2_refuseUnless yX2_refuseUnless ∈ gT := gp_1 (q := (_, _)) 2 rfl
theorem sl_X2_comer : Cond.selects RX2 yX2_comer yX2_comer ∈ gT := gp_1 (q := (_, _)) 3 rfl
theorem sl_X5_isLine : Cond.selects RX5 yX5_isLine yX5_isLine ∈ gT := gp_1 (q := (_, _)) 4 rfl
theorem sl_X3_breaksMay : Cond.selects RX3 yX3_breaksMay yX3_breaksMay ∈ gT := gp_1 (q := (_, _)) 5 rfl
theorem sl_X5_bar : Cond.selects RX5 yX5_bar yX5_bar ∈ gT := gp_1 (q := (_, _)) 6 rfl
theorem sl_X5_strangersAt : Cond.selects RX5 yX5_strangersAt yX5_strangersAt ∈ gT := gp_1 (q := (_, _)) 7 rfl
theorem sl_X5_strangersComings : Cond.selects RX5 yX5_strangersComings yX5_strangersComings ∈ gT := gp_1 (q := (_, _)) 8 rfl
theorem sl_X5_mostStrangers : Cond.selects RX5 yX5_mostStrangers yX5_mostStrangers ∈ gT := gp_1 (q := (_, _)) 9 rfl
theorem sl_X5_linesInLaw : Cond.selects RX5 yX5_linesInLaw yX5_linesInLaw ∈ gT := gp_1 (q := (_, _)) 10 rfl
theorem sl_X5_longestRising : Cond.selects RX5 yX5_longestRising yX5_longestRising ∈ gT := gp_1 (q := (_, _)) 11 rfl
theorem sl_X0_clashesOf : Cond.selects RX0 yX0_clashesOf yX0_clashesOf ∈ gT := gp_1 (q := (_, _)) 12 rfl
theorem sl_X0_partsOf : Cond.selects RX0 yX0_partsOf yX0_partsOf ∈ gT := gp_1 (q := (_, _)) 13 rfl
theorem sl_X0_canTakeOver : Cond.selects RX0 yX0_canTakeOver yX0_canTakeOver ∈ gT := gp_1 (q := (_, _)) 14 rfl
theorem sl_X4_fewestFrom : Cond.selects RX4 yX4_fewestFrom yX4_fewestFrom ∈ gT := gp_1 (q := (_, _)) 15 rfl
theorem sl_X4_fewestBy : Cond.selects RX4 yX4_fewestBy yX4_fewestBy ∈ gT := gp_2 (q := (_, _)) 0 rfl
theorem sl_X4_fillRow : Cond.selects RX4 yX4_fillRow yX4_fillRow ∈ gT := gp_2 (q := (_, _)) 1 rfl
theorem sl_X4_firstBest : Cond.selects RX4 yX4_firstBest yX4_firstBest ∈ gT := gp_2 (q := (_, _)) 2 rfl
theorem sl_X1_keep : Cond.selects RX1 yX1_keep yX1_keep ∈ gT := gp_2 (q := (_, _)) 3 rfl
theorem sl_X6_marks : Cond.selects RX6 yX6_marks yX6_marks ∈ gT := gp_2 (q := (_, _)) 4 rfl
theorem sl_X6_layEvents : Cond.selects RX6 yX6_layEvents yX6_layEvents ∈ gT := gp_2 (q := (_, _)) 5 rfl
theorem sl_X6_go : Cond.selects RX6 yX6_go yX6_go ∈ gT := gp_2 (q := (_, _)) 6 rfl
theorem sl_X6_breaking : Cond.selects RX6 yX6_breaking yX6_breaking ∈ gT := gp_2 (q := (_, _)) 7 rfl
theorem sl_X6_holds : Cond.selects RX6 yX6_holds yX6_holds ∈ gT := gp_2 (q := (_, _)) 8 rfl
theorem sl_X6_refusal : Cond.selects RX6 yX6_refusal yX6_refusal ∈ gT := gp_2 (q := (_, _)) 9 rfl
theorem sl_X6_linesOf : Cond.selects RX6 yX6_linesOf yX6_linesOf ∈ gT := gp_2 (q := (_, _)) 10 rfl
theorem sl_X6_mayBe : Cond.selects RX6 yX6_mayBe yX6_mayBe ∈ gT := gp_2 (q := (_, _)) 11 rfl
theorem sl_X6_bar : Cond.selects RX6 yX6_bar yX6_bar ∈ gT := gp_2 (q := (_, _)) 12 rfl
theorem sl_X6_mostStay : Cond.selects RX6 yX6_mostStay yX6_mostStay ∈ gT := gp_2 (q := (_, _)) 13 rfl
theorem sl_X6_castAll : Cond.selects RX6 yX6_castAll yX6_castAll ∈ gT := gp_2 (q := (_, _)) 14 rfl
theorem sl_X6_castWith : Cond.selects RX6 yX6_castWith yX6_castWith ∈ gT := gp_2 (q := (_, _)) 15 rfl
theorem sl_X6_highest : Cond.selects RX6 yX6_highest yX6_highest ∈ gT := gp_3 (q := (_, _)) 0 rfl
theorem sl_X6_canBe : Cond.selects RX6 yX6_canBe yX6_canBe ∈ gT := gp_3 (q := (_, _)) 1 rfl
theorem sl_X6_canBoth : Cond.selects RX6 yX6_canBoth yX6_canBoth ∈ gT := gp_3 (q := (_, _)) 2 rfl
theorem sl_X6_hasFrom : Cond.selects RX6 yX6_hasFrom yX6_hasFrom ∈ gT := gp_3 (q := (_, _)) 3 rfl
theorem sl_X6_isTaken : Cond.selects RX6 yX6_isTaken yX6_isTaken ∈ gT := gp_3 (q := (_, _)) 4 rfl
theorem sl_X6_layRow : Cond.selects RX6 yX6_layRow yX6_layRow ∈ gT := gp_3 (q := (_, _)) 5 rfl
theorem sl_X6_movesOfRow : Cond.selects RX6 yX6_movesOfRow yX6_movesOfRow ∈ gT := gp_3 (q := (_, _)) 6 rfl
theorem sl_X6_ways : Cond.selects RX6 yX6_ways yX6_ways ∈ gT := gp_3 (q := (_, _)) 7 rfl
theorem sl_X6_fills : Cond.selects RX6 yX6_fills yX6_fills ∈ gT := gp_3 (q := (_, _)) 8 rfl
theorem sl_X6_passAll : Cond.selects RX6 yX6_passAll yX6_passAll ∈ gT := gp_3 (q := (_, _)) 9 rfl
theorem sl_X6_pass : Cond.selects RX6 yX6_pass yX6_pass ∈ gT := gp_3 (q := (_, _)) 10 rfl
theorem inX0 : ∀ w ∈ wsX00, w ∈ gT := by
  intro w hw
  obtain ⟨k, hk, rfl⟩ := List.mem_map.mp hw
  have hk := List.mem_range.mp hk
  match k, hk with
  | 0, _ => exact gt_1 137 rfl rfl
  | 1, _ => exact gt_1 139 rfl rfl
  | 2, _ => exact gt_1 141 rfl rfl
  | 3, _ => exact gt_1 143 rfl rfl
  | 4, _ => exact gt_1 145 rfl rfl
  | j + 5, h => exact absurd h (by omega)
theorem inX1 : ∀ w ∈ wsX10, w ∈ gT := by
  intro w hw
  obtain ⟨k, hk, rfl⟩ := List.mem_map.mp hw
  have hk := List.mem_range.mp hk
  match k, hk with
  | 0, _ => exact gt_1 185 rfl rfl
  | 1, _ => exact gt_1 187 rfl rfl
  | 2, _ => exact gt_1 189 rfl rfl
  | j + 3, h => exact absurd h (by omega)
theorem inX2 : ∀ w ∈ wsX20, w ∈ gT := by
  intro w hw
  obtain ⟨k, hk, rfl⟩ := List.mem_map.mp hw
  have hk := List.mem_range.mp hk
  match k, hk with
  | 0, _ => exact gt_1 100 rfl rfl
  | 1, _ => exact gt_1 102 rfl rfl
  | 2, _ => exact gt_1 104 rfl rfl
  | 3, _ => exact gt_1 106 rfl rfl
  | 4, _ => exact gt_1 108 rfl rfl
  | 5, _ => exact gt_1 110 rfl rfl
  | 6, _ => exact gt_1 112 rfl rfl
  | 7, _ => exact gt_1 114 rfl rfl
  | 8, _ => exact gt_1 116 rfl rfl
  | 9, _ => exact gt_1 118 rfl rfl
  | 10, _ => exact gt_1 120 rfl rfl
  | j + 11, h => exact absurd h (by omega)
theorem inX3 : ∀ w ∈ wsX30, w ∈ gT := by
  intro w hw
  obtain ⟨k, hk, rfl⟩ := List.mem_map.mp hw
  have hk := List.mem_range.mp hk
  match k, hk with
  | 0, _ => exact gt_1 45 rfl rfl
  | 1, _ => exact gt_1 47 rfl rfl
  | 2, _ => exact gt_1 49 rfl rfl
  | 3, _ => exact gt_1 51 rfl rfl
  | 4, _ => exact gt_1 53 rfl rfl
  | 5, _ => exact gt_1 55 rfl rfl
  | 6, _ => exact gt_1 57 rfl rfl
  | 7, _ => exact gt_1 59 rfl rfl
  | 8, _ => exact gt_1 61 rfl rfl
  | 9, _ => exact gt_1 63 rfl rfl
  | j + 10, h => exact absurd h (by omega)
theorem inX4 : ∀ w ∈ wsX40, w ∈ gT := by
  intro w hw
  obtain ⟨k, hk, rfl⟩ := List.mem_map.mp hw
  have hk := List.mem_range.mp hk
  match k, hk with
  | 0, _ => exact gt_1 162 rfl rfl
  | 1, _ => exact gt_1 164 rfl rfl
  | 2, _ => exact gt_1 166 rfl rfl
  | 3, _ => exact gt_1 168 rfl rfl
  | 4, _ => exact gt_1 170 rfl rfl
  | j + 5, h => exact absurd h (by omega)
theorem inX5 : ∀ w ∈ wsX50, w ∈ gT := by
  intro w hw
  obtain ⟨k, hk, rfl⟩ := List.mem_map.mp hw
  have hk := List.mem_range.mp hk
  match k, hk with
  | 0, _ => exact gt_1 200 rfl rfl
  | 1, _ => exact gt_1 202 rfl rfl
  | 2, _ => exact gt_1 204 rfl rfl
  | 3, _ => exact gt_1 206 rfl rfl
  | 4, _ => exact gt_1 208 rfl rfl
  | 5, _ => exact gt_1 210 rfl rfl
  | 6, _ => exact gt_1 212 rfl rfl
  | 7, _ => exact gt_1 214 rfl rfl
  | j + 8, h => exact absurd h (by omega)
theorem inX6 : ∀ w ∈ wsX60, w ∈ gT := by
  intro w hw
  obtain ⟨k, hk, rfl⟩ := List.mem_map.mp hw
  have hk := List.mem_range.mp hk
  match k, hk with
  | 0, _ => exact gt_3 67 rfl rfl
  | 1, _ => exact gt_3 69 rfl rfl
  | 2, _ => exact gt_3 71 rfl rfl
  | 3, _ => exact gt_3 73 rfl rfl
  | 4, _ => exact gt_3 75 rfl rfl
  | 5, _ => exact gt_3 77 rfl rfl
  | 6, _ => exact gt_3 79 rfl rfl
  | 7, _ => exact gt_3 81 rfl rfl
  | 8, _ => exact gt_3 83 rfl rfl
  | 9, _ => exact gt_3 85 rfl rfl
  | 10, _ => exact gt_3 87 rfl rfl
  | 11, _ => exact gt_3 89 rfl rfl
  | 12, _ => exact gt_3 91 rfl rfl
  | 13, _ => exact gt_3 93 rfl rfl
  | 14, _ => exact gt_3 95 rfl rfl
  | 15, _ => exact gt_3 97 rfl rfl
  | 16, _ => exact gt_3 99 rfl rfl
  | 17, _ => exact gt_3 101 rfl rfl
  | 18, _ => exact gt_3 103 rfl rfl
  | 19, _ => exact gt_3 105 rfl rfl
  | 20, _ => exact gt_3 107 rfl rfl
  | 21, _ => exact gt_3 109 rfl rfl
  | 22, _ => exact gt_3 111 rfl rfl
  | 23, _ => exact gt_3 113 rfl rfl
  | 24, _ => exact gt_3 115 rfl rfl
  | 25, _ => exact gt_3 117 rfl rfl
  | 26, _ => exact gt_3 119 rfl rfl
  | j + 27, h => exact absurd h (by omega)
end
section
/-! the world: int fields by number, arrays by number; the cells that hold it -/
abbrev Wd : Type := (Nat → Int32) × (Nat → Nat → Int32) × (Nat → Nat → Int64)
abbrev ET : Type := va_G × (Nat → Nat) × (Nat → ClassId)
def wI (w : Wd) (k : Nat) (v : Int32) : Wd := (upd w.1 k v, w.2.1, w.2.2)
def wR (w : Wd) (k : Nat) (f : Nat → Int32) : Wd := (w.1, va_up w.2.1 k f, w.2.2)
def wA (w : Wd) (k : Nat) (i v : Int32) : Wd := wR w k (upd (w.2.1 k) i.toNatClampNeg v)
def wL (w : Wd) (k : Nat) (i : Int32) (v : Int64) : Wd := (w.1, w.2.1, va_up w.2.2 k (vp_updL (w.2.2 k) i.toNatClampNeg v))
def imgs (E : ET) : Nat → Option Nat := fun j => if j = 0 then some (E.2.1 14) else some (E.2.1 20)
def cellsOf (E : ET) (w : Wd) : va_W := [(E.2.1 0, .inr (5, [.ref (E.2.1 8), .ref (E.2.1 1), .ref (E.2.1 2), .ref (E.2.1 4), .ref (E.2.1 26), .ref (E.2.1 30), .ref (E.2.1 34), .ref (E.2.1 3)])),
  (E.2.1 1, .inl (E.2.2 3, 2, .inr (.inr (.inr (.inr (imgs E)))))),
  (E.2.1 2, .inl (E.2.2 2, 2, .inl (w.2.1 2))),
  (E.2.1 3, .inl (E.2.2 0, 9, .inl (w.2.1 3))),
  (E.2.1 4, .inr (2, [.ref (E.2.1 5), .int (w.1 0), .int (w.1 1), .int (w.1 2), .int (w.1 3), .int (w.1 4), .ref (E.2.1 6), .int (w.1 5), .int (w.1 6), .int (w.1 7), .ref (E.2.1 7)])),
  (E.2.1 5, .inl (E.2.2 0, 40, .inl (w.2.1 5))),
  (E.2.1 6, .inl (E.2.2 0, 40, .inl (w.2.1 6))),
  (E.2.1 7, .inl (E.2.2 0, 40, .inl (w.2.1 7))),
  (E.2.1 8, .inr (3, [.int (w.1 8), .int (w.1 9), .int (w.1 10), .int (w.1 11), .int (w.1 12), .ref (E.2.1 9), .ref (E.2.1 10), .ref (E.2.1 11), .ref (E.2.1 12), .ref (E.2.1 13)])),
  (E.2.1 9, .inl (E.2.2 0, 8, .inl (w.2.1 9))),
  (E.2.1 10, .inl (E.2.2 0, 8, .inl (w.2.1 10))),
  (E.2.1 11, .inl (E.2.2 0, 6, .inl (w.2.1 11))),
  (E.2.1 12, .inl (E.2.2 0, 6, .inl (w.2.1 12))),
  (E.2.1 13, .inl (E.2.2 0, 6, .inl (w.2.1 13))),
  (E.2.1 14, .inr (3, [.int (w.1 13), .int (w.1 14), .int (w.1 15), .int (w.1 16), .int (w.1 17), .ref (E.2.1 15), .ref (E.2.1 16), .ref (E.2.1 17), .ref (E.2.1 18), .ref (E.2.1 19)])),
  (E.2.1 15, .inl (E.2.2 0, 8, .inl (w.2.1 15))),
  (E.2.1 16, .inl (E.2.2 0, 8, .inl (w.2.1 16))),
  (E.2.1 17, .inl (E.2.2 0, 6, .inl (w.2.1 17))),
  (E.2.1 18, .inl (E.2.2 0, 6, .inl (w.2.1 18))),
  (E.2.1 19, .inl (E.2.2 0, 6, .inl (w.2.1 19))),
  (E.2.1 20, .inr (3, [.int (w.1 18), .int (w.1 19), .int (w.1 20), .int (w.1 21), .int (w.1 22), .ref (E.2.1 21), .ref (E.2.1 22), .ref (E.2.1 23), .ref (E.2.1 24), .ref (E.2.1 25)])),
  (E.2.1 21, .inl (E.2.2 0, 8, .inl (w.2.1 21))),
  (E.2.1 22, .inl (E.2.2 0, 8, .inl (w.2.1 22))),
  (E.2.1 23, .inl (E.2.2 0, 6, .inl (w.2.1 23))),
  (E.2.1 24, .inl (E.2.2 0, 6, .inl (w.2.1 24))),
  (E.2.1 25, .inl (E.2.2 0, 6, .inl (w.2.1 25))),
  (E.2.1 26, .inr (0, [.int (w.1 23), .ref (E.2.1 27), .int (w.1 24), .ref (E.2.1 28), .ref (E.2.1 29)])),
  (E.2.1 27, .inl (E.2.2 0, 8, .inl (w.2.1 27))),
  (E.2.1 28, .inl (E.2.2 1, 8, .inr (.inl (w.2.2 28)))),
  (E.2.1 29, .inl (E.2.2 0, 8, .inl (w.2.1 29))),
  (E.2.1 30, .inr (4, [.int (w.1 25), .ref (E.2.1 31), .int (w.1 26), .ref (E.2.1 32), .ref (E.2.1 33)])),
  (E.2.1 31, .inl (E.2.2 0, 6, .inl (w.2.1 31))),
  (E.2.1 32, .inl (E.2.2 0, 6, .inl (w.2.1 32))),
  (E.2.1 33, .inl (E.2.2 0, 384, .inl (w.2.1 33))),
  (E.2.1 34, .inr (1, [.int (w.1 27), .int (w.1 28), .ref (E.2.1 35)])),
  (E.2.1 35, .inl (E.2.2 0, 3, .inl (w.2.1 35))),
  (E.2.1 36, .inr (6, [.int (w.1 29), .int (w.1 30), .int (w.1 31), .ref (E.2.1 37), .ref (E.2.1 38), .int (w.1 32), .ref (E.2.1 39), .ref (E.2.1 40), .int (w.1 33), .ref (E.2.1 41), .int (w.1 34), .ref (E.2.1 42), .ref (E.2.1 43), .int (w.1 35), .int (w.1 36), .int (w.1 37), .int (w.1 38), .ref (E.2.1 44), .ref (E.2.1 45), .ref (E.2.1 46), .ref (E.2.1 47), .ref (E.2.1 48), .ref (E.2.1 49), .ref (E.2.1 50), .ref (E.2.1 51), .int (w.1 39), .int (w.1 40)])),
  (E.2.1 37, .inl (E.2.2 0, 64, .inl (w.2.1 37))),
  (E.2.1 38, .inl (E.2.2 0, 6, .inl (w.2.1 38))),
  (E.2.1 39, .inl (E.2.2 0, 6, .inl (w.2.1 39))),
  (E.2.1 40, .inl (E.2.2 0, 6, .inl (w.2.1 40))),
  (E.2.1 41, .inl (E.2.2 0, 40, .inl (w.2.1 41))),
  (E.2.1 42, .inl (E.2.2 0, 40, .inl (w.2.1 42))),
  (E.2.1 43, .inl (E.2.2 0, 40, .inl (w.2.1 43))),
  (E.2.1 44, .inl (E.2.2 0, 40, .inl (w.2.1 44))),
  (E.2.1 45, .inl (E.2.2 0, 8, .inl (w.2.1 45))),
  (E.2.1 46, .inl (E.2.2 0, 8, .inl (w.2.1 46))),
  (E.2.1 47, .inl (E.2.2 0, 6, .inl (w.2.1 47))),
  (E.2.1 48, .inl (E.2.2 0, 6, .inl (w.2.1 48))),
  (E.2.1 49, .inl (E.2.2 0, 3, .inl (w.2.1 49))),
  (E.2.1 50, .inl (E.2.2 0, 200, .inl (w.2.1 50))),
  (E.2.1 51, .inl (E.2.2 2, 2, .inl (w.2.1 51)))]
def tysOf (E : ET) : List (ClassId × FieldType) := [(E.2.2 0, .int), (E.2.2 1, .long), (E.2.2 2, .boolean), (E.2.2 3, .object RX3)]
theorem cells_dom (E : ET) (w : Wd) : (cellsOf E w).map Prod.fst = (List.range 52).map E.2.1 := rfl
theorem cells_at {E : ET} {w : Wd} {k : Nat} {q : Nat × va_E} (h : (cellsOf E w)[k]? = some q) : k < 52 ∧ q.1 = E.2.1 k := by
  have h1 : ((cellsOf E w).map Prod.fst)[k]? = some q.1 := by rw [List.getElem?_map, h]; rfl
  rw [cells_dom, List.getElem?_map] at h1
  obtain ⟨a, h2, h3⟩ := Option.map_eq_some_iff.mp h1
  obtain ⟨h4, h5⟩ := List.getElem?_eq_some_iff.mp h2
  rw [List.length_range] at h4
  rw [List.getElem_range] at h5
  exact ⟨h4, by rw [← h3, h5]⟩
theorem cells_ex (E : ET) (w : Wd) {k : Nat} (h : k < 52) : ∃ e, (cellsOf E w)[k]? = some (E.2.1 k, e) := by
  have hl : (cellsOf E w).length = 52 := rfl
  have h2 : k < (cellsOf E w).length := by omega
  refine ⟨((cellsOf E w)[k]).2, ?_⟩
  rw [List.getElem?_eq_getElem h2]
  have h3 := cells_at (List.getElem?_eq_getElem h2)
  rw [← h3.2]
theorem dom_any {A : Nat → Prop} {E : ET} {w : Wd} (w2 : Wd) (h : va_D A (cellsOf E w)) : va_D A (cellsOf E w2) := by
  refine ⟨fun i j p q hi hj hpq => ?_, fun k q hk => ?_⟩
  · obtain ⟨h1, h2⟩ := cells_at hi
    obtain ⟨h3, h4⟩ := cells_at hj
    obtain ⟨e, he⟩ := cells_ex E w h1
    obtain ⟨f, hf⟩ := cells_ex E w h3
    exact h.1 i j _ _ he hf (by show E.2.1 i = E.2.1 j; rw [← h2, ← h4, hpq])
  · obtain ⟨h1, h2⟩ := cells_at hk
    obtain ⟨e, he⟩ := cells_ex E w h1
    rw [h2]
    exact h.2 k _ he
def AA (E : ET) (sz : Nat) : Nat → Prop := fun q => (∃ k, k < 52 ∧ q = E.2.1 k) ∨ sz ≤ q
theorem AA_in {A : Nat → Prop} {E : ET} {w : Wd} (h : va_D A (cellsOf E w)) {n sz : Nat} (hn : n ≤ sz) (hA : ∀ q, n ≤ q → A q) : ∀ q, AA E sz q → A q := by
  intro q hq
  rcases hq with ⟨k, h1, h2⟩ | h1
  · obtain ⟨e, he⟩ := cells_ex E w h1
    rw [h2]
    exact h.2 k _ he
  · exact hA q (Nat.le_trans hn h1)
theorem dom_AA {A : Nat → Prop} {E : ET} {w : Wd} (sz : Nat) (h : va_D A (cellsOf E w)) : va_D (AA E sz) (cellsOf E w) := by
  refine ⟨h.1, fun k q hk => ?_⟩
  obtain ⟨h1, h2⟩ := cells_at hk
  exact Or.inl ⟨k, h1, h2⟩
abbrev Fx : Type := ET × Program × Launch × Env × Room × State × MethodId × Array Value × List Frame × Method × Code × (Nat → Prop) × (State → Prop) × Nat × Nat × Nat
abbrev Ad (X : Fx) (k : Nat) : Nat := X.1.2.1 k
def Wa (X : Fx) (w : Wd) (pc : Nat) (lv : List (Nat × Value)) (st : List Value) : Prop :=
  match X with
  | (E, p, l, e, R, s, m, args, below, meth, c, A, Q, nL, ck, sk) => ∀ (H : Heap) (locs : List Loc) (ls : Array Slot), va_P E.1 vwCl (cellsOf E w) H → va_S A s.heap H locs → lv_has ls nL lv → W p l e R s m args below meth c H locs ck sk Q (F0 m pc ls st)
def Cx (X : Fx) (cc : ByteArray) (own : String) (nl fr lo : Nat) : Prop :=
  match X with
  | (E, p, _, _, R, s, m, args, _, meth, c, A, _, nL, ck, sk) => p.tables.exec = Jvm.exec ∧ c.code = cc ∧ c.maxLocals = nL ∧ nL = nl ∧ s.vm.findClass own = some m.cls ∧ (∀ w ∈ gT, w.before args s = true) ∧ va_K E.1 vwCl (tysOf E) s ∧ meth.locks = false ∧ (∀ q, s.heap.size ≤ q → A q) ∧ (∀ w, va_D A (cellsOf E w)) ∧ fr ≤ R.frames ∧ lo ≤ R.locals ∧ ck ≤ R.cells ∧ sk ≤ R.slots ∧ ∀ v ∈ gN, va_Nw v s
theorem gT_good : ∀ w ∈ gT, goodWord w = true := fun w h => (List.mem_filter.mp h).2
theorem gd_code {w : Cond} (h : w ∈ gT) : GoodIn gT (w :: gT) := fun v hv => by
  rcases List.mem_cons.mp hv with rfl | h2
  · exact ⟨h, good_of_word (gT_good _ h)⟩
  · exact ⟨h2, good_of_word (gT_good _ h2)⟩
theorem gN_warm {s U : State} (hW : s.WarmedH U.vm) (h : ∀ w ∈ gN, va_Nw w s) : ∀ w ∈ gN, va_Nw w U := by
  intro w hw
  have h1 := (List.mem_filter.mp hw).2
  cases w <;> first | (cases h1; done) | exact va_Nw.warmF hW (h _ hw)
theorem gN_same {u U : State} (hv : u.vm = U.vm) (h : ∀ w ∈ gN, va_Nw w u) : ∀ w ∈ gN, va_Nw w U := by
  intro w hw
  have h1 := (List.mem_filter.mp hw).2
  cases w <;> first | (cases h1; done) | exact va_Nw.same rfl hv (h _ hw)
def gd (i : Int32) (n : Nat) : Bool := decide (0 ≤ i.toInt) && decide (i.toInt < n)
theorem gd_iff {i : Int32} {n : Nat} : gd i n = true ↔ 0 ≤ i.toInt ∧ i.toInt < n := by
  simp only [gd, Bool.and_eq_true, decide_eq_true_eq]
theorem gd_in {i : Int32} {n : Nat} (h : gd i n = true) : vp_in i n := vp_in_iff.mpr (gd_iff.mp h)
/-- goes on where a test holds -/
def gu {β : Type} (b : Bool) (a : Option β) : Option β := match b with
  | true => a
  | false => none
theorem gu_some {β : Type} {b : Bool} {a : Option β} {r : β} (h : gu b a = some r) : b = true ∧ a = some r := by
  cases b with
  | true => exact ⟨rfl, h⟩
  | false => cases h
def it {α β : Type} (body : (α → Option β) → α → Option β) : Nat → α → Option β
  | 0, _ => none
  | n + 1, a => body (it body n) a
theorem it_mach {α β : Type} {body : (α → Option β) → α → Option β} {b : β} {P : α → Prop} (h : ∀ k, (∀ a, k a = some b → P a) → ∀ a, body k a = some b → P a) : ∀ n a, it body n a = some b → P a := by
  intro n
  induction n with
  | zero => intro a h2; cases h2
  | succ n ih => intro a h2; exact h (it body n) ih a h2
def fu : Nat := 1000000
def Let {α β : Type} (a : α) (f : α → β) : β := f a
theorem obind {α β : Type} {o : Option α} {f : α → Option β} {b : β} (h : o.bind f = some b) : ∃ a, o = some a ∧ f a = some b := by
  cases o with
  | none => cases h
  | some a => exact ⟨a, rfl, h⟩
def ushr (x y : Int32) : Int32 := (x.toUInt32 >>> (y.toUInt32 &&& Int32.toUInt32 31)).toInt32
def lushr (x : Int64) (y : Int32) : Int64 := (x.toUInt64 >>> (y.toInt64.toUInt64 &&& Int64.toUInt64 63)).toInt64
def lshl (x : Int64) (y : Int32) : Int64 := x <<< (y.toInt64 &&& 63)
section WR
variable {X : Fx} {cc : ByteArray} {own : String} {nl fr lo : Nat} {w : Wd} {pc : Nat} {lv : List (Nat × Value)} {rest : List Value}
theorem wa_iadd (h : Cx X cc own nl fr lo) {x y : Int32} (d : decode cc pc = .ok (.iadd, 1)) (k : Wa X w (pc + 1) lv (.int (x + y) :: rest)) : Wa X w pc lv (.int y :: .int x :: rest) := by
  obtain ⟨E, p, l, e, R, s, m, args, below, meth, c, A, Q, nL, ck, sk⟩ := X
  obtain ⟨hx, hb, hml, hnl, hown, hts, hK, hlk, hA, hD, hfr, hlo, hck, hsk, hnw⟩ := h
  exact fun H locs ls hP hS hl => lv_iadd hx hb d (k H locs ls hP hS hl)
theorem wa_isub (h : Cx X cc own nl fr lo) {x y : Int32} (d : decode cc pc = .ok (.isub, 1)) (k : Wa X w (pc + 1) lv (.int (x - y) :: rest)) : Wa X w pc lv (.int y :: .int x :: rest) := by
  obtain ⟨E, p, l, e, R, s, m, args, below, meth, c, A, Q, nL, ck, sk⟩ := X
  obtain ⟨hx, hb, hml, hnl, hown, hts, hK, hlk, hA, hD, hfr, hlo, hck, hsk, hnw⟩ := h
  exact fun H locs ls hP hS hl => lv_isub hx hb d (k H locs ls hP hS hl)
theorem wa_imul (h : Cx X cc own nl fr lo) {x y : Int32} (d : decode cc pc = .ok (.imul, 1)) (k : Wa X w (pc + 1) lv (.int (x * y) :: rest)) : Wa X w pc lv (.int y :: .int x :: rest) := by
  obtain ⟨E, p, l, e, R, s, m, args, below, meth, c, A, Q, nL, ck, sk⟩ := X
  obtain ⟨hx, hb, hml, hnl, hown, hts, hK, hlk, hA, hD, hfr, hlo, hck, hsk, hnw⟩ := h
  exact fun H locs ls hP hS hl => lv_imul hx hb d (k H locs ls hP hS hl)
theorem wa_iand (h : Cx X cc own nl fr lo) {x y : Int32} (d : decode cc pc = .ok (.iand, 1)) (k : Wa X w (pc + 1) lv (.int (x &&& y) :: rest)) : Wa X w pc lv (.int y :: .int x :: rest) := by
  obtain ⟨E, p, l, e, R, s, m, args, below, meth, c, A, Q, nL, ck, sk⟩ := X
  obtain ⟨hx, hb, hml, hnl, hown, hts, hK, hlk, hA, hD, hfr, hlo, hck, hsk, hnw⟩ := h
  exact fun H locs ls hP hS hl => lv_iand hx hb d (k H locs ls hP hS hl)
theorem wa_ior (h : Cx X cc own nl fr lo) {x y : Int32} (d : decode cc pc = .ok (.ior, 1)) (k : Wa X w (pc + 1) lv (.int (x ||| y) :: rest)) : Wa X w pc lv (.int y :: .int x :: rest) := by
  obtain ⟨E, p, l, e, R, s, m, args, below, meth, c, A, Q, nL, ck, sk⟩ := X
  obtain ⟨hx, hb, hml, hnl, hown, hts, hK, hlk, hA, hD, hfr, hlo, hck, hsk, hnw⟩ := h
  exact fun H locs ls hP hS hl => lv_ior hx hb d (k H locs ls hP hS hl)
theorem wa_ixor (h : Cx X cc own nl fr lo) {x y : Int32} (d : decode cc pc = .ok (.ixor, 1)) (k : Wa X w (pc + 1) lv (.int (x ^^^ y) :: rest)) : Wa X w pc lv (.int y :: .int x :: rest) := by
  obtain ⟨E, p, l, e, R, s, m, args, below, meth, c, A, Q, nL, ck, sk⟩ := X
  obtain ⟨hx, hb, hml, hnl, hown, hts, hK, hlk, hA, hD, hfr, hlo, hck, hsk, hnw⟩ := h
  exact fun H locs ls hP hS hl => lv_ixor hx hb d (k H locs ls hP hS hl)
theorem wa_ishl (h : Cx X cc own nl fr lo) {x y : Int32} (d : decode cc pc = .ok (.ishl, 1)) (k : Wa X w (pc + 1) lv (.int (x <<< (y &&& 31)) :: rest)) : Wa X w pc lv (.int y :: .int x :: rest) := by
  obtain ⟨E, p, l, e, R, s, m, args, below, meth, c, A, Q, nL, ck, sk⟩ := X
  obtain ⟨hx, hb, hml, hnl, hown, hts, hK, hlk, hA, hD, hfr, hlo, hck, hsk, hnw⟩ := h
  exact fun H locs ls hP hS hl => lv_ishl hx hb d (k H locs ls hP hS hl)
theorem wa_ishr (h : Cx X cc own nl fr lo) {x y : Int32} (d : decode cc pc = .ok (.ishr, 1)) (k : Wa X w (pc + 1) lv (.int (x >>> (y &&& 31)) :: rest)) : Wa X w pc lv (.int y :: .int x :: rest) := by
  obtain ⟨E, p, l, e, R, s, m, args, below, meth, c, A, Q, nL, ck, sk⟩ := X
  obtain ⟨hx, hb, hml, hnl, hown, hts, hK, hlk, hA, hD, hfr, hlo, hck, hsk, hnw⟩ := h
  exact fun H locs ls hP hS hl => lv_ishr hx hb d (k H locs ls hP hS hl)
theorem wa_iushr (h : Cx X cc own nl fr lo) {x y : Int32} (d : decode cc pc = .ok (.iushr, 1)) (k : Wa X w (pc + 1) lv (.int (ushr x y) :: rest)) : Wa X w pc lv (.int y :: .int x :: rest) := by
  obtain ⟨E, p, l, e, R, s, m, args, below, meth, c, A, Q, nL, ck, sk⟩ := X
  obtain ⟨hx, hb, hml, hnl, hown, hts, hK, hlk, hA, hD, hfr, hlo, hck, hsk, hnw⟩ := h
  exact fun H locs ls hP hS hl => lv_iushr hx hb d rfl (k H locs ls hP hS hl)
theorem wa_ladd (h : Cx X cc own nl fr lo) {x y : Int64} (d : decode cc pc = .ok (.ladd, 1)) (k : Wa X w (pc + 1) lv (.long (x + y) :: rest)) : Wa X w pc lv (.long y :: .long x :: rest) := by
  obtain ⟨E, p, l, e, R, s, m, args, below, meth, c, A, Q, nL, ck, sk⟩ := X
  obtain ⟨hx, hb, hml, hnl, hown, hts, hK, hlk, hA, hD, hfr, hlo, hck, hsk, hnw⟩ := h
  exact fun H locs ls hP hS hl => lv_ladd hx hb d (k H locs ls hP hS hl)
theorem wa_lsub (h : Cx X cc own nl fr lo) {x y : Int64} (d : decode cc pc = .ok (.lsub, 1)) (k : Wa X w (pc + 1) lv (.long (x - y) :: rest)) : Wa X w pc lv (.long y :: .long x :: rest) := by
  obtain ⟨E, p, l, e, R, s, m, args, below, meth, c, A, Q, nL, ck, sk⟩ := X
  obtain ⟨hx, hb, hml, hnl, hown, hts, hK, hlk, hA, hD, hfr, hlo, hck, hsk, hnw⟩ := h
  exact fun H locs ls hP hS hl => lv_lsub hx hb d (k H locs ls hP hS hl)
theorem wa_lmul (h : Cx X cc own nl fr lo) {x y : Int64} (d : decode cc pc = .ok (.lmul, 1)) (k : Wa X w (pc + 1) lv (.long (x * y) :: rest)) : Wa X w pc lv (.long y :: .long x :: rest) := by
  obtain ⟨E, p, l, e, R, s, m, args, below, meth, c, A, Q, nL, ck, sk⟩ := X
  obtain ⟨hx, hb, hml, hnl, hown, hts, hK, hlk, hA, hD, hfr, hlo, hck, hsk, hnw⟩ := h
  exact fun H locs ls hP hS hl => lv_lmul hx hb d (k H locs ls hP hS hl)
theorem wa_land (h : Cx X cc own nl fr lo) {x y : Int64} (d : decode cc pc = .ok (.land, 1)) (k : Wa X w (pc + 1) lv (.long (x &&& y) :: rest)) : Wa X w pc lv (.long y :: .long x :: rest) := by
  obtain ⟨E, p, l, e, R, s, m, args, below, meth, c, A, Q, nL, ck, sk⟩ := X
  obtain ⟨hx, hb, hml, hnl, hown, hts, hK, hlk, hA, hD, hfr, hlo, hck, hsk, hnw⟩ := h
  exact fun H locs ls hP hS hl => lv_land hx hb d (k H locs ls hP hS hl)
theorem wa_lor (h : Cx X cc own nl fr lo) {x y : Int64} (d : decode cc pc = .ok (.lor, 1)) (k : Wa X w (pc + 1) lv (.long (x ||| y) :: rest)) : Wa X w pc lv (.long y :: .long x :: rest) := by
  obtain ⟨E, p, l, e, R, s, m, args, below, meth, c, A, Q, nL, ck, sk⟩ := X
  obtain ⟨hx, hb, hml, hnl, hown, hts, hK, hlk, hA, hD, hfr, hlo, hck, hsk, hnw⟩ := h
  exact fun H locs ls hP hS hl => lv_lor hx hb d (k H locs ls hP hS hl)
theorem wa_idiv (h : Cx X cc own nl fr lo) {x y : Int32} (hne : ¬ y = 0) (d : decode cc pc = .ok (.idiv, 1)) (k : Wa X w (pc + 1) lv (.int (x / y) :: rest)) : Wa X w pc lv (.int y :: .int x :: rest) := by
  obtain ⟨E, p, l, e, R, s, m, args, below, meth, c, A, Q, nL, ck, sk⟩ := X
  obtain ⟨hx, hb, hml, hnl, hown, hts, hK, hlk, hA, hD, hfr, hlo, hck, hsk, hnw⟩ := h
  exact fun H locs ls hP hS hl => lv_idiv hx hb d hne (k H locs ls hP hS hl)
theorem wa_irem (h : Cx X cc own nl fr lo) {x y : Int32} (hne : ¬ y = 0) (d : decode cc pc = .ok (.irem, 1)) (k : Wa X w (pc + 1) lv (.int (x - x / y * y) :: rest)) : Wa X w pc lv (.int y :: .int x :: rest) := by
  obtain ⟨E, p, l, e, R, s, m, args, below, meth, c, A, Q, nL, ck, sk⟩ := X
  obtain ⟨hx, hb, hml, hnl, hown, hts, hK, hlk, hA, hD, hfr, hlo, hck, hsk, hnw⟩ := h
  exact fun H locs ls hP hS hl => lv_irem hx hb d hne (k H locs ls hP hS hl)
theorem wa_lrem (h : Cx X cc own nl fr lo) {x y : Int64} (hne : ¬ y = 0) (d : decode cc pc = .ok (.lrem, 1)) (k : Wa X w (pc + 1) lv (.long (x - x / y * y) :: rest)) : Wa X w pc lv (.long y :: .long x :: rest) := by
  obtain ⟨E, p, l, e, R, s, m, args, below, meth, c, A, Q, nL, ck, sk⟩ := X
  obtain ⟨hx, hb, hml, hnl, hown, hts, hK, hlk, hA, hD, hfr, hlo, hck, hsk, hnw⟩ := h
  exact fun H locs ls hP hS hl => lv_lrem hx hb d hne (k H locs ls hP hS hl)
theorem wa_lshl (h : Cx X cc own nl fr lo) {x : Int64} {y : Int32} (d : decode cc pc = .ok (.lshl, 1)) (k : Wa X w (pc + 1) lv (.long (lshl x y) :: rest)) : Wa X w pc lv (.int y :: .long x :: rest) := by
  obtain ⟨E, p, l, e, R, s, m, args, below, meth, c, A, Q, nL, ck, sk⟩ := X
  obtain ⟨hx, hb, hml, hnl, hown, hts, hK, hlk, hA, hD, hfr, hlo, hck, hsk, hnw⟩ := h
  exact fun H locs ls hP hS hl => lv_lshl hx hb d rfl (k H locs ls hP hS hl)
theorem wa_lushr (h : Cx X cc own nl fr lo) {x : Int64} {y : Int32} (d : decode cc pc = .ok (.lushr, 1)) (k : Wa X w (pc + 1) lv (.long (lushr x y) :: rest)) : Wa X w pc lv (.int y :: .long x :: rest) := by
  obtain ⟨E, p, l, e, R, s, m, args, below, meth, c, A, Q, nL, ck, sk⟩ := X
  obtain ⟨hx, hb, hml, hnl, hown, hts, hK, hlk, hA, hD, hfr, hlo, hck, hsk, hnw⟩ := h
  exact fun H locs ls hP hS hl => lv_lushr hx hb d rfl (k H locs ls hP hS hl)
theorem wa_lcmp (h : Cx X cc own nl fr lo) {x y : Int64} (d : decode cc pc = .ok (.lcmp, 1)) (k : Wa X w (pc + 1) lv (.int (lg_cmp x y) :: rest)) : Wa X w pc lv (.long y :: .long x :: rest) := by
  obtain ⟨E, p, l, e, R, s, m, args, below, meth, c, A, Q, nL, ck, sk⟩ := X
  obtain ⟨hx, hb, hml, hnl, hown, hts, hK, hlk, hA, hD, hfr, hlo, hck, hsk, hnw⟩ := h
  exact fun H locs ls hP hS hl => W.lcmp hx hb d (k H locs ls hP hS hl)
theorem wa_i2l (h : Cx X cc own nl fr lo) {x : Int32} (d : decode cc pc = .ok (.i2l, 1)) (k : Wa X w (pc + 1) lv (.long x.toInt64 :: rest)) : Wa X w pc lv (.int x :: rest) := by
  obtain ⟨E, p, l, e, R, s, m, args, below, meth, c, A, Q, nL, ck, sk⟩ := X
  obtain ⟨hx, hb, hml, hnl, hown, hts, hK, hlk, hA, hD, hfr, hlo, hck, hsk, hnw⟩ := h
  exact fun H locs ls hP hS hl => lv_i2l hx hb d rfl (k H locs ls hP hS hl)
theorem wa_l2i (h : Cx X cc own nl fr lo) {x : Int64} (d : decode cc pc = .ok (.l2i, 1)) (k : Wa X w (pc + 1) lv (.int x.toInt32 :: rest)) : Wa X w pc lv (.long x :: rest) := by
  obtain ⟨E, p, l, e, R, s, m, args, below, meth, c, A, Q, nL, ck, sk⟩ := X
  obtain ⟨hx, hb, hml, hnl, hown, hts, hK, hlk, hA, hD, hfr, hlo, hck, hsk, hnw⟩ := h
  exact fun H locs ls hP hS hl => lv_l2i hx hb d rfl (k H locs ls hP hS hl)
theorem wa_iconst (h : Cx X cc own nl fr lo) {n : Int} (v : Int32) (hv : Int32.ofInt n = v) (d : decode cc pc = .ok (.iconst n, 1)) (k : Wa X w (pc + 1) lv (.int v :: rest)) : Wa X w pc lv rest := by
  obtain ⟨E, p, l, e, R, s, m, args, below, meth, c, A, Q, nL, ck, sk⟩ := X
  obtain ⟨hx, hb, hml, hnl, hown, hts, hK, hlk, hA, hD, hfr, hlo, hck, hsk, hnw⟩ := h
  exact fun H locs ls hP hS hl => lv_iconst hx hb d hv (k H locs ls hP hS hl)
theorem wa_bipush (h : Cx X cc own nl fr lo) {n : Int} (v : Int32) (hv : (Int8.ofInt n).toInt32 = v) (d : decode cc pc = .ok (.bipush n, 2)) (k : Wa X w (pc + 2) lv (.int v :: rest)) : Wa X w pc lv rest := by
  obtain ⟨E, p, l, e, R, s, m, args, below, meth, c, A, Q, nL, ck, sk⟩ := X
  obtain ⟨hx, hb, hml, hnl, hown, hts, hK, hlk, hA, hD, hfr, hlo, hck, hsk, hnw⟩ := h
  exact fun H locs ls hP hS hl => lv_bipush hx hb d hv (k H locs ls hP hS hl)
theorem wa_sipush (h : Cx X cc own nl fr lo) {n : Int} (v : Int32) (hv : (Int16.ofInt n).toInt32 = v) (d : decode cc pc = .ok (.sipush n, 3)) (k : Wa X w (pc + 3) lv (.int v :: rest)) : Wa X w pc lv rest := by
  obtain ⟨E, p, l, e, R, s, m, args, below, meth, c, A, Q, nL, ck, sk⟩ := X
  obtain ⟨hx, hb, hml, hnl, hown, hts, hK, hlk, hA, hD, hfr, hlo, hck, hsk, hnw⟩ := h
  exact fun H locs ls hP hS hl => lv_sipush hx hb d hv (k H locs ls hP hS hl)
theorem wa_lconst (h : Cx X cc own nl fr lo) {n : Fin 2} (v : Int64) (hv : Int64.ofNat (n : Nat) = v) (d : decode cc pc = .ok (.lconst n, 1)) (k : Wa X w (pc + 1) lv (.long v :: rest)) : Wa X w pc lv rest := by
  obtain ⟨E, p, l, e, R, s, m, args, below, meth, c, A, Q, nL, ck, sk⟩ := X
  obtain ⟨hx, hb, hml, hnl, hown, hts, hK, hlk, hA, hD, hfr, hlo, hck, hsk, hnw⟩ := h
  exact fun H locs ls hP hS hl => lv_lconst hx hb d hv (k H locs ls hP hS hl)
theorem wa_ldc (h : Cx X cc own nl fr lo) {i : Nat} {v : Int32} (hc : Cond.constant own i v ∈ gT) (d : decode cc pc = .ok (.ldc i, 2)) (k : Wa X w (pc + 2) lv (.int v :: rest)) : Wa X w pc lv rest := by
  obtain ⟨E, p, l, e, R, s, m, args, below, meth, c, A, Q, nL, ck, sk⟩ := X
  obtain ⟨hx, hb, hml, hnl, hown, hts, hK, hlk, hA, hD, hfr, hlo, hck, hsk, hnw⟩ := h
  exact fun H locs ls hP hS hl => lv_ldc hx hb hown (hts _ hc) d (k H locs ls hP hS hl)
theorem wa_ldcw (h : Cx X cc own nl fr lo) {i : Nat} {v : Int32} (hc : Cond.constant own i v ∈ gT) (d : decode cc pc = .ok (.ldc_w i, 3)) (k : Wa X w (pc + 3) lv (.int v :: rest)) : Wa X w pc lv rest := by
  obtain ⟨E, p, l, e, R, s, m, args, below, meth, c, A, Q, nL, ck, sk⟩ := X
  obtain ⟨hx, hb, hml, hnl, hown, hts, hK, hlk, hA, hD, hfr, hlo, hck, hsk, hnw⟩ := h
  exact fun H locs ls hP hS hl => lv_ldcw hx hb hown (hts _ hc) d (k H locs ls hP hS hl)
theorem wa_ldc2 (h : Cx X cc own nl fr lo) {i : Nat} {v : Int64} (hc : Cond.constantLong own i v ∈ gT) (d : decode cc pc = .ok (.ldc2_w i, 3)) (k : Wa X w (pc + 3) lv (.long v :: rest)) : Wa X w pc lv rest := by
  obtain ⟨E, p, l, e, R, s, m, args, below, meth, c, A, Q, nL, ck, sk⟩ := X
  obtain ⟨hx, hb, hml, hnl, hown, hts, hK, hlk, hA, hD, hfr, hlo, hck, hsk, hnw⟩ := h
  exact fun H locs ls hP hS hl => lv_ldc2 hx hb hown (hts _ hc) d (k H locs ls hP hS hl)
theorem wa_iload_n (h : Cx X cc own nl fr lo) {f : Fin 4} {i : Nat} {x : Int32} (j : Nat) (hi : (f : Nat) = i) (hj : lv[j]? = some (i, .int x)) (d : decode cc pc = .ok (.iload_n f, 1)) (k : Wa X w (pc + 1) lv (.int x :: rest)) : Wa X w pc lv rest := by
  obtain ⟨E, p, l, e, R, s, m, args, below, meth, c, A, Q, nL, ck, sk⟩ := X
  obtain ⟨hx, hb, hml, hnl, hown, hts, hK, hlk, hA, hD, hfr, hlo, hck, hsk, hnw⟩ := h
  exact fun H locs ls hP hS hl => lv_iload_n hx hb d hi (lv_at hl j hj) (k H locs ls hP hS hl)
theorem wa_iload (h : Cx X cc own nl fr lo) {i : Nat} {x : Int32} (j : Nat) (hj : lv[j]? = some (i, .int x)) (d : decode cc pc = .ok (.iload i, 2)) (k : Wa X w (pc + 2) lv (.int x :: rest)) : Wa X w pc lv rest := by
  obtain ⟨E, p, l, e, R, s, m, args, below, meth, c, A, Q, nL, ck, sk⟩ := X
  obtain ⟨hx, hb, hml, hnl, hown, hts, hK, hlk, hA, hD, hfr, hlo, hck, hsk, hnw⟩ := h
  exact fun H locs ls hP hS hl => lv_iload hx hb d (lv_at hl j hj) (k H locs ls hP hS hl)
theorem wa_lload_n (h : Cx X cc own nl fr lo) {f : Fin 4} {i : Nat} {x : Int64} (j : Nat) (hi : (f : Nat) = i) (hj : lv[j]? = some (i, .long x)) (d : decode cc pc = .ok (.lload_n f, 1)) (k : Wa X w (pc + 1) lv (.long x :: rest)) : Wa X w pc lv rest := by
  obtain ⟨E, p, l, e, R, s, m, args, below, meth, c, A, Q, nL, ck, sk⟩ := X
  obtain ⟨hx, hb, hml, hnl, hown, hts, hK, hlk, hA, hD, hfr, hlo, hck, hsk, hnw⟩ := h
  exact fun H locs ls hP hS hl => lv_lload_n hx hb d hi (lv_at hl j hj) (k H locs ls hP hS hl)
theorem wa_lload (h : Cx X cc own nl fr lo) {i : Nat} {x : Int64} (j : Nat) (hj : lv[j]? = some (i, .long x)) (d : decode cc pc = .ok (.lload i, 2)) (k : Wa X w (pc + 2) lv (.long x :: rest)) : Wa X w pc lv rest := by
  obtain ⟨E, p, l, e, R, s, m, args, below, meth, c, A, Q, nL, ck, sk⟩ := X
  obtain ⟨hx, hb, hml, hnl, hown, hts, hK, hlk, hA, hD, hfr, hlo, hck, hsk, hnw⟩ := h
  exact fun H locs ls hP hS hl => lv_lload hx hb d (lv_at hl j hj) (k H locs ls hP hS hl)
theorem wa_aload_n (h : Cx X cc own nl fr lo) {f : Fin 4} {i : Nat} {x : Nat} (j : Nat) (hi : (f : Nat) = i) (hj : lv[j]? = some (i, .ref x)) (d : decode cc pc = .ok (.aload_n f, 1)) (k : Wa X w (pc + 1) lv (.ref x :: rest)) : Wa X w pc lv rest := by
  obtain ⟨E, p, l, e, R, s, m, args, below, meth, c, A, Q, nL, ck, sk⟩ := X
  obtain ⟨hx, hb, hml, hnl, hown, hts, hK, hlk, hA, hD, hfr, hlo, hck, hsk, hnw⟩ := h
  exact fun H locs ls hP hS hl => lv_aload_n hx hb d hi (lv_at hl j hj) (k H locs ls hP hS hl)
theorem wa_aload (h : Cx X cc own nl fr lo) {i : Nat} {x : Nat} (j : Nat) (hj : lv[j]? = some (i, .ref x)) (d : decode cc pc = .ok (.aload i, 2)) (k : Wa X w (pc + 2) lv (.ref x :: rest)) : Wa X w pc lv rest := by
  obtain ⟨E, p, l, e, R, s, m, args, below, meth, c, A, Q, nL, ck, sk⟩ := X
  obtain ⟨hx, hb, hml, hnl, hown, hts, hK, hlk, hA, hD, hfr, hlo, hck, hsk, hnw⟩ := h
  exact fun H locs ls hP hS hl => lv_aload hx hb d (lv_at hl j hj) (k H locs ls hP hS hl)
theorem wa_istore_n (h : Cx X cc own nl fr lo) {f : Fin 4} {i : Nat} {x : Int32} {lv2 : List (Nat × Value)} (hi : (f : Nat) = i) (hn : i < nl) (hl2 : (i, Value.int x) :: lv.filter (fun q => !(q.1 == i) && !(q.1 + 1 == i && q.2.category == 2)) = lv2) (d : decode cc pc = .ok (.istore_n f, 1)) (k : Wa X w (pc + 1) lv2 rest) : Wa X w pc lv (.int x :: rest) := by
  obtain ⟨E, p, l, e, R, s, m, args, below, meth, c, A, Q, nL, ck, sk⟩ := X
  obtain ⟨hx, hb, hml, hnl, hown, hts, hK, hlk, hA, hD, hfr, hlo, hck, hsk, hnw⟩ := h
  exact fun H locs ls hP hS hl => lv_istore_n hx hb d hi hl (hnl ▸ hn) hl2 (fun ls hl => k H locs ls hP hS hl)
theorem wa_istore (h : Cx X cc own nl fr lo) {i : Nat} {x : Int32} {lv2 : List (Nat × Value)} (hn : i < nl) (hl2 : (i, Value.int x) :: lv.filter (fun q => !(q.1 == i) && !(q.1 + 1 == i && q.2.category == 2)) = lv2) (d : decode cc pc = .ok (.istore i, 2)) (k : Wa X w (pc + 2) lv2 rest) : Wa X w pc lv (.int x :: rest) := by
  obtain ⟨E, p, l, e, R, s, m, args, below, meth, c, A, Q, nL, ck, sk⟩ := X
  obtain ⟨hx, hb, hml, hnl, hown, hts, hK, hlk, hA, hD, hfr, hlo, hck, hsk, hnw⟩ := h
  exact fun H locs ls hP hS hl => lv_istore hx hb d hl (hnl ▸ hn) hl2 (fun ls hl => k H locs ls hP hS hl)
theorem wa_astore_n (h : Cx X cc own nl fr lo) {f : Fin 4} {i : Nat} {x : Nat} {lv2 : List (Nat × Value)} (hi : (f : Nat) = i) (hn : i < nl) (hl2 : (i, Value.ref x) :: lv.filter (fun q => !(q.1 == i) && !(q.1 + 1 == i && q.2.category == 2)) = lv2) (d : decode cc pc = .ok (.astore_n f, 1)) (k : Wa X w (pc + 1) lv2 rest) : Wa X w pc lv (.ref x :: rest) := by
  obtain ⟨E, p, l, e, R, s, m, args, below, meth, c, A, Q, nL, ck, sk⟩ := X
  obtain ⟨hx, hb, hml, hnl, hown, hts, hK, hlk, hA, hD, hfr, hlo, hck, hsk, hnw⟩ := h
  exact fun H locs ls hP hS hl => lv_astore_n hx hb d hi hl (hnl ▸ hn) hl2 (fun ls hl => k H locs ls hP hS hl)
theorem wa_astore (h : Cx X cc own nl fr lo) {i : Nat} {x : Nat} {lv2 : List (Nat × Value)} (hn : i < nl) (hl2 : (i, Value.ref x) :: lv.filter (fun q => !(q.1 == i) && !(q.1 + 1 == i && q.2.category == 2)) = lv2) (d : decode cc pc = .ok (.astore i, 2)) (k : Wa X w (pc + 2) lv2 rest) : Wa X w pc lv (.ref x :: rest) := by
  obtain ⟨E, p, l, e, R, s, m, args, below, meth, c, A, Q, nL, ck, sk⟩ := X
  obtain ⟨hx, hb, hml, hnl, hown, hts, hK, hlk, hA, hD, hfr, hlo, hck, hsk, hnw⟩ := h
  exact fun H locs ls hP hS hl => lv_astore hx hb d hl (hnl ▸ hn) hl2 (fun ls hl => k H locs ls hP hS hl)
theorem wa_lstore_n (h : Cx X cc own nl fr lo) {f : Fin 4} {i : Nat} {x : Int64} {lv2 : List (Nat × Value)} (hi : (f : Nat) = i) (hn : i + 1 < nl) (hl2 : (i, Value.long x) :: lv.filter (fun q => !(q.1 == i) && (!(q.1 == i + 1) && !(q.1 + 1 == i && q.2.category == 2))) = lv2) (d : decode cc pc = .ok (.lstore_n f, 1)) (k : Wa X w (pc + 1) lv2 rest) : Wa X w pc lv (.long x :: rest) := by
  obtain ⟨E, p, l, e, R, s, m, args, below, meth, c, A, Q, nL, ck, sk⟩ := X
  obtain ⟨hx, hb, hml, hnl, hown, hts, hK, hlk, hA, hD, hfr, hlo, hck, hsk, hnw⟩ := h
  exact fun H locs ls hP hS hl => lv_lstore_n hx hb d hi hl (hnl ▸ hn) hl2 (fun ls hl => k H locs ls hP hS hl)
theorem wa_lstore (h : Cx X cc own nl fr lo) {i : Nat} {x : Int64} {lv2 : List (Nat × Value)} (hn : i + 1 < nl) (hl2 : (i, Value.long x) :: lv.filter (fun q => !(q.1 == i) && (!(q.1 == i + 1) && !(q.1 + 1 == i && q.2.category == 2))) = lv2) (d : decode cc pc = .ok (.lstore i, 2)) (k : Wa X w (pc + 2) lv2 rest) : Wa X w pc lv (.long x :: rest) := by
  obtain ⟨E, p, l, e, R, s, m, args, below, meth, c, A, Q, nL, ck, sk⟩ := X
  obtain ⟨hx, hb, hml, hnl, hown, hts, hK, hlk, hA, hD, hfr, hlo, hck, hsk, hnw⟩ := h
  exact fun H locs ls hP hS hl => lv_lstore hx hb d hl (hnl ▸ hn) hl2 (fun ls hl => k H locs ls hP hS hl)
theorem wa_iinc (h : Cx X cc own nl fr lo) {i : Nat} {n : Int} {x v : Int32} {lv2 : List (Nat × Value)} (j : Nat) (hj : lv[j]? = some (i, .int x)) (hv : x + Int32.ofInt n = v) (hn : i < nl) (hl2 : (i, Value.int v) :: lv.filter (fun q => !(q.1 == i) && !(q.1 + 1 == i && q.2.category == 2)) = lv2) (d : decode cc pc = .ok (.iinc i n, 3)) (k : Wa X w (pc + 3) lv2 rest) : Wa X w pc lv rest := by
  obtain ⟨E, p, l, e, R, s, m, args, below, meth, c, A, Q, nL, ck, sk⟩ := X
  obtain ⟨hx, hb, hml, hnl, hown, hts, hK, hlk, hA, hD, hfr, hlo, hck, hsk, hnw⟩ := h
  exact fun H locs ls hP hS hl => lv_iinc hx hb d hl hj hv (hnl ▸ hn) hl2 (fun ls hl => k H locs ls hP hS hl)
theorem wa_goto (h : Cx X cc own nl fr lo) {off : Int} (tgt : Nat) (ht : (pc : Int) + off = (tgt : Int)) (d : decode cc pc = .ok (.goto off, 3)) (k : Wa X w tgt lv rest) : Wa X w pc lv rest := by
  obtain ⟨E, p, l, e, R, s, m, args, below, meth, c, A, Q, nL, ck, sk⟩ := X
  obtain ⟨hx, hb, hml, hnl, hown, hts, hK, hlk, hA, hD, hfr, hlo, hck, hsk, hnw⟩ := h
  exact fun H locs ls hP hS hl => lv_goto hx hb d ht (k H locs ls hP hS hl)
theorem wa_dup (h : Cx X cc own nl fr lo) {v : Value} (hv : v.category = 1) (d : decode cc pc = .ok (.dup, 1)) (k : Wa X w (pc + 1) lv (v :: v :: rest)) : Wa X w pc lv (v :: rest) := by
  obtain ⟨E, p, l, e, R, s, m, args, below, meth, c, A, Q, nL, ck, sk⟩ := X
  obtain ⟨hx, hb, hml, hnl, hown, hts, hK, hlk, hA, hD, hfr, hlo, hck, hsk, hnw⟩ := h
  exact fun H locs ls hP hS hl => lv_dup hx hb d hv (k H locs ls hP hS hl)
theorem wa_dup2 (h : Cx X cc own nl fr lo) {v u : Value} (hv : v.category = 1) (hu : u.category = 1) (d : decode cc pc = .ok (.dup2, 1)) (k : Wa X w (pc + 1) lv (v :: u :: v :: u :: rest)) : Wa X w pc lv (v :: u :: rest) := by
  obtain ⟨E, p, l, e, R, s, m, args, below, meth, c, A, Q, nL, ck, sk⟩ := X
  obtain ⟨hx, hb, hml, hnl, hown, hts, hK, hlk, hA, hD, hfr, hlo, hck, hsk, hnw⟩ := h
  exact fun H locs ls hP hS hl => lv_dup2_11 hx hb d hv hu (k H locs ls hP hS hl)
theorem wa_if_eq (h : Cx X cc own nl fr lo) {x : Int32} {off : Int} (tgt : Nat) (ht : (pc : Int) + off = (tgt : Int)) (d : decode cc pc = .ok (.ifCond .eq off, 3)) (kt : x = 0 → Wa X w tgt lv rest) (kf : ¬ x = 0 → Wa X w (pc + 3) lv rest) : Wa X w pc lv (.int x :: rest) := by
  obtain ⟨E, p, l, e, R, s, m, args, below, meth, c, A, Q, nL, ck, sk⟩ := X
  obtain ⟨hx, hb, hml, hnl, hown, hts, hK, hlk, hA, hD, hfr, hlo, hck, hsk, hnw⟩ := h
  exact fun H locs ls hP hS hl => lv_if_eq hx hb d ht (fun c => kt c H locs ls hP hS hl) (fun c => kf c H locs ls hP hS hl)
theorem wa_icmp_eq (h : Cx X cc own nl fr lo) {x y : Int32} {off : Int} (tgt : Nat) (ht : (pc : Int) + off = (tgt : Int)) (d : decode cc pc = .ok (.if_icmp .eq off, 3)) (kt : x = y → Wa X w tgt lv rest) (kf : ¬ x = y → Wa X w (pc + 3) lv rest) : Wa X w pc lv (.int y :: .int x :: rest) := by
  obtain ⟨E, p, l, e, R, s, m, args, below, meth, c, A, Q, nL, ck, sk⟩ := X
  obtain ⟨hx, hb, hml, hnl, hown, hts, hK, hlk, hA, hD, hfr, hlo, hck, hsk, hnw⟩ := h
  exact fun H locs ls hP hS hl => lv_icmp_eq hx hb d ht (fun c => kt c H locs ls hP hS hl) (fun c => kf c H locs ls hP hS hl)
theorem wa_if_ne (h : Cx X cc own nl fr lo) {x : Int32} {off : Int} (tgt : Nat) (ht : (pc : Int) + off = (tgt : Int)) (d : decode cc pc = .ok (.ifCond .ne off, 3)) (kt : ¬ x = 0 → Wa X w tgt lv rest) (kf : x = 0 → Wa X w (pc + 3) lv rest) : Wa X w pc lv (.int x :: rest) := by
  obtain ⟨E, p, l, e, R, s, m, args, below, meth, c, A, Q, nL, ck, sk⟩ := X
  obtain ⟨hx, hb, hml, hnl, hown, hts, hK, hlk, hA, hD, hfr, hlo, hck, hsk, hnw⟩ := h
  exact fun H locs ls hP hS hl => lv_if_ne hx hb d ht (fun c => kt c H locs ls hP hS hl) (fun c => kf c H locs ls hP hS hl)
theorem wa_icmp_ne (h : Cx X cc own nl fr lo) {x y : Int32} {off : Int} (tgt : Nat) (ht : (pc : Int) + off = (tgt : Int)) (d : decode cc pc = .ok (.if_icmp .ne off, 3)) (kt : ¬ x = y → Wa X w tgt lv rest) (kf : x = y → Wa X w (pc + 3) lv rest) : Wa X w pc lv (.int y :: .int x :: rest) := by
  obtain ⟨E, p, l, e, R, s, m, args, below, meth, c, A, Q, nL, ck, sk⟩ := X
  obtain ⟨hx, hb, hml, hnl, hown, hts, hK, hlk, hA, hD, hfr, hlo, hck, hsk, hnw⟩ := h
  exact fun H locs ls hP hS hl => lv_icmp_ne hx hb d ht (fun c => kt c H locs ls hP hS hl) (fun c => kf c H locs ls hP hS hl)
theorem wa_if_lt (h : Cx X cc own nl fr lo) {x : Int32} {off : Int} (tgt : Nat) (ht : (pc : Int) + off = (tgt : Int)) (d : decode cc pc = .ok (.ifCond .lt off, 3)) (kt : x < 0 → Wa X w tgt lv rest) (kf : ¬ x < 0 → Wa X w (pc + 3) lv rest) : Wa X w pc lv (.int x :: rest) := by
  obtain ⟨E, p, l, e, R, s, m, args, below, meth, c, A, Q, nL, ck, sk⟩ := X
  obtain ⟨hx, hb, hml, hnl, hown, hts, hK, hlk, hA, hD, hfr, hlo, hck, hsk, hnw⟩ := h
  exact fun H locs ls hP hS hl => lv_if_lt hx hb d ht (fun c => kt c H locs ls hP hS hl) (fun c => kf c H locs ls hP hS hl)
theorem wa_icmp_lt (h : Cx X cc own nl fr lo) {x y : Int32} {off : Int} (tgt : Nat) (ht : (pc : Int) + off = (tgt : Int)) (d : decode cc pc = .ok (.if_icmp .lt off, 3)) (kt : x < y → Wa X w tgt lv rest) (kf : ¬ x < y → Wa X w (pc + 3) lv rest) : Wa X w pc lv (.int y :: .int x :: rest) := by
  obtain ⟨E, p, l, e, R, s, m, args, below, meth, c, A, Q, nL, ck, sk⟩ := X
  obtain ⟨hx, hb, hml, hnl, hown, hts, hK, hlk, hA, hD, hfr, hlo, hck, hsk, hnw⟩ := h
  exact fun H locs ls hP hS hl => lv_icmp_lt hx hb d ht (fun c => kt c H locs ls hP hS hl) (fun c => kf c H locs ls hP hS hl)
theorem wa_if_ge (h : Cx X cc own nl fr lo) {x : Int32} {off : Int} (tgt : Nat) (ht : (pc : Int) + off = (tgt : Int)) (d : decode cc pc = .ok (.ifCond .ge off, 3)) (kt : 0 ≤ x → Wa X w tgt lv rest) (kf : ¬ 0 ≤ x → Wa X w (pc + 3) lv rest) : Wa X w pc lv (.int x :: rest) := by
  obtain ⟨E, p, l, e, R, s, m, args, below, meth, c, A, Q, nL, ck, sk⟩ := X
  obtain ⟨hx, hb, hml, hnl, hown, hts, hK, hlk, hA, hD, hfr, hlo, hck, hsk, hnw⟩ := h
  exact fun H locs ls hP hS hl => lv_if_ge hx hb d ht (fun c => kt c H locs ls hP hS hl) (fun c => kf c H locs ls hP hS hl)
theorem wa_icmp_ge (h : Cx X cc own nl fr lo) {x y : Int32} {off : Int} (tgt : Nat) (ht : (pc : Int) + off = (tgt : Int)) (d : decode cc pc = .ok (.if_icmp .ge off, 3)) (kt : y ≤ x → Wa X w tgt lv rest) (kf : ¬ y ≤ x → Wa X w (pc + 3) lv rest) : Wa X w pc lv (.int y :: .int x :: rest) := by
  obtain ⟨E, p, l, e, R, s, m, args, below, meth, c, A, Q, nL, ck, sk⟩ := X
  obtain ⟨hx, hb, hml, hnl, hown, hts, hK, hlk, hA, hD, hfr, hlo, hck, hsk, hnw⟩ := h
  exact fun H locs ls hP hS hl => lv_icmp_ge hx hb d ht (fun c => kt c H locs ls hP hS hl) (fun c => kf c H locs ls hP hS hl)
theorem wa_if_gt (h : Cx X cc own nl fr lo) {x : Int32} {off : Int} (tgt : Nat) (ht : (pc : Int) + off = (tgt : Int)) (d : decode cc pc = .ok (.ifCond .gt off, 3)) (kt : 0 < x → Wa X w tgt lv rest) (kf : ¬ 0 < x → Wa X w (pc + 3) lv rest) : Wa X w pc lv (.int x :: rest) := by
  obtain ⟨E, p, l, e, R, s, m, args, below, meth, c, A, Q, nL, ck, sk⟩ := X
  obtain ⟨hx, hb, hml, hnl, hown, hts, hK, hlk, hA, hD, hfr, hlo, hck, hsk, hnw⟩ := h
  exact fun H locs ls hP hS hl => lv_if_gt hx hb d ht (fun c => kt c H locs ls hP hS hl) (fun c => kf c H locs ls hP hS hl)
theorem wa_icmp_gt (h : Cx X cc own nl fr lo) {x y : Int32} {off : Int} (tgt : Nat) (ht : (pc : Int) + off = (tgt : Int)) (d : decode cc pc = .ok (.if_icmp .gt off, 3)) (kt : y < x → Wa X w tgt lv rest) (kf : ¬ y < x → Wa X w (pc + 3) lv rest) : Wa X w pc lv (.int y :: .int x :: rest) := by
  obtain ⟨E, p, l, e, R, s, m, args, below, meth, c, A, Q, nL, ck, sk⟩ := X
  obtain ⟨hx, hb, hml, hnl, hown, hts, hK, hlk, hA, hD, hfr, hlo, hck, hsk, hnw⟩ := h
  exact fun H locs ls hP hS hl => lv_icmp_gt hx hb d ht (fun c => kt c H locs ls hP hS hl) (fun c => kf c H locs ls hP hS hl)
theorem wa_if_le (h : Cx X cc own nl fr lo) {x : Int32} {off : Int} (tgt : Nat) (ht : (pc : Int) + off = (tgt : Int)) (d : decode cc pc = .ok (.ifCond .le off, 3)) (kt : x ≤ 0 → Wa X w tgt lv rest) (kf : ¬ x ≤ 0 → Wa X w (pc + 3) lv rest) : Wa X w pc lv (.int x :: rest) := by
  obtain ⟨E, p, l, e, R, s, m, args, below, meth, c, A, Q, nL, ck, sk⟩ := X
  obtain ⟨hx, hb, hml, hnl, hown, hts, hK, hlk, hA, hD, hfr, hlo, hck, hsk, hnw⟩ := h
  exact fun H locs ls hP hS hl => lv_if_le hx hb d ht (fun c => kt c H locs ls hP hS hl) (fun c => kf c H locs ls hP hS hl)
theorem wa_icmp_le (h : Cx X cc own nl fr lo) {x y : Int32} {off : Int} (tgt : Nat) (ht : (pc : Int) + off = (tgt : Int)) (d : decode cc pc = .ok (.if_icmp .le off, 3)) (kt : x ≤ y → Wa X w tgt lv rest) (kf : ¬ x ≤ y → Wa X w (pc + 3) lv rest) : Wa X w pc lv (.int y :: .int x :: rest) := by
  obtain ⟨E, p, l, e, R, s, m, args, below, meth, c, A, Q, nL, ck, sk⟩ := X
  obtain ⟨hx, hb, hml, hnl, hown, hts, hK, hlk, hA, hD, hfr, hlo, hck, hsk, hnw⟩ := h
  exact fun H locs ls hP hS hl => lv_icmp_le hx hb d ht (fun c => kt c H locs ls hP hS hl) (fun c => kf c H locs ls hP hS hl)
theorem wa_sub (ks : List Nat) {lv2 : List (Nat × Value)} (hp : lv_pick lv ks = lv2) (k : Wa X w pc lv2 rest) : Wa X w pc lv rest := by
  obtain ⟨E, p, l, e, R, s, m, args, below, meth, c, A, Q, nL, ck, sk⟩ := X
  exact fun H locs ls hP hS hl => k H locs ls hP hS (lv_sub hl ks hp)
theorem wa_tout (h : Cx X cc own nl fr lo) {dflt lo2 hi : Int} {offs : Array Int} {len : Nat} {x : Int32} (tgt : Nat) (hz : x.toInt < lo2 ∨ hi < x.toInt) (ht : (pc : Int) + dflt = (tgt : Int)) (d : decode cc pc = .ok (.tableswitch dflt lo2 hi offs, len)) (k : Wa X w tgt lv rest) : Wa X w pc lv (.int x :: rest) := by
  obtain ⟨E, p, l, e, R, s, m, args, below, meth, c, A, Q, nL, ck, sk⟩ := X
  obtain ⟨hx, hb, hml, hnl, hown, hts, hK, hlk, hA, hD, hfr, hlo, hck, hsk, hnw⟩ := h
  exact fun H locs ls hP hS hl => lv_tableOut hx hb d hz ht (k H locs ls hP hS hl)
theorem wa_tin (h : Cx X cc own nl fr lo) {dflt lo2 hi : Int} {offs : Array Int} {len : Nat} {x : Int32} {off : Int} (tgt : Nat) (h1 : ¬ x.toInt < lo2) (h2 : ¬ hi < x.toInt) (ho : offs[(x.toInt - lo2).toNat]? = some off) (ht : (pc : Int) + off = (tgt : Int)) (d : decode cc pc = .ok (.tableswitch dflt lo2 hi offs, len)) (k : Wa X w tgt lv rest) : Wa X w pc lv (.int x :: rest) := by
  obtain ⟨E, p, l, e, R, s, m, args, below, meth, c, A, Q, nL, ck, sk⟩ := X
  obtain ⟨hx, hb, hml, hnl, hown, hts, hK, hlk, hA, hD, hfr, hlo, hck, hsk, hnw⟩ := h
  exact fun H locs ls hP hS hl => lv_tableIn hx hb d h1 h2 ho ht (k H locs ls hP hS hl)
theorem wa_mmax (h : Cx X cc own nl fr lo) {i : Nat} {x y : Int32} (hlk2 : Cond.methodLink own i Lib.Math.max.name ∈ gT) (hst : Cond.static Lib.Math.max.name ∈ gT) (hin : Cond.initialized "java/lang/Math" ∈ gT) (hcd : Cond.code Lib.Math.max.name Lib.Math.max.code 2 (some .int) ∈ gT) (hf : 1 ≤ fr) (ho : (rest.map fun v => v.category).sum + 13 ≤ lo) (d : decode cc pc = .ok (.invokestatic i, 3)) (k : Wa X w (pc + 3) lv (.int (if x < y then y else x) :: rest)) : Wa X w pc lv (.int y :: .int x :: rest) := by
  obtain ⟨E, p, l, e, R, s, m, args, below, meth, c, A, Q, nL, ck, sk⟩ := X
  obtain ⟨hx, hb, hml, hnl, hown, hts, hK, hlk, hA, hD, hfr, hlo, hck, hsk, hnw⟩ := h
  exact fun H locs ls hP hS hl => va_mmax hx hb (hml.trans hl.1.symm) hown (hts _ hlk2) (hts _ hst) (hts _ hin) (hts _ hcd) (Nat.le_trans hf hfr) (Nat.le_trans ho hlo) hck hsk d (k H locs ls hP hS hl)
theorem wa_mmin (h : Cx X cc own nl fr lo) {i : Nat} {x y : Int32} (hlk2 : Cond.methodLink own i Lib.Math.min.name ∈ gT) (hst : Cond.static Lib.Math.min.name ∈ gT) (hin : Cond.initialized "java/lang/Math" ∈ gT) (hcd : Cond.code Lib.Math.min.name Lib.Math.min.code 2 (some .int) ∈ gT) (hf : 1 ≤ fr) (ho : (rest.map fun v => v.category).sum + 13 ≤ lo) (d : decode cc pc = .ok (.invokestatic i, 3)) (k : Wa X w (pc + 3) lv (.int (if y < x then y else x) :: rest)) : Wa X w pc lv (.int y :: .int x :: rest) := by
  obtain ⟨E, p, l, e, R, s, m, args, below, meth, c, A, Q, nL, ck, sk⟩ := X
  obtain ⟨hx, hb, hml, hnl, hown, hts, hK, hlk, hA, hD, hfr, hlo, hck, hsk, hnw⟩ := h
  exact fun H locs ls hP hS hl => va_mmin hx hb (hml.trans hl.1.symm) hown (hts _ hlk2) (hts _ hst) (hts _ hin) (hts _ hcd) (Nat.le_trans hf hfr) (Nat.le_trans ho hlo) hck hsk d (k H locs ls hP hS hl)
theorem wa_getG (h : Cx X cc own nl fr lo) {ref C : String} {T : u_T} {N ci index : Nat} (hin : ∀ w ∈ u_ws C T N, w ∈ gT) (q0 : Nat) {fs : List Value} (he : (cellsOf X.1 w)[q0]? = some (Ad X q0, .inr (ci, fs))) (hc : vwCl[ci]? = some (C, T, N)) (k : Nat) (hk : k < N) (hl : Cond.fieldLink own index ref (T k).2.1 (T k).2.2.1 ∈ gT) (hsame : (T k).1 = ref) {v : Value} (hv : fs[k]? = some v) (d : decode cc pc = .ok (.getfield index, 3)) (kk : Wa X w (pc + 3) lv (v :: rest)) : Wa X w pc lv (.ref (Ad X q0) :: rest) := by
  obtain ⟨E, p, l, e, R, s, m, args, below, meth, c, A, Q, nL, ck, sk⟩ := X
  obtain ⟨hx, hb, hml, hnl, hown, hts, hK, hlk, hA, hD, hfr, hlo, hck, hsk, hnw⟩ := h
  exact fun H locs ls hP hS hl2 => va_get hx hb hts hin hown hK hP q0 he hc k hk (hts _ hl) (fun x hx => hsame ▸ hx) hv d (kk H locs ls hP hS hl2)
theorem wa_getNG (h : Cx X cc own nl fr lo) {ref C host : String} {T : u_T} {N ci index : Nat} (hin : ∀ w ∈ u_ws C T N, w ∈ gT) (q0 : Nat) {fs : List Value} (he : (cellsOf X.1 w)[q0]? = some (Ad X q0, .inr (ci, fs))) (hc : vwCl[ci]? = some (C, T, N)) (k : Nat) (hk : k < N) (hl : Cond.fieldLinkNest own index ref (T k).2.1 (T k).2.2.1 host ∈ gN) (hsame : (T k).1 = ref) {v : Value} (hv : fs[k]? = some v) (d : decode cc pc = .ok (.getfield index, 3)) (kk : Wa X w (pc + 3) lv (v :: rest)) : Wa X w pc lv (.ref (Ad X q0) :: rest) := by
  obtain ⟨E, p, l, e, R, s, m, args, below, meth, c, A, Q, nL, ck, sk⟩ := X
  obtain ⟨hx, hb, hml, hnl, hown, hts, hK, hlk, hA, hD, hfr, hlo, hck, hsk, hnw⟩ := h
  exact fun H locs ls hP hS hl2 => va_getN hx hb hts hin hown hK hP q0 he hc k hk (va_Nw.use rfl (hnw _ hl)) (fun x hx => hsame ▸ hx) hv d (kk H locs ls hP hS hl2)
theorem wa_putG (h : Cx X cc own nl fr lo) {ref C : String} {T : u_T} {N ci index : Nat} (hin : ∀ w ∈ u_ws C T N, w ∈ gT) (ty0 : Nat → FieldType) (hty : ∀ k, k < N → parseFieldDescriptor (T k).2.2.1 = some (ty0 k)) (hnm : ∀ a, a < N → ∀ b, b < N → a ≠ b → (T a).2.1 ≠ (T b).2.1) (q0 : Nat) {fs : List Value} (he : (cellsOf X.1 w)[q0]? = some (Ad X q0, .inr (ci, fs))) (hc : vwCl[ci]? = some (C, T, N)) (k : Nat) (hk : k < N) (hl : Cond.fieldLink own index ref (T k).2.1 (T k).2.2.1 ∈ gT) (hsame : (T k).1 = ref) (hfin : (T k).2.2.2 = false) {ty : FieldType} {v : Value} (hd : parseFieldDescriptor (T k).2.2.1 = some ty) (hn : narrow ty v = v) (hfit : fits ty v = true) (hlen : k < fs.length) (w2 : Wd) (hw2 : (cellsOf X.1 w).set q0 (Ad X q0, .inr (ci, fs.set k v)) = cellsOf X.1 w2) (d : decode cc pc = .ok (.putfield index, 3)) (kk : Wa X w2 (pc + 3) lv rest) : Wa X w pc lv (v :: .ref (Ad X q0) :: rest) := by
  obtain ⟨E, p, l, e, R, s, m, args, below, meth, c, A, Q, nL, ck, sk⟩ := X
  obtain ⟨hx, hb, hml, hnl, hown, hts, hK, hlk, hA, hD, hfr, hlo, hck, hsk, hnw⟩ := h
  exact fun H locs ls hP hS hl2 => va_put hx hb hts hin ty0 hty hnm hown hK hP (hD w) hS q0 he hc k hk (hts _ hl) (fun x hx => hsame ▸ hx) hfin hd hn hfit hlen d (fun H1 locs1 hP1 hD1 hS1 => kk H1 locs1 ls (hw2 ▸ hP1) hS1 hl2)
theorem wa_putNG (h : Cx X cc own nl fr lo) {ref C host : String} {T : u_T} {N ci index : Nat} (hin : ∀ w ∈ u_ws C T N, w ∈ gT) (ty0 : Nat → FieldType) (hty : ∀ k, k < N → parseFieldDescriptor (T k).2.2.1 = some (ty0 k)) (hnm : ∀ a, a < N → ∀ b, b < N → a ≠ b → (T a).2.1 ≠ (T b).2.1) (q0 : Nat) {fs : List Value} (he : (cellsOf X.1 w)[q0]? = some (Ad X q0, .inr (ci, fs))) (hc : vwCl[ci]? = some (C, T, N)) (k : Nat) (hk : k < N) (hl : Cond.fieldLinkNest own index ref (T k).2.1 (T k).2.2.1 host ∈ gN) (hsame : (T k).1 = ref) (hfin : (T k).2.2.2 = false) {ty : FieldType} {v : Value} (hd : parseFieldDescriptor (T k).2.2.1 = some ty) (hn : narrow ty v = v) (hfit : fits ty v = true) (hlen : k < fs.length) (w2 : Wd) (hw2 : (cellsOf X.1 w).set q0 (Ad X q0, .inr (ci, fs.set k v)) = cellsOf X.1 w2) (d : decode cc pc = .ok (.putfield index, 3)) (kk : Wa X w2 (pc + 3) lv rest) : Wa X w pc lv (v :: .ref (Ad X q0) :: rest) := by
  obtain ⟨E, p, l, e, R, s, m, args, below, meth, c, A, Q, nL, ck, sk⟩ := X
  obtain ⟨hx, hb, hml, hnl, hown, hts, hK, hlk, hA, hD, hfr, hlo, hck, hsk, hnw⟩ := h
  exact fun H locs ls hP hS hl2 => va_putN hx hb hts hin ty0 hty hnm hown hK hP (hD w) hS q0 he hc k hk (va_Nw.use rfl (hnw _ hl)) (fun x hx => hsame ▸ hx) hfin hd hn hfit hlen d (fun H1 locs1 hP1 hD1 hS1 => kk H1 locs1 ls (hw2 ▸ hP1) hS1 hl2)
theorem wa_ialdG (h : Cx X cc own nl fr lo) (q0 : Nat) {n : Nat} {f : Nat → Int32} (ha : (cellsOf X.1 w)[q0]? = some (Ad X q0, .inl (X.1.2.2 0, n, .inl f))) {i : Int32} (hg : gd i n = true) (d : decode cc pc = .ok (.iaload, 1)) (kk : Wa X w (pc + 1) lv (.int (f i.toNatClampNeg) :: rest)) : Wa X w pc lv (.int i :: .ref (Ad X q0) :: rest) := by
  obtain ⟨E, p, l, e, R, s, m, args, below, meth, c, A, Q, nL, ck, sk⟩ := X
  obtain ⟨hx, hb, hml, hnl, hown, hts, hK, hlk, hA, hD, hfr, hlo, hck, hsk, hnw⟩ := h
  exact fun H locs ls hP hS hl => va_iald hx hb hK hP q0 0 ha rfl (gd_in hg) d (kk H locs ls hP hS hl)
theorem wa_zaldG (h : Cx X cc own nl fr lo) (q0 : Nat) {n : Nat} {f : Nat → Int32} (ha : (cellsOf X.1 w)[q0]? = some (Ad X q0, .inl (X.1.2.2 2, n, .inl f))) {i : Int32} (hg : gd i n = true) (d : decode cc pc = .ok (.baload, 1)) (kk : Wa X w (pc + 1) lv (.int (f i.toNatClampNeg) :: rest)) : Wa X w pc lv (.int i :: .ref (Ad X q0) :: rest) := by
  obtain ⟨E, p, l, e, R, s, m, args, below, meth, c, A, Q, nL, ck, sk⟩ := X
  obtain ⟨hx, hb, hml, hnl, hown, hts, hK, hlk, hA, hD, hfr, hlo, hck, hsk, hnw⟩ := h
  exact fun H locs ls hP hS hl => va_zald hx hb hK hP q0 2 ha rfl (gd_in hg) d (kk H locs ls hP hS hl)
theorem wa_laldG (h : Cx X cc own nl fr lo) (q0 : Nat) {n : Nat} {f : Nat → Int64} (ha : (cellsOf X.1 w)[q0]? = some (Ad X q0, .inl (X.1.2.2 1, n, .inr (.inl f)))) {i : Int32} (hg : gd i n = true) (d : decode cc pc = .ok (.laload, 1)) (kk : Wa X w (pc + 1) lv (.long (f i.toNatClampNeg) :: rest)) : Wa X w pc lv (.int i :: .ref (Ad X q0) :: rest) := by
  obtain ⟨E, p, l, e, R, s, m, args, below, meth, c, A, Q, nL, ck, sk⟩ := X
  obtain ⟨hx, hb, hml, hnl, hown, hts, hK, hlk, hA, hD, hfr, hlo, hck, hsk, hnw⟩ := h
  exact fun H locs ls hP hS hl => va_lald hx hb hK hP q0 1 ha rfl (gd_in hg) d (kk H locs ls hP hS hl)
theorem wa_iastG (h : Cx X cc own nl fr lo) (q0 : Nat) {n : Nat} {f : Nat → Int32} (ha : (cellsOf X.1 w)[q0]? = some (Ad X q0, .inl (X.1.2.2 0, n, .inl f))) {i x : Int32} (hg : gd i n = true) (w2 : Wd) (hw2 : (cellsOf X.1 w).set q0 (Ad X q0, .inl (X.1.2.2 0, n, .inl (upd f i.toNatClampNeg x))) = cellsOf X.1 w2) (d : decode cc pc = .ok (.iastore, 1)) (kk : Wa X w2 (pc + 1) lv rest) : Wa X w pc lv (.int x :: .int i :: .ref (Ad X q0) :: rest) := by
  obtain ⟨E, p, l, e, R, s, m, args, below, meth, c, A, Q, nL, ck, sk⟩ := X
  obtain ⟨hx, hb, hml, hnl, hown, hts, hK, hlk, hA, hD, hfr, hlo, hck, hsk, hnw⟩ := h
  exact fun H locs ls hP hS hl => va_iast hx hb hK hP (hD w) hS q0 0 ha rfl (gd_in hg) d (fun H1 locs1 hP1 hD1 hS1 => kk H1 locs1 ls (hw2 ▸ hP1) hS1 hl)
theorem wa_zastG (h : Cx X cc own nl fr lo) (q0 : Nat) {n : Nat} {f : Nat → Int32} (ha : (cellsOf X.1 w)[q0]? = some (Ad X q0, .inl (X.1.2.2 2, n, .inl f))) {i x : Int32} (hg : gd i n = true) (hv : vp_nar .boolean x = x) (w2 : Wd) (hw2 : (cellsOf X.1 w).set q0 (Ad X q0, .inl (X.1.2.2 2, n, .inl (upd f i.toNatClampNeg x))) = cellsOf X.1 w2) (d : decode cc pc = .ok (.bastore, 1)) (kk : Wa X w2 (pc + 1) lv rest) : Wa X w pc lv (.int x :: .int i :: .ref (Ad X q0) :: rest) := by
  obtain ⟨E, p, l, e, R, s, m, args, below, meth, c, A, Q, nL, ck, sk⟩ := X
  obtain ⟨hx, hb, hml, hnl, hown, hts, hK, hlk, hA, hD, hfr, hlo, hck, hsk, hnw⟩ := h
  exact fun H locs ls hP hS hl => va_zast hx hb hK hP (hD w) hS q0 2 ha rfl (gd_in hg) d (fun H1 locs1 hP1 hD1 hS1 => kk H1 locs1 ls (by rw [hv] at hP1; exact hw2 ▸ hP1) hS1 hl)
theorem wa_lastG (h : Cx X cc own nl fr lo) (q0 : Nat) {n : Nat} {f : Nat → Int64} (ha : (cellsOf X.1 w)[q0]? = some (Ad X q0, .inl (X.1.2.2 1, n, .inr (.inl f)))) {i : Int32} {x : Int64} (hg : gd i n = true) (w2 : Wd) (hw2 : (cellsOf X.1 w).set q0 (Ad X q0, .inl (X.1.2.2 1, n, .inr (.inl (vp_updL f i.toNatClampNeg x)))) = cellsOf X.1 w2) (d : decode cc pc = .ok (.lastore, 1)) (kk : Wa X w2 (pc + 1) lv rest) : Wa X w pc lv (.long x :: .int i :: .ref (Ad X q0) :: rest) := by
  obtain ⟨E, p, l, e, R, s, m, args, below, meth, c, A, Q, nL, ck, sk⟩ := X
  obtain ⟨hx, hb, hml, hnl, hown, hts, hK, hlk, hA, hD, hfr, hlo, hck, hsk, hnw⟩ := h
  exact fun H locs ls hP hS hl => va_last hx hb hK hP (hD w) hS q0 1 ha rfl (gd_in hg) d (fun H1 locs1 hP1 hD1 hS1 => kk H1 locs1 ls (hw2 ▸ hP1) hS1 hl)
theorem wa_alenG (h : Cx X cc own nl fr lo) (q0 : Nat) {x : vp_A} (ha : (cellsOf X.1 w)[q0]? = some (Ad X q0, .inl (X.1.2.2 0, x))) (v : Int32) (hv : Int32.ofNat x.1 = v) (d : decode cc pc = .ok (.arraylength, 1)) (kk : Wa X w (pc + 1) lv (.int v :: rest)) : Wa X w pc lv (.ref (Ad X q0) :: rest) := by
  obtain ⟨E, p, l, e, R, s, m, args, below, meth, c, A, Q, nL, ck, sk⟩ := X
  obtain ⟨hx, hb, hml, hnl, hown, hts, hK, hlk, hA, hD, hfr, hlo, hck, hsk, hnw⟩ := h
  exact fun H locs ls hP hS hl => va_alen hx hb hK hP q0 0 ha rfl hv d (kk H locs ls hP hS hl)
theorem wa_aaldG (h : Cx X cc own nl fr lo) (q0 : Nat) {n : Nat} {f : Nat → Option Nat} (ha : (cellsOf X.1 w)[q0]? = some (Ad X q0, .inl (X.1.2.2 3, n, .inr (.inr (.inr (.inr f)))))) {i : Int32} (hg : gd i n = true) (v : Nat) (hf : f i.toNatClampNeg = some v) (d : decode cc pc = .ok (.aaload, 1)) (kk : Wa X w (pc + 1) lv (.ref v :: rest)) : Wa X w pc lv (.int i :: .ref (Ad X q0) :: rest) := by
  obtain ⟨E, p, l, e, R, s, m, args, below, meth, c, A, Q, nL, ck, sk⟩ := X
  obtain ⟨hx, hb, hml, hnl, hown, hts, hK, hlk, hA, hD, hfr, hlo, hck, hsk, hnw⟩ := h
  exact fun H locs ls hP hS hl => va_aldq hx hb hK hP q0 3 ha rfl (gd_in hg) d (by rw [hf]; exact kk H locs ls hP hS hl)
theorem wa_copyG (h : Cx X cc own nl fr lo) {i : Nat} (hlk2 : Cond.methodLink own i arraycopyName ∈ gT) (q0 q1 : Nat) {n0 n1 : Nat} {f g : Nat → Int32} (ha0 : (cellsOf X.1 w)[q0]? = some (Ad X q0, .inl (X.1.2.2 0, n0, .inl f))) (ha1 : (cellsOf X.1 w)[q1]? = some (Ad X q1, .inl (X.1.2.2 0, n1, .inl g))) {sp dp n : Int32} (h1 : ¬ sp < 0) (h2 : ¬ dp < 0) (h3 : ¬ n < 0) (h4 : sp.toNatClampNeg + n.toNatClampNeg ≤ n0) (h5 : dp.toNatClampNeg + n.toNatClampNeg ≤ n1) (hf : 1 ≤ fr) (ho : (rest.map fun v => v.category).sum + (nativeFrameWords "java/lang/System" "arraycopy" 5 + 11) ≤ lo) (w2 : Wd) (hw2 : (cellsOf X.1 w).set q1 (Ad X q1, .inl (X.1.2.2 0, n1, .inl (va_cpy f g sp.toNatClampNeg dp.toNatClampNeg n.toNatClampNeg))) = cellsOf X.1 w2) (d : decode cc pc = .ok (.invokestatic i, 3)) (kk : Wa X w2 (pc + 3) lv rest) : Wa X w pc lv (.int n :: .int dp :: .ref (Ad X q1) :: .int sp :: .ref (Ad X q0) :: rest) := by
  obtain ⟨E, p, l, e, R, s, m, args, below, meth, c, A, Q, nL, ck, sk⟩ := X
  obtain ⟨hx, hb, hml, hnl, hown, hts, hK, hlk, hA, hD, hfr, hlo, hck, hsk, hnw⟩ := h
  exact fun H locs ls hP hS hl => va_copyi hx hb (hml.trans hl.1.symm) hown (hts _ hlk2) (hts _ nt_arraycopyName) (hts _ st_arraycopyName) (hts _ in_J10) hK hP (hD w) hS q0 q1 0 0 ha0 ha1 rfl rfl rfl h1 h2 h3 h4 h5 (fun _ _ => rfl) (Nat.le_trans hf hfr) (Nat.le_trans ho hlo) d (fun H1 locs1 hP1 hD1 hS1 => kk H1 locs1 ls (hw2 ▸ hP1) hS1 hl)
end WR
def PB (E : ET) (w : Wd) (sz : Nat) : State → Prop := fun U => U.heap.size = sz ∧ va_P E.1 vwCl (cellsOf E w) U.heap ∧ va_K E.1 vwCl (tysOf E) U ∧ va_D (fun _ => True) (cellsOf E w) ∧ ∀ v ∈ gN, va_Nw v U
theorem PB_blind (av : List Value) (E : ET) (w : Wd) (sz : Nat) : FrameBlind (va_Pc av (PB E w sz)) := fun a U g mk q => by
  obtain ⟨q0, q1, qP, qK, qD, qN⟩ := q
  exact ⟨q0, q1, qP, va_K.moved (u := U) (U := U.calling g mk a) (Vm.Alike.refl U.vm) qK, qD, gN_same (u := U) (U := U.calling g mk a) rfl qN⟩
def rmOf (fr lo : Nat) : Room := { frames := fr, cells := 0, slots := 0, locals := lo }
def CB (y : MethodName) (cy : ByteArray) (mL : Nat) (ret : Option FieldType) (n : Nat) : Prop := Cond.code y cy mL ret ∈ gT ∧ Cond.initialized y.cls ∈ gT ∧ y.cls ≠ "java/lang/invoke/MethodHandle" ∧ y.cls ≠ "java/lang/invoke/VarHandle" ∧ (parseMethodDescriptor y.desc).map (fun d => d.parameters.length) = some n
def CV (y : MethodName) (cy : ByteArray) (mL : Nat) (ret : Option FieldType) (n : Nat) : Prop := CB y cy mL ret n ∧ Cond.instanceMethod y ∈ gT ∧ Cond.selects y.cls y y ∈ gT
def CS (y : MethodName) (cy : ByteArray) (mL : Nat) (ret : Option FieldType) (n : Nat) : Prop := CB y cy mL ret n ∧ Cond.static y ∈ gT
def Gi (y : MethodName) (cc : ByteArray) (mL : Nat) (ret : Option FieldType) (fr lo : Nat) (av : ET → List Value) (w w1 : Wd) (r : Int32) : Prop := ∀ (l : Launch) (E : ET) (sz : Nat), Met l y (Cond.code y cc mL ret :: gT) (rmOf fr lo) (va_Pc (av E) (PB E w sz)) (va_Qi (S := Unit) (fun r2 _ => r2 = r) (fun _ t => va_P E.1 vwCl (cellsOf E w1) t.heap) (AA E sz)) 0 0 (AA E sz)
theorem Gi.of {y : MethodName} {cc : ByteArray} {mL fr lo : Nat} {av : ET → List Value} {w w1 : Wd} {r : Int32} {ty : FieldType} (hnar : narrow ty (.int r) = .int r) (hy : plainName y.cls = true) (hlen : ∀ E, (lg_sl (av E)).length ≤ mL) (body : ∀ X : Fx, Cx X cc y.cls mL fr lo → (∀ pc lv, decode cc pc = .ok (.ireturn, 1) → Wa X w1 pc lv [.int r]) → Wa X w 0 (lv_args 0 (av X.1)) []) : Gi y cc mL (some ty) fr lo av w w1 r := by
  intro l E sz
  refine Met.ofW (cc := cc) (maxL := mL) (ret := (some ty)) hy rfl ?_
  intro p e s m args below meth c s₁ B hml hv
  obtain ⟨rfl, hsz, hP, hK, hD0, hN⟩ := hv
  subst hsz
  have hts := atoms_spec (ws := Cond.code y cc mL (some ty) :: gT) B.pre
  have hD : va_D (AA E s.heap.size) (cellsOf E w) := dom_AA _ hD0
  have hlk := B.notSynchronized
  have hC : Cx (E, p, l, e, rmOf fr lo, s, m, (av E).toArray, below, meth, c, AA E s.heap.size, MQ below (va_Qi (S := Unit) (fun r2 _ => r2 = r) (fun _ t => va_P E.1 vwCl (cellsOf E w1) t.heap) (AA E s.heap.size)) (av E).toArray s 0 0 (AA E s.heap.size), mL, 0, 0) cc y.cls mL fr lo := ⟨B.exec, B.bytes, hml, rfl, findClass_of_methodNamed B.named, fun w h => hts w (List.mem_cons_of_mem _ h), hK, hlk, fun q h => Or.inr h, fun w2 => dom_any w2 hD, Nat.le_refl _, Nat.le_refl _, Nat.zero_le _, Nat.zero_le _, hN⟩
  have hb := body _ hC (fun pc lv d => fun H locs ls hP hS hl => W.zret B.exec B.bytes B.returns hnar (fun t ht hW => ⟨⟨r, (), rfl, rfl, by show va_P E.1 vwCl (cellsOf E w1) t.heap; rw [ht]; exact hP⟩, hS.F ht⟩) hS.2.2 d hlk)
  rw [lg_entry_eq]
  exact hb s.heap [] _ hP va_S.rf (lv_entry (av E) (hlen E))
theorem wa_callVi {X : Fx} {cc : ByteArray} {own : String} {nl fr lo : Nat} (h : Cx X cc own nl fr lo) {w : Wd} {pc : Nat} {lv : List (Nat × Value)} {rest : List Value} {y : MethodName} {cy : ByteArray} {mL n f1 l1 index : Nat} {ret : Option FieldType} {av : ET → List Value} {w1 : Wd} {r : Int32} (g : Gi y cy mL ret f1 l1 av w w1 r) (hM : CV y cy mL ret n) (hml2 : Cond.methodLink own index y ∈ gT) {As st : List Value} (q0 : Nat) {ci N : Nat} {T : u_T} {fs : List Value} (he : (cellsOf X.1 w)[q0]? = some (Ad X q0, .inr (ci, fs))) (hcl : vwCl[ci]? = some (y.cls, T, N)) (hav : av X.1 = .ref (Ad X q0) :: As) (hst : st = As.reverse ++ .ref (Ad X q0) :: rest) (hn : As.length = n) (hR : f1 + 1 ≤ fr ∧ 8 + (mL + 11) + l1 ≤ lo) (hcat : (rest.map fun v => v.category).sum ≤ 8) (d : decode cc pc = .ok (.invokevirtual index, 3)) (kk : Wa X w1 (pc + 3) lv (.int r :: rest)) : Wa X w pc lv st := by
  subst hst
  obtain ⟨E, p, l, e, R, s, m, args, below, meth, c, A, Q, nL, ck, sk⟩ := X
  obtain ⟨hx, hb, hml, hnl, hown, hts, hK, hlk, hA, hD, hfr, hlo, hck, hsk, hnw⟩ := h
  intro H locs ls hP hS hl
  have hav : av E = _ := hav
  obtain ⟨⟨hcd, hini, hd1, hd2, hd3⟩, -⟩ := id hM
  have hF : ∀ q, AA E H.size q → A q := AA_in (hD w) hS.1 hA
  have cb := callB_of (R := R) (own := own) (index := index) n hts (gd_code hcd) rfl rfl rfl (hts _ hini) (hts _ hml2) ⟨hd1, hd2, hd3⟩ (rm := rmOf f1 l1) (mc := 0) (ms := 0) ⟨Nat.le_trans hR.1 hfr, Nat.le_trans hR.2 hlo⟩
  refine va_calli (va_runV (As := As) (rest := rest) ⟨hx, hb, hml, hown, hts⟩ (g l E H.size) ⟨cb, hts _ hM.2.1, hts _ hM.2.2⟩ ⟨PB_blind _ _ _ _, va_recv hK hP hcl he, fun U hU hW => ⟨by rw [hav], by rw [hU], by rw [hU]; exact hP, va_K.moved hW.alike hK, (hD w).weaken (fun _ _ _ _ => trivial), gN_warm hW hnw⟩⟩ rfl hn hl.1 rfl (lv_room hcat) d ⟨hck, hsk⟩) hS (fun q _ hq => hF q hq) hF (fun r2 u t H1 locs1 ht hvm hw hB hz1 hk1 hS1 => by subst hw; exact kk H1 locs1 ls (ht ▸ hB) hS1 hl)
theorem wa_callSi {X : Fx} {cc : ByteArray} {own : String} {nl fr lo : Nat} (h : Cx X cc own nl fr lo) {w : Wd} {pc : Nat} {lv : List (Nat × Value)} {rest : List Value} {y : MethodName} {cy : ByteArray} {mL n f1 l1 index : Nat} {ret : Option FieldType} {av : ET → List Value} {w1 : Wd} {r : Int32} (g : Gi y cy mL ret f1 l1 av w w1 r) (hM : CS y cy mL ret n) (hml2 : Cond.methodLink own index y ∈ gT) {As st : List Value} (hav : av X.1 = As) (hst : st = As.reverse ++ rest) (hn : As.length = n) (hR : f1 + 1 ≤ fr ∧ 8 + (mL + 11) + l1 ≤ lo) (hcat : (rest.map fun v => v.category).sum ≤ 8) (d : decode cc pc = .ok (.invokestatic index, 3)) (kk : Wa X w1 (pc + 3) lv (.int r :: rest)) : Wa X w pc lv st := by
  subst hst
  obtain ⟨E, p, l, e, R, s, m, args, below, meth, c, A, Q, nL, ck, sk⟩ := X
  obtain ⟨hx, hb, hml, hnl, hown, hts, hK, hlk, hA, hD, hfr, hlo, hck, hsk, hnw⟩ := h
  intro H locs ls hP hS hl
  have hav : av E = _ := hav
  obtain ⟨⟨hcd, hini, hd1, hd2, hd3⟩, -⟩ := id hM
  have hF : ∀ q, AA E H.size q → A q := AA_in (hD w) hS.1 hA
  have cb := callB_of (R := R) (own := own) (index := index) n hts (gd_code hcd) rfl rfl rfl (hts _ hini) (hts _ hml2) ⟨hd1, hd2, hd3⟩ (rm := rmOf f1 l1) (mc := 0) (ms := 0) ⟨Nat.le_trans hR.1 hfr, Nat.le_trans hR.2 hlo⟩
  refine va_calli (va_runS (As := As) (rest := rest) ⟨hx, hb, hml, hown, hts⟩ (g l E H.size) ⟨cb, hts _ hM.2⟩ ⟨PB_blind _ _ _ _, fun U hU hW => ⟨by rw [hav], by rw [hU], by rw [hU]; exact hP, va_K.moved hW.alike hK, (hD w).weaken (fun _ _ _ _ => trivial), gN_warm hW hnw⟩⟩ rfl hn hl.1 rfl (lv_room hcat) d ⟨hck, hsk⟩) hS (fun q _ hq => hF q hq) hF (fun r2 u t H1 locs1 ht hvm hw hB hz1 hk1 hS1 => by subst hw; exact kk H1 locs1 ls (ht ▸ hB) hS1 hl)
def Gl (y : MethodName) (cc : ByteArray) (mL : Nat) (ret : Option FieldType) (fr lo : Nat) (av : ET → List Value) (w w1 : Wd) (r : Int64) : Prop := ∀ (l : Launch) (E : ET) (sz : Nat), Met l y (Cond.code y cc mL ret :: gT) (rmOf fr lo) (va_Pc (av E) (PB E w sz)) (va_Ql (S := Unit) (fun r2 _ => r2 = r) (fun _ t => va_P E.1 vwCl (cellsOf E w1) t.heap) (AA E sz)) 0 0 (AA E sz)
theorem Gl.of {y : MethodName} {cc : ByteArray} {mL fr lo : Nat} {av : ET → List Value} {w w1 : Wd} {r : Int64} (hy : plainName y.cls = true) (hlen : ∀ E, (lg_sl (av E)).length ≤ mL) (body : ∀ X : Fx, Cx X cc y.cls mL fr lo → (∀ pc lv, decode cc pc = .ok (.lreturn, 1) → Wa X w1 pc lv [.long r]) → Wa X w 0 (lv_args 0 (av X.1)) []) : Gl y cc mL (some .long) fr lo av w w1 r := by
  intro l E sz
  refine Met.ofW (cc := cc) (maxL := mL) (ret := (some .long)) hy rfl ?_
  intro p e s m args below meth c s₁ B hml hv
  obtain ⟨rfl, hsz, hP, hK, hD0, hN⟩ := hv
  subst hsz
  have hts := atoms_spec (ws := Cond.code y cc mL (some .long) :: gT) B.pre
  have hD : va_D (AA E s.heap.size) (cellsOf E w) := dom_AA _ hD0
  have hlk := B.notSynchronized
  have hC : Cx (E, p, l, e, rmOf fr lo, s, m, (av E).toArray, below, meth, c, AA E s.heap.size, MQ below (va_Ql (S := Unit) (fun r2 _ => r2 = r) (fun _ t => va_P E.1 vwCl (cellsOf E w1) t.heap) (AA E s.heap.size)) (av E).toArray s 0 0 (AA E s.heap.size), mL, 0, 0) cc y.cls mL fr lo := ⟨B.exec, B.bytes, hml, rfl, findClass_of_methodNamed B.named, fun w h => hts w (List.mem_cons_of_mem _ h), hK, hlk, fun q h => Or.inr h, fun w2 => dom_any w2 hD, Nat.le_refl _, Nat.le_refl _, Nat.zero_le _, Nat.zero_le _, hN⟩
  have hb := body _ hC (fun pc lv d => fun H locs ls hP hS hl => W.lret B.exec B.bytes B.returns (fun t ht hW => ⟨⟨r, (), rfl, rfl, by show va_P E.1 vwCl (cellsOf E w1) t.heap; rw [ht]; exact hP⟩, hS.F ht⟩) hS.2.2 d hlk)
  rw [lg_entry_eq]
  exact hb s.heap [] _ hP va_S.rf (lv_entry (av E) (hlen E))
theorem wa_callVl {X : Fx} {cc : ByteArray} {own : String} {nl fr lo : Nat} (h : Cx X cc own nl fr lo) {w : Wd} {pc : Nat} {lv : List (Nat × Value)} {rest : List Value} {y : MethodName} {cy : ByteArray} {mL n f1 l1 index : Nat} {ret : Option FieldType} {av : ET → List Value} {w1 : Wd} {r : Int64} (g : Gl y cy mL ret f1 l1 av w w1 r) (hM : CV y cy mL ret n) (hml2 : Cond.methodLink own index y ∈ gT) {As st : List Value} (q0 : Nat) {ci N : Nat} {T : u_T} {fs : List Value} (he : (cellsOf X.1 w)[q0]? = some (Ad X q0, .inr (ci, fs))) (hcl : vwCl[ci]? = some (y.cls, T, N)) (hav : av X.1 = .ref (Ad X q0) :: As) (hst : st = As.reverse ++ .ref (Ad X q0) :: rest) (hn : As.length = n) (hR : f1 + 1 ≤ fr ∧ 8 + (mL + 11) + l1 ≤ lo) (hcat : (rest.map fun v => v.category).sum ≤ 8) (d : decode cc pc = .ok (.invokevirtual index, 3)) (kk : Wa X w1 (pc + 3) lv (.long r :: rest)) : Wa X w pc lv st := by
  subst hst
  obtain ⟨E, p, l, e, R, s, m, args, below, meth, c, A, Q, nL, ck, sk⟩ := X
  obtain ⟨hx, hb, hml, hnl, hown, hts, hK, hlk, hA, hD, hfr, hlo, hck, hsk, hnw⟩ := h
  intro H locs ls hP hS hl
  have hav : av E = _ := hav
  obtain ⟨⟨hcd, hini, hd1, hd2, hd3⟩, -⟩ := id hM
  have hF : ∀ q, AA E H.size q → A q := AA_in (hD w) hS.1 hA
  have cb := callB_of (R := R) (own := own) (index := index) n hts (gd_code hcd) rfl rfl rfl (hts _ hini) (hts _ hml2) ⟨hd1, hd2, hd3⟩ (rm := rmOf f1 l1) (mc := 0) (ms := 0) ⟨Nat.le_trans hR.1 hfr, Nat.le_trans hR.2 hlo⟩
  refine va_calll (va_runV (As := As) (rest := rest) ⟨hx, hb, hml, hown, hts⟩ (g l E H.size) ⟨cb, hts _ hM.2.1, hts _ hM.2.2⟩ ⟨PB_blind _ _ _ _, va_recv hK hP hcl he, fun U hU hW => ⟨by rw [hav], by rw [hU], by rw [hU]; exact hP, va_K.moved hW.alike hK, (hD w).weaken (fun _ _ _ _ => trivial), gN_warm hW hnw⟩⟩ rfl hn hl.1 rfl (lv_room hcat) d ⟨hck, hsk⟩) hS (fun q _ hq => hF q hq) hF (fun r2 u t H1 locs1 ht hvm hw hB hz1 hk1 hS1 => by subst hw; exact kk H1 locs1 ls (ht ▸ hB) hS1 hl)
theorem wa_callSl {X : Fx} {cc : ByteArray} {own : String} {nl fr lo : Nat} (h : Cx X cc own nl fr lo) {w : Wd} {pc : Nat} {lv : List (Nat × Value)} {rest : List Value} {y : MethodName} {cy : ByteArray} {mL n f1 l1 index : Nat} {ret : Option FieldType} {av : ET → List Value} {w1 : Wd} {r : Int64} (g : Gl y cy mL ret f1 l1 av w w1 r) (hM : CS y cy mL ret n) (hml2 : Cond.methodLink own index y ∈ gT) {As st : List Value} (hav : av X.1 = As) (hst : st = As.reverse ++ rest) (hn : As.length = n) (hR : f1 + 1 ≤ fr ∧ 8 + (mL + 11) + l1 ≤ lo) (hcat : (rest.map fun v => v.category).sum ≤ 8) (d : decode cc pc = .ok (.invokestatic index, 3)) (kk : Wa X w1 (pc + 3) lv (.long r :: rest)) : Wa X w pc lv st := by
  subst hst
  obtain ⟨E, p, l, e, R, s, m, args, below, meth, c, A, Q, nL, ck, sk⟩ := X
  obtain ⟨hx, hb, hml, hnl, hown, hts, hK, hlk, hA, hD, hfr, hlo, hck, hsk, hnw⟩ := h
  intro H locs ls hP hS hl
  have hav : av E = _ := hav
  obtain ⟨⟨hcd, hini, hd1, hd2, hd3⟩, -⟩ := id hM
  have hF : ∀ q, AA E H.size q → A q := AA_in (hD w) hS.1 hA
  have cb := callB_of (R := R) (own := own) (index := index) n hts (gd_code hcd) rfl rfl rfl (hts _ hini) (hts _ hml2) ⟨hd1, hd2, hd3⟩ (rm := rmOf f1 l1) (mc := 0) (ms := 0) ⟨Nat.le_trans hR.1 hfr, Nat.le_trans hR.2 hlo⟩
  refine va_calll (va_runS (As := As) (rest := rest) ⟨hx, hb, hml, hown, hts⟩ (g l E H.size) ⟨cb, hts _ hM.2⟩ ⟨PB_blind _ _ _ _, fun U hU hW => ⟨by rw [hav], by rw [hU], by rw [hU]; exact hP, va_K.moved hW.alike hK, (hD w).weaken (fun _ _ _ _ => trivial), gN_warm hW hnw⟩⟩ rfl hn hl.1 rfl (lv_room hcat) d ⟨hck, hsk⟩) hS (fun q _ hq => hF q hq) hF (fun r2 u t H1 locs1 ht hvm hw hB hz1 hk1 hS1 => by subst hw; exact kk H1 locs1 ls (ht ▸ hB) hS1 hl)
def Gv (y : MethodName) (cc : ByteArray) (mL : Nat) (ret : Option FieldType) (fr lo : Nat) (av : ET → List Value) (w w1 : Wd) : Prop := ∀ (l : Launch) (E : ET) (sz : Nat), Met l y (Cond.code y cc mL ret :: gT) (rmOf fr lo) (va_Pc (av E) (PB E w sz)) (va_Qv (S := Unit) (fun _ => True) (fun _ t => va_P E.1 vwCl (cellsOf E w1) t.heap) (AA E sz)) 0 0 (AA E sz)
theorem Gv.of {y : MethodName} {cc : ByteArray} {mL fr lo : Nat} {av : ET → List Value} {w w1 : Wd} (hy : plainName y.cls = true) (hlen : ∀ E, (lg_sl (av E)).length ≤ mL) (body : ∀ X : Fx, Cx X cc y.cls mL fr lo → (∀ pc lv, decode cc pc = .ok (.return_, 1) → Wa X w1 pc lv []) → Wa X w 0 (lv_args 0 (av X.1)) []) : Gv y cc mL none fr lo av w w1 := by
  intro l E sz
  refine Met.ofW (cc := cc) (maxL := mL) (ret := none) hy rfl ?_
  intro p e s m args below meth c s₁ B hml hv
  obtain ⟨rfl, hsz, hP, hK, hD0, hN⟩ := hv
  subst hsz
  have hts := atoms_spec (ws := Cond.code y cc mL none :: gT) B.pre
  have hD : va_D (AA E s.heap.size) (cellsOf E w) := dom_AA _ hD0
  have hlk := B.notSynchronized
  have hC : Cx (E, p, l, e, rmOf fr lo, s, m, (av E).toArray, below, meth, c, AA E s.heap.size, MQ below (va_Qv (S := Unit) (fun _ => True) (fun _ t => va_P E.1 vwCl (cellsOf E w1) t.heap) (AA E s.heap.size)) (av E).toArray s 0 0 (AA E s.heap.size), mL, 0, 0) cc y.cls mL fr lo := ⟨B.exec, B.bytes, hml, rfl, findClass_of_methodNamed B.named, fun w h => hts w (List.mem_cons_of_mem _ h), hK, hlk, fun q h => Or.inr h, fun w2 => dom_any w2 hD, Nat.le_refl _, Nat.le_refl _, Nat.zero_le _, Nat.zero_le _, hN⟩
  have hb := body _ hC (fun pc lv d => fun H locs ls hP hS hl => W.vret B.exec B.bytes B.returns (fun t ht hW => ⟨⟨(), rfl, trivial, by show va_P E.1 vwCl (cellsOf E w1) t.heap; rw [ht]; exact hP⟩, hS.F ht⟩) hS.2.2 d hlk)
  rw [lg_entry_eq]
  exact hb s.heap [] _ hP va_S.rf (lv_entry (av E) (hlen E))
theorem wa_callVv {X : Fx} {cc : ByteArray} {own : String} {nl fr lo : Nat} (h : Cx X cc own nl fr lo) {w : Wd} {pc : Nat} {lv : List (Nat × Value)} {rest : List Value} {y : MethodName} {cy : ByteArray} {mL n f1 l1 index : Nat} {ret : Option FieldType} {av : ET → List Value} {w1 : Wd} (g : Gv y cy mL ret f1 l1 av w w1) (hM : CV y cy mL ret n) (hml2 : Cond.methodLink own index y ∈ gT) {As st : List Value} (q0 : Nat) {ci N : Nat} {T : u_T} {fs : List Value} (he : (cellsOf X.1 w)[q0]? = some (Ad X q0, .inr (ci, fs))) (hcl : vwCl[ci]? = some (y.cls, T, N)) (hav : av X.1 = .ref (Ad X q0) :: As) (hst : st = As.reverse ++ .ref (Ad X q0) :: rest) (hn : As.length = n) (hR : f1 + 1 ≤ fr ∧ 8 + (mL + 11) + l1 ≤ lo) (hcat : (rest.map fun v => v.category).sum ≤ 8) (d : decode cc pc = .ok (.invokevirtual index, 3)) (kk : Wa X w1 (pc + 3) lv (rest)) : Wa X w pc lv st := by
  subst hst
  obtain ⟨E, p, l, e, R, s, m, args, below, meth, c, A, Q, nL, ck, sk⟩ := X
  obtain ⟨hx, hb, hml, hnl, hown, hts, hK, hlk, hA, hD, hfr, hlo, hck, hsk, hnw⟩ := h
  intro H locs ls hP hS hl
  have hav : av E = _ := hav
  obtain ⟨⟨hcd, hini, hd1, hd2, hd3⟩, -⟩ := id hM
  have hF : ∀ q, AA E H.size q → A q := AA_in (hD w) hS.1 hA
  have cb := callB_of (R := R) (own := own) (index := index) n hts (gd_code hcd) rfl rfl rfl (hts _ hini) (hts _ hml2) ⟨hd1, hd2, hd3⟩ (rm := rmOf f1 l1) (mc := 0) (ms := 0) ⟨Nat.le_trans hR.1 hfr, Nat.le_trans hR.2 hlo⟩
  refine va_callv (va_runV (As := As) (rest := rest) ⟨hx, hb, hml, hown, hts⟩ (g l E H.size) ⟨cb, hts _ hM.2.1, hts _ hM.2.2⟩ ⟨PB_blind _ _ _ _, va_recv hK hP hcl he, fun U hU hW => ⟨by rw [hav], by rw [hU], by rw [hU]; exact hP, va_K.moved hW.alike hK, (hD w).weaken (fun _ _ _ _ => trivial), gN_warm hW hnw⟩⟩ rfl hn hl.1 rfl (lv_room hcat) d ⟨hck, hsk⟩) hS (fun q _ hq => hF q hq) hF (fun u t H1 locs1 ht hvm hw hB hz1 hk1 hS1 => kk H1 locs1 ls (ht ▸ hB) hS1 hl)
theorem wa_callSv {X : Fx} {cc : ByteArray} {own : String} {nl fr lo : Nat} (h : Cx X cc own nl fr lo) {w : Wd} {pc : Nat} {lv : List (Nat × Value)} {rest : List Value} {y : MethodName} {cy : ByteArray} {mL n f1 l1 index : Nat} {ret : Option FieldType} {av : ET → List Value} {w1 : Wd} (g : Gv y cy mL ret f1 l1 av w w1) (hM : CS y cy mL ret n) (hml2 : Cond.methodLink own index y ∈ gT) {As st : List Value} (hav : av X.1 = As) (hst : st = As.reverse ++ rest) (hn : As.length = n) (hR : f1 + 1 ≤ fr ∧ 8 + (mL + 11) + l1 ≤ lo) (hcat : (rest.map fun v => v.category).sum ≤ 8) (d : decode cc pc = .ok (.invokestatic index, 3)) (kk : Wa X w1 (pc + 3) lv (rest)) : Wa X w pc lv st := by
  subst hst
  obtain ⟨E, p, l, e, R, s, m, args, below, meth, c, A, Q, nL, ck, sk⟩ := X
  obtain ⟨hx, hb, hml, hnl, hown, hts, hK, hlk, hA, hD, hfr, hlo, hck, hsk, hnw⟩ := h
  intro H locs ls hP hS hl
  have hav : av E = _ := hav
  obtain ⟨⟨hcd, hini, hd1, hd2, hd3⟩, -⟩ := id hM
  have hF : ∀ q, AA E H.size q → A q := AA_in (hD w) hS.1 hA
  have cb := callB_of (R := R) (own := own) (index := index) n hts (gd_code hcd) rfl rfl rfl (hts _ hini) (hts _ hml2) ⟨hd1, hd2, hd3⟩ (rm := rmOf f1 l1) (mc := 0) (ms := 0) ⟨Nat.le_trans hR.1 hfr, Nat.le_trans hR.2 hlo⟩
  refine va_callv (va_runS (As := As) (rest := rest) ⟨hx, hb, hml, hown, hts⟩ (g l E H.size) ⟨cb, hts _ hM.2⟩ ⟨PB_blind _ _ _ _, fun U hU hW => ⟨by rw [hav], by rw [hU], by rw [hU]; exact hP, va_K.moved hW.alike hK, (hD w).weaken (fun _ _ _ _ => trivial), gN_warm hW hnw⟩⟩ rfl hn hl.1 rfl (lv_room hcat) d ⟨hck, hsk⟩) hS (fun q _ hq => hF q hq) hF (fun u t H1 locs1 ht hvm hw hB hz1 hk1 hS1 => kk H1 locs1 ls (ht ▸ hB) hS1 hl)
end
section
theorem nar_b {v : Int32} (h : v = 0 ∨ v = 1) : narrow .boolean (.int v) = .int v := by
  rcases h with rfl | rfl <;> rfl
theorem fit_b {v : Int32} (h : v = 0 ∨ v = 1) : fits .boolean (.int v) = true := by
  rcases h with rfl | rfl <;> rfl
theorem nar_vb {v : Int32} (h : v = 0 ∨ v = 1) : vp_nar .boolean v = v := by
  rcases h with rfl | rfl <;> rfl
section MR
variable {X : Fx} {cc : ByteArray} {own : String} {nl fr lo : Nat} {w : Wd} {pc : Nat} {lv : List (Nat × Value)} {rest : List Value}
theorem wg_stage_rules (h : Cx X cc own nl fr lo) {index : Nat} (hl : Cond.fieldLink own index RX5 "rules" "LStageCount$Rules;" ∈ gT) (d : decode cc pc = .ok (.getfield index, 3)) (kk : Wa X w (pc + 3) lv (.ref (Ad X 8) :: rest)) : Wa X w pc lv (.ref (Ad X 0) :: rest) := wa_getG h inX5 0 rfl rfl 0 (by decide) hl rfl rfl d kk
theorem wgN_stage_rules (h : Cx X cc own nl fr lo) {index : Nat} {host : String} (hl : Cond.fieldLinkNest own index RX5 "rules" "LStageCount$Rules;" host ∈ gN) (d : decode cc pc = .ok (.getfield index, 3)) (kk : Wa X w (pc + 3) lv (.ref (Ad X 8) :: rest)) : Wa X w pc lv (.ref (Ad X 0) :: rest) := wa_getNG h inX5 0 rfl rfl 0 (by decide) hl rfl rfl d kk
theorem wg_stage_images (h : Cx X cc own nl fr lo) {index : Nat} (hl : Cond.fieldLink own index RX5 "images" "[LStageCount$Rules;" ∈ gT) (d : decode cc pc = .ok (.getfield index, 3)) (kk : Wa X w (pc + 3) lv (.ref (Ad X 1) :: rest)) : Wa X w pc lv (.ref (Ad X 0) :: rest) := wa_getG h inX5 0 rfl rfl 1 (by decide) hl rfl rfl d kk
theorem wgN_stage_images (h : Cx X cc own nl fr lo) {index : Nat} {host : String} (hl : Cond.fieldLinkNest own index RX5 "images" "[LStageCount$Rules;" host ∈ gN) (d : decode cc pc = .ok (.getfield index, 3)) (kk : Wa X w (pc + 3) lv (.ref (Ad X 1) :: rest)) : Wa X w pc lv (.ref (Ad X 0) :: rest) := wa_getNG h inX5 0 rfl rfl 1 (by decide) hl rfl rfl d kk
theorem wg_stage_kept (h : Cx X cc own nl fr lo) {index : Nat} (hl : Cond.fieldLink own index RX5 "kept" "[Z" ∈ gT) (d : decode cc pc = .ok (.getfield index, 3)) (kk : Wa X w (pc + 3) lv (.ref (Ad X 2) :: rest)) : Wa X w pc lv (.ref (Ad X 0) :: rest) := wa_getG h inX5 0 rfl rfl 2 (by decide) hl rfl rfl d kk
theorem wgN_stage_kept (h : Cx X cc own nl fr lo) {index : Nat} {host : String} (hl : Cond.fieldLinkNest own index RX5 "kept" "[Z" host ∈ gN) (d : decode cc pc = .ok (.getfield index, 3)) (kk : Wa X w (pc + 3) lv (.ref (Ad X 2) :: rest)) : Wa X w pc lv (.ref (Ad X 0) :: rest) := wa_getNG h inX5 0 rfl rfl 2 (by decide) hl rfl rfl d kk
theorem wg_stage_play (h : Cx X cc own nl fr lo) {index : Nat} (hl : Cond.fieldLink own index RX5 "play" "LStageCount$Play;" ∈ gT) (d : decode cc pc = .ok (.getfield index, 3)) (kk : Wa X w (pc + 3) lv (.ref (Ad X 4) :: rest)) : Wa X w pc lv (.ref (Ad X 0) :: rest) := wa_getG h inX5 0 rfl rfl 3 (by decide) hl rfl rfl d kk
theorem wgN_stage_play (h : Cx X cc own nl fr lo) {index : Nat} {host : String} (hl : Cond.fieldLinkNest own index RX5 "play" "LStageCount$Play;" host ∈ gN) (d : decode cc pc = .ok (.getfield index, 3)) (kk : Wa X w (pc + 3) lv (.ref (Ad X 4) :: rest)) : Wa X w pc lv (.ref (Ad X 0) :: rest) := wa_getNG h inX5 0 rfl rfl 3 (by decide) hl rfl rfl d kk
theorem wg_stage_company (h : Cx X cc own nl fr lo) {index : Nat} (hl : Cond.fieldLink own index RX5 "company" "LStageCount$Cast;" ∈ gT) (d : decode cc pc = .ok (.getfield index, 3)) (kk : Wa X w (pc + 3) lv (.ref (Ad X 26) :: rest)) : Wa X w pc lv (.ref (Ad X 0) :: rest) := wa_getG h inX5 0 rfl rfl 4 (by decide) hl rfl rfl d kk
theorem wgN_stage_company (h : Cx X cc own nl fr lo) {index : Nat} {host : String} (hl : Cond.fieldLinkNest own index RX5 "company" "LStageCount$Cast;" host ∈ gN) (d : decode cc pc = .ok (.getfield index, 3)) (kk : Wa X w (pc + 3) lv (.ref (Ad X 26) :: rest)) : Wa X w pc lv (.ref (Ad X 0) :: rest) := wa_getNG h inX5 0 rfl rfl 4 (by decide) hl rfl rfl d kk
theorem wg_stage_sceneOrder (h : Cx X cc own nl fr lo) {index : Nat} (hl : Cond.fieldLink own index RX5 "sceneOrder" "LStageCount$SceneOrder;" ∈ gT) (d : decode cc pc = .ok (.getfield index, 3)) (kk : Wa X w (pc + 3) lv (.ref (Ad X 30) :: rest)) : Wa X w pc lv (.ref (Ad X 0) :: rest) := wa_getG h inX5 0 rfl rfl 5 (by decide) hl rfl rfl d kk
theorem wgN_stage_sceneOrder (h : Cx X cc own nl fr lo) {index : Nat} {host : String} (hl : Cond.fieldLinkNest own index RX5 "sceneOrder" "LStageCount$SceneOrder;" host ∈ gN) (d : decode cc pc = .ok (.getfield index, 3)) (kk : Wa X w (pc + 3) lv (.ref (Ad X 30) :: rest)) : Wa X w pc lv (.ref (Ad X 0) :: rest) := wa_getNG h inX5 0 rfl rfl 5 (by decide) hl rfl rfl d kk
theorem wg_stage_guess (h : Cx X cc own nl fr lo) {index : Nat} (hl : Cond.fieldLink own index RX5 "guess" "LStageCount$Guess;" ∈ gT) (d : decode cc pc = .ok (.getfield index, 3)) (kk : Wa X w (pc + 3) lv (.ref (Ad X 34) :: rest)) : Wa X w pc lv (.ref (Ad X 0) :: rest) := wa_getG h inX5 0 rfl rfl 6 (by decide) hl rfl rfl d kk
theorem wgN_stage_guess (h : Cx X cc own nl fr lo) {index : Nat} {host : String} (hl : Cond.fieldLinkNest own index RX5 "guess" "LStageCount$Guess;" host ∈ gN) (d : decode cc pc = .ok (.getfield index, 3)) (kk : Wa X w (pc + 3) lv (.ref (Ad X 34) :: rest)) : Wa X w pc lv (.ref (Ad X 0) :: rest) := wa_getNG h inX5 0 rfl rfl 6 (by decide) hl rfl rfl d kk
theorem wg_stage_staying (h : Cx X cc own nl fr lo) {index : Nat} (hl : Cond.fieldLink own index RX5 "staying" "[I" ∈ gT) (d : decode cc pc = .ok (.getfield index, 3)) (kk : Wa X w (pc + 3) lv (.ref (Ad X 3) :: rest)) : Wa X w pc lv (.ref (Ad X 0) :: rest) := wa_getG h inX5 0 rfl rfl 7 (by decide) hl rfl rfl d kk
theorem wgN_stage_staying (h : Cx X cc own nl fr lo) {index : Nat} {host : String} (hl : Cond.fieldLinkNest own index RX5 "staying" "[I" host ∈ gN) (d : decode cc pc = .ok (.getfield index, 3)) (kk : Wa X w (pc + 3) lv (.ref (Ad X 3) :: rest)) : Wa X w pc lv (.ref (Ad X 0) :: rest) := wa_getNG h inX5 0 rfl rfl 7 (by decide) hl rfl rfl d kk
theorem wl_stage_images_0 (h : Cx X cc own nl fr lo) {i : Int32} (hi : i = 0) (d : decode cc pc = .ok (.aaload, 1)) (kk : Wa X w (pc + 1) lv (.ref (Ad X 14) :: rest)) : Wa X w pc lv (.int i :: .ref (Ad X 1) :: rest) := by
  subst hi
  exact wa_aaldG h 1 rfl (by decide) (Ad X 14) rfl d kk
theorem wl_stage_images_1 (h : Cx X cc own nl fr lo) {i : Int32} (hi : i = 1) (d : decode cc pc = .ok (.aaload, 1)) (kk : Wa X w (pc + 1) lv (.ref (Ad X 20) :: rest)) : Wa X w pc lv (.int i :: .ref (Ad X 1) :: rest) := by
  subst hi
  exact wa_aaldG h 1 rfl (by decide) (Ad X 20) rfl d kk
theorem ct_stage_kept (E : ET) (w : Wd) (f : Nat → Int32) : (cellsOf E w).set 2 (E.2.1 2, .inl (E.2.2 2, 2, .inl f)) = cellsOf E (wR w 2 f) := by rfl
theorem wl_stage_kept (h : Cx X cc own nl fr lo) {i : Int32} (hg : gd i 2 = true) (d : decode cc pc = .ok (.baload, 1)) (kk : Wa X w (pc + 1) lv (.int (w.2.1 2 i.toNatClampNeg) :: rest)) : Wa X w pc lv (.int i :: .ref (Ad X 2) :: rest) := wa_zaldG h 2 rfl hg d kk
theorem ws_stage_kept (h : Cx X cc own nl fr lo) {i v : Int32} (hg : gd i 2 = true) (hv : v = 0 ∨ v = 1) (d : decode cc pc = .ok (.bastore, 1)) (kk : Wa X (wA w 2 i v) (pc + 1) lv rest) : Wa X w pc lv (.int v :: .int i :: .ref (Ad X 2) :: rest) := wa_zastG h 2 rfl hg (nar_vb hv) (wA w 2 i v) (ct_stage_kept _ _ _) d kk
theorem ct_stage_staying (E : ET) (w : Wd) (f : Nat → Int32) : (cellsOf E w).set 3 (E.2.1 3, .inl (E.2.2 0, 9, .inl f)) = cellsOf E (wR w 3 f) := by rfl
theorem wl_stage_staying (h : Cx X cc own nl fr lo) {i : Int32} (hg : gd i 9 = true) (d : decode cc pc = .ok (.iaload, 1)) (kk : Wa X w (pc + 1) lv (.int (w.2.1 3 i.toNatClampNeg) :: rest)) : Wa X w pc lv (.int i :: .ref (Ad X 3) :: rest) := wa_ialdG h 3 rfl hg d kk
theorem ws_stage_staying (h : Cx X cc own nl fr lo) {i v : Int32} (hg : gd i 9 = true) (d : decode cc pc = .ok (.iastore, 1)) (kk : Wa X (wA w 3 i v) (pc + 1) lv rest) : Wa X w pc lv (.int v :: .int i :: .ref (Ad X 3) :: rest) := wa_iastG h 3 rfl hg (wA w 3 i v) (ct_stage_staying _ _ _) d kk
theorem wn_stage_staying (h : Cx X cc own nl fr lo) (d : decode cc pc = .ok (.arraylength, 1)) (kk : Wa X w (pc + 1) lv (.int 9 :: rest)) : Wa X w pc lv (.ref (Ad X 3) :: rest) := wa_alenG h 3 rfl 9 rfl d kk
theorem wg_play_signs (h : Cx X cc own nl fr lo) {index : Nat} (hl : Cond.fieldLink own index RX2 "signs" "[I" ∈ gT) (d : decode cc pc = .ok (.getfield index, 3)) (kk : Wa X w (pc + 3) lv (.ref (Ad X 5) :: rest)) : Wa X w pc lv (.ref (Ad X 4) :: rest) := wa_getG h inX2 4 rfl rfl 0 (by decide) hl rfl rfl d kk
theorem wgN_play_signs (h : Cx X cc own nl fr lo) {index : Nat} {host : String} (hl : Cond.fieldLinkNest own index RX2 "signs" "[I" host ∈ gN) (d : decode cc pc = .ok (.getfield index, 3)) (kk : Wa X w (pc + 3) lv (.ref (Ad X 5) :: rest)) : Wa X w pc lv (.ref (Ad X 4) :: rest) := wa_getNG h inX2 4 rfl rfl 0 (by decide) hl rfl rfl d kk
theorem wg_play_count (h : Cx X cc own nl fr lo) {index : Nat} (hl : Cond.fieldLink own index RX2 "count" "I" ∈ gT) (d : decode cc pc = .ok (.getfield index, 3)) (kk : Wa X w (pc + 3) lv (.int (w.1 0) :: rest)) : Wa X w pc lv (.ref (Ad X 4) :: rest) := wa_getG h inX2 4 rfl rfl 1 (by decide) hl rfl rfl d kk
theorem cs_play_count (E : ET) (w : Wd) (v : Int32) : (cellsOf E w).set 4 (E.2.1 4, .inr (2, [.ref (E.2.1 5), .int v, .int (w.1 1), .int (w.1 2), .int (w.1 3), .int (w.1 4), .ref (E.2.1 6), .int (w.1 5), .int (w.1 6), .int (w.1 7), .ref (E.2.1 7)])) = cellsOf E (wI w 0 v) := by rfl
theorem wp_play_count (h : Cx X cc own nl fr lo) {index : Nat} (hl : Cond.fieldLink own index RX2 "count" "I" ∈ gT) {v : Int32} (d : decode cc pc = .ok (.putfield index, 3)) (kk : Wa X (wI w 0 v) (pc + 3) lv rest) : Wa X w pc lv (.int v :: .ref (Ad X 4) :: rest) := wa_putG h inX2 tyX2 tyX2_ok nmX2 4 rfl rfl 1 (by decide) hl rfl rfl (ty := .int) rfl rfl rfl (by show _ < _; exact Nat.le_of_ble_eq_true rfl) (wI w 0 v) (cs_play_count _ _ _) d kk
theorem wgN_play_count (h : Cx X cc own nl fr lo) {index : Nat} {host : String} (hl : Cond.fieldLinkNest own index RX2 "count" "I" host ∈ gN) (d : decode cc pc = .ok (.getfield index, 3)) (kk : Wa X w (pc + 3) lv (.int (w.1 0) :: rest)) : Wa X w pc lv (.ref (Ad X 4) :: rest) := wa_getNG h inX2 4 rfl rfl 1 (by decide) hl rfl rfl d kk
theorem wpN_play_count (h : Cx X cc own nl fr lo) {index : Nat} {host : String} (hl : Cond.fieldLinkNest own index RX2 "count" "I" host ∈ gN) {v : Int32} (d : decode cc pc = .ok (.putfield index, 3)) (kk : Wa X (wI w 0 v) (pc + 3) lv rest) : Wa X w pc lv (.int v :: .ref (Ad X 4) :: rest) := wa_putNG h inX2 tyX2 tyX2_ok nmX2 4 rfl rfl 1 (by decide) hl rfl rfl (ty := .int) rfl rfl rfl (by show _ < _; exact Nat.le_of_ble_eq_true rfl) (wI w 0 v) (cs_play_count _ _ _) d kk
theorem wg_play_faultAt (h : Cx X cc own nl fr lo) {index : Nat} (hl : Cond.fieldLink own index RX2 "faultAt" "I" ∈ gT) (d : decode cc pc = .ok (.getfield index, 3)) (kk : Wa X w (pc + 3) lv (.int (w.1 1) :: rest)) : Wa X w pc lv (.ref (Ad X 4) :: rest) := wa_getG h inX2 4 rfl rfl 2 (by decide) hl rfl rfl d kk
theorem cs_play_faultAt (E : ET) (w : Wd) (v : Int32) : (cellsOf E w).set 4 (E.2.1 4, .inr (2, [.ref (E.2.1 5), .int (w.1 0), .int v, .int (w.1 2), .int (w.1 3), .int (w.1 4), .ref (E.2.1 6), .int (w.1 5), .int (w.1 6), .int (w.1 7), .ref (E.2.1 7)])) = cellsOf E (wI w 1 v) := by rfl
theorem wp_play_faultAt (h : Cx X cc own nl fr lo) {index : Nat} (hl : Cond.fieldLink own index RX2 "faultAt" "I" ∈ gT) {v : Int32} (d : decode cc pc = .ok (.putfield index, 3)) (kk : Wa X (wI w 1 v) (pc + 3) lv rest) : Wa X w pc lv (.int v :: .ref (Ad X 4) :: rest) := wa_putG h inX2 tyX2 tyX2_ok nmX2 4 rfl rfl 2 (by decide) hl rfl rfl (ty := .int) rfl rfl rfl (by show _ < _; exact Nat.le_of_ble_eq_true rfl) (wI w 1 v) (cs_play_faultAt _ _ _) d kk
theorem wgN_play_faultAt (h : Cx X cc own nl fr lo) {index : Nat} {host : String} (hl : Cond.fieldLinkNest own index RX2 "faultAt" "I" host ∈ gN) (d : decode cc pc = .ok (.getfield index, 3)) (kk : Wa X w (pc + 3) lv (.int (w.1 1) :: rest)) : Wa X w pc lv (.ref (Ad X 4) :: rest) := wa_getNG h inX2 4 rfl rfl 2 (by decide) hl rfl rfl d kk
theorem wpN_play_faultAt (h : Cx X cc own nl fr lo) {index : Nat} {host : String} (hl : Cond.fieldLinkNest own index RX2 "faultAt" "I" host ∈ gN) {v : Int32} (d : decode cc pc = .ok (.putfield index, 3)) (kk : Wa X (wI w 1 v) (pc + 3) lv rest) : Wa X w pc lv (.int v :: .ref (Ad X 4) :: rest) := wa_putNG h inX2 tyX2 tyX2_ok nmX2 4 rfl rfl 2 (by decide) hl rfl rfl (ty := .int) rfl rfl rfl (by show _ < _; exact Nat.le_of_ble_eq_true rfl) (wI w 1 v) (cs_play_faultAt _ _ _) d kk
theorem wg_play_asked (h : Cx X cc own nl fr lo) {index : Nat} (hl : Cond.fieldLink own index RX2 "asked" "I" ∈ gT) (d : decode cc pc = .ok (.getfield index, 3)) (kk : Wa X w (pc + 3) lv (.int (w.1 2) :: rest)) : Wa X w pc lv (.ref (Ad X 4) :: rest) := wa_getG h inX2 4 rfl rfl 3 (by decide) hl rfl rfl d kk
theorem cs_play_asked (E : ET) (w : Wd) (v : Int32) : (cellsOf E w).set 4 (E.2.1 4, .inr (2, [.ref (E.2.1 5), .int (w.1 0), .int (w.1 1), .int v, .int (w.1 3), .int (w.1 4), .ref (E.2.1 6), .int (w.1 5), .int (w.1 6), .int (w.1 7), .ref (E.2.1 7)])) = cellsOf E (wI w 2 v) := by rfl
theorem wp_play_asked (h : Cx X cc own nl fr lo) {index : Nat} (hl : Cond.fieldLink own index RX2 "asked" "I" ∈ gT) {v : Int32} (d : decode cc pc = .ok (.putfield index, 3)) (kk : Wa X (wI w 2 v) (pc + 3) lv rest) : Wa X w pc lv (.int v :: .ref (Ad X 4) :: rest) := wa_putG h inX2 tyX2 tyX2_ok nmX2 4 rfl rfl 3 (by decide) hl rfl rfl (ty := .int) rfl rfl rfl (by show _ < _; exact Nat.le_of_ble_eq_true rfl) (wI w 2 v) (cs_play_asked _ _ _) d kk
theorem wgN_play_asked (h : Cx X cc own nl fr lo) {index : Nat} {host : String} (hl : Cond.fieldLinkNest own index RX2 "asked" "I" host ∈ gN) (d : decode cc pc = .ok (.getfield index, 3)) (kk : Wa X w (pc + 3) lv (.int (w.1 2) :: rest)) : Wa X w pc lv (.ref (Ad X 4) :: rest) := wa_getNG h inX2 4 rfl rfl 3 (by decide) hl rfl rfl d kk
theorem wpN_play_asked (h : Cx X cc own nl fr lo) {index : Nat} {host : String} (hl : Cond.fieldLinkNest own index RX2 "asked" "I" host ∈ gN) {v : Int32} (d : decode cc pc = .ok (.putfield index, 3)) (kk : Wa X (wI w 2 v) (pc + 3) lv rest) : Wa X w pc lv (.int v :: .ref (Ad X 4) :: rest) := wa_putNG h inX2 tyX2 tyX2_ok nmX2 4 rfl rfl 3 (by decide) hl rfl rfl (ty := .int) rfl rfl rfl (by show _ < _; exact Nat.le_of_ble_eq_true rfl) (wI w 2 v) (cs_play_asked _ _ _) d kk
theorem wg_play_comings (h : Cx X cc own nl fr lo) {index : Nat} (hl : Cond.fieldLink own index RX2 "comings" "I" ∈ gT) (d : decode cc pc = .ok (.getfield index, 3)) (kk : Wa X w (pc + 3) lv (.int (w.1 3) :: rest)) : Wa X w pc lv (.ref (Ad X 4) :: rest) := wa_getG h inX2 4 rfl rfl 4 (by decide) hl rfl rfl d kk
theorem cs_play_comings (E : ET) (w : Wd) (v : Int32) : (cellsOf E w).set 4 (E.2.1 4, .inr (2, [.ref (E.2.1 5), .int (w.1 0), .int (w.1 1), .int (w.1 2), .int v, .int (w.1 4), .ref (E.2.1 6), .int (w.1 5), .int (w.1 6), .int (w.1 7), .ref (E.2.1 7)])) = cellsOf E (wI w 3 v) := by rfl
theorem wp_play_comings (h : Cx X cc own nl fr lo) {index : Nat} (hl : Cond.fieldLink own index RX2 "comings" "I" ∈ gT) {v : Int32} (d : decode cc pc = .ok (.putfield index, 3)) (kk : Wa X (wI w 3 v) (pc + 3) lv rest) : Wa X w pc lv (.int v :: .ref (Ad X 4) :: rest) := wa_putG h inX2 tyX2 tyX2_ok nmX2 4 rfl rfl 4 (by decide) hl rfl rfl (ty := .int) rfl rfl rfl (by show _ < _; exact Nat.le_of_ble_eq_true rfl) (wI w 3 v) (cs_play_comings _ _ _) d kk
theorem wgN_play_comings (h : Cx X cc own nl fr lo) {index : Nat} {host : String} (hl : Cond.fieldLinkNest own index RX2 "comings" "I" host ∈ gN) (d : decode cc pc = .ok (.getfield index, 3)) (kk : Wa X w (pc + 3) lv (.int (w.1 3) :: rest)) : Wa X w pc lv (.ref (Ad X 4) :: rest) := wa_getNG h inX2 4 rfl rfl 4 (by decide) hl rfl rfl d kk
theorem wpN_play_comings (h : Cx X cc own nl fr lo) {index : Nat} {host : String} (hl : Cond.fieldLinkNest own index RX2 "comings" "I" host ∈ gN) {v : Int32} (d : decode cc pc = .ok (.putfield index, 3)) (kk : Wa X (wI w 3 v) (pc + 3) lv rest) : Wa X w pc lv (.int v :: .ref (Ad X 4) :: rest) := wa_putNG h inX2 tyX2 tyX2_ok nmX2 4 rfl rfl 4 (by decide) hl rfl rfl (ty := .int) rfl rfl rfl (by show _ < _; exact Nat.le_of_ble_eq_true rfl) (wI w 3 v) (cs_play_comings _ _ _) d kk
theorem wg_play_lineCount (h : Cx X cc own nl fr lo) {index : Nat} (hl : Cond.fieldLink own index RX2 "lineCount" "I" ∈ gT) (d : decode cc pc = .ok (.getfield index, 3)) (kk : Wa X w (pc + 3) lv (.int (w.1 4) :: rest)) : Wa X w pc lv (.ref (Ad X 4) :: rest) := wa_getG h inX2 4 rfl rfl 5 (by decide) hl rfl rfl d kk
theorem cs_play_lineCount (E : ET) (w : Wd) (v : Int32) : (cellsOf E w).set 4 (E.2.1 4, .inr (2, [.ref (E.2.1 5), .int (w.1 0), .int (w.1 1), .int (w.1 2), .int (w.1 3), .int v, .ref (E.2.1 6), .int (w.1 5), .int (w.1 6), .int (w.1 7), .ref (E.2.1 7)])) = cellsOf E (wI w 4 v) := by rfl
theorem wp_play_lineCount (h : Cx X cc own nl fr lo) {index : Nat} (hl : Cond.fieldLink own index RX2 "lineCount" "I" ∈ gT) {v : Int32} (d : decode cc pc = .ok (.putfield index, 3)) (kk : Wa X (wI w 4 v) (pc + 3) lv rest) : Wa X w pc lv (.int v :: .ref (Ad X 4) :: rest) := wa_putG h inX2 tyX2 tyX2_ok nmX2 4 rfl rfl 5 (by decide) hl rfl rfl (ty := .int) rfl rfl rfl (by show _ < _; exact Nat.le_of_ble_eq_true rfl) (wI w 4 v) (cs_play_lineCount _ _ _) d kk
theorem wgN_play_lineCount (h : Cx X cc own nl fr lo) {index : Nat} {host : String} (hl : Cond.fieldLinkNest own index RX2 "lineCount" "I" host ∈ gN) (d : decode cc pc = .ok (.getfield index, 3)) (kk : Wa X w (pc + 3) lv (.int (w.1 4) :: rest)) : Wa X w pc lv (.ref (Ad X 4) :: rest) := wa_getNG h inX2 4 rfl rfl 5 (by decide) hl rfl rfl d kk
theorem wpN_play_lineCount (h : Cx X cc own nl fr lo) {index : Nat} {host : String} (hl : Cond.fieldLinkNest own index RX2 "lineCount" "I" host ∈ gN) {v : Int32} (d : decode cc pc = .ok (.putfield index, 3)) (kk : Wa X (wI w 4 v) (pc + 3) lv rest) : Wa X w pc lv (.int v :: .ref (Ad X 4) :: rest) := wa_putNG h inX2 tyX2 tyX2_ok nmX2 4 rfl rfl 5 (by decide) hl rfl rfl (ty := .int) rfl rfl rfl (by show _ < _; exact Nat.le_of_ble_eq_true rfl) (wI w 4 v) (cs_play_lineCount _ _ _) d kk
theorem wg_play_manyAt (h : Cx X cc own nl fr lo) {index : Nat} (hl : Cond.fieldLink own index RX2 "manyAt" "[I" ∈ gT) (d : decode cc pc = .ok (.getfield index, 3)) (kk : Wa X w (pc + 3) lv (.ref (Ad X 6) :: rest)) : Wa X w pc lv (.ref (Ad X 4) :: rest) := wa_getG h inX2 4 rfl rfl 6 (by decide) hl rfl rfl d kk
theorem wgN_play_manyAt (h : Cx X cc own nl fr lo) {index : Nat} {host : String} (hl : Cond.fieldLinkNest own index RX2 "manyAt" "[I" host ∈ gN) (d : decode cc pc = .ok (.getfield index, 3)) (kk : Wa X w (pc + 3) lv (.ref (Ad X 6) :: rest)) : Wa X w pc lv (.ref (Ad X 4) :: rest) := wa_getNG h inX2 4 rfl rfl 6 (by decide) hl rfl rfl d kk
theorem wg_play_impossibleAt (h : Cx X cc own nl fr lo) {index : Nat} (hl : Cond.fieldLink own index RX2 "impossibleAt" "I" ∈ gT) (d : decode cc pc = .ok (.getfield index, 3)) (kk : Wa X w (pc + 3) lv (.int (w.1 5) :: rest)) : Wa X w pc lv (.ref (Ad X 4) :: rest) := wa_getG h inX2 4 rfl rfl 7 (by decide) hl rfl rfl d kk
theorem cs_play_impossibleAt (E : ET) (w : Wd) (v : Int32) : (cellsOf E w).set 4 (E.2.1 4, .inr (2, [.ref (E.2.1 5), .int (w.1 0), .int (w.1 1), .int (w.1 2), .int (w.1 3), .int (w.1 4), .ref (E.2.1 6), .int v, .int (w.1 6), .int (w.1 7), .ref (E.2.1 7)])) = cellsOf E (wI w 5 v) := by rfl
theorem wp_play_impossibleAt (h : Cx X cc own nl fr lo) {index : Nat} (hl : Cond.fieldLink own index RX2 "impossibleAt" "I" ∈ gT) {v : Int32} (d : decode cc pc = .ok (.putfield index, 3)) (kk : Wa X (wI w 5 v) (pc + 3) lv rest) : Wa X w pc lv (.int v :: .ref (Ad X 4) :: rest) := wa_putG h inX2 tyX2 tyX2_ok nmX2 4 rfl rfl 7 (by decide) hl rfl rfl (ty := .int) rfl rfl rfl (by show _ < _; exact Nat.le_of_ble_eq_true rfl) (wI w 5 v) (cs_play_impossibleAt _ _ _) d kk
theorem wgN_play_impossibleAt (h : Cx X cc own nl fr lo) {index : Nat} {host : String} (hl : Cond.fieldLinkNest own index RX2 "impossibleAt" "I" host ∈ gN) (d : decode cc pc = .ok (.getfield index, 3)) (kk : Wa X w (pc + 3) lv (.int (w.1 5) :: rest)) : Wa X w pc lv (.ref (Ad X 4) :: rest) := wa_getNG h inX2 4 rfl rfl 7 (by decide) hl rfl rfl d kk
theorem wpN_play_impossibleAt (h : Cx X cc own nl fr lo) {index : Nat} {host : String} (hl : Cond.fieldLinkNest own index RX2 "impossibleAt" "I" host ∈ gN) {v : Int32} (d : decode cc pc = .ok (.putfield index, 3)) (kk : Wa X (wI w 5 v) (pc + 3) lv rest) : Wa X w pc lv (.int v :: .ref (Ad X 4) :: rest) := wa_putNG h inX2 tyX2 tyX2_ok nmX2 4 rfl rfl 7 (by decide) hl rfl rfl (ty := .int) rfl rfl rfl (by show _ < _; exact Nat.le_of_ble_eq_true rfl) (wI w 5 v) (cs_play_impossibleAt _ _ _) d kk
theorem wg_play_why (h : Cx X cc own nl fr lo) {index : Nat} (hl : Cond.fieldLink own index RX2 "why" "I" ∈ gT) (d : decode cc pc = .ok (.getfield index, 3)) (kk : Wa X w (pc + 3) lv (.int (w.1 6) :: rest)) : Wa X w pc lv (.ref (Ad X 4) :: rest) := wa_getG h inX2 4 rfl rfl 8 (by decide) hl rfl rfl d kk
theorem cs_play_why (E : ET) (w : Wd) (v : Int32) : (cellsOf E w).set 4 (E.2.1 4, .inr (2, [.ref (E.2.1 5), .int (w.1 0), .int (w.1 1), .int (w.1 2), .int (w.1 3), .int (w.1 4), .ref (E.2.1 6), .int (w.1 5), .int v, .int (w.1 7), .ref (E.2.1 7)])) = cellsOf E (wI w 6 v) := by rfl
theorem wp_play_why (h : Cx X cc own nl fr lo) {index : Nat} (hl : Cond.fieldLink own index RX2 "why" "I" ∈ gT) {v : Int32} (d : decode cc pc = .ok (.putfield index, 3)) (kk : Wa X (wI w 6 v) (pc + 3) lv rest) : Wa X w pc lv (.int v :: .ref (Ad X 4) :: rest) := wa_putG h inX2 tyX2 tyX2_ok nmX2 4 rfl rfl 8 (by decide) hl rfl rfl (ty := .int) rfl rfl rfl (by show _ < _; exact Nat.le_of_ble_eq_true rfl) (wI w 6 v) (cs_play_why _ _ _) d kk
theorem wgN_play_why (h : Cx X cc own nl fr lo) {index : Nat} {host : String} (hl : Cond.fieldLinkNest own index RX2 "why" "I" host ∈ gN) (d : decode cc pc = .ok (.getfield index, 3)) (kk : Wa X w (pc + 3) lv (.int (w.1 6) :: rest)) : Wa X w pc lv (.ref (Ad X 4) :: rest) := wa_getNG h inX2 4 rfl rfl 8 (by decide) hl rfl rfl d kk
theorem wpN_play_why (h : Cx X cc own nl fr lo) {index : Nat} {host : String} (hl : Cond.fieldLinkNest own index RX2 "why" "I" host ∈ gN) {v : Int32} (d : decode cc pc = .ok (.putfield index, 3)) (kk : Wa X (wI w 6 v) (pc + 3) lv rest) : Wa X w pc lv (.int v :: .ref (Ad X 4) :: rest) := wa_putNG h inX2 tyX2 tyX2_ok nmX2 4 rfl rfl 8 (by decide) hl rfl rfl (ty := .int) rfl rfl rfl (by show _ < _; exact Nat.le_of_ble_eq_true rfl) (wI w 6 v) (cs_play_why _ _ _) d kk
theorem wg_play_met (h : Cx X cc own nl fr lo) {index : Nat} (hl : Cond.fieldLink own index RX2 "met" "I" ∈ gT) (d : decode cc pc = .ok (.getfield index, 3)) (kk : Wa X w (pc + 3) lv (.int (w.1 7) :: rest)) : Wa X w pc lv (.ref (Ad X 4) :: rest) := wa_getG h inX2 4 rfl rfl 9 (by decide) hl rfl rfl d kk
theorem cs_play_met (E : ET) (w : Wd) (v : Int32) : (cellsOf E w).set 4 (E.2.1 4, .inr (2, [.ref (E.2.1 5), .int (w.1 0), .int (w.1 1), .int (w.1 2), .int (w.1 3), .int (w.1 4), .ref (E.2.1 6), .int (w.1 5), .int (w.1 6), .int v, .ref (E.2.1 7)])) = cellsOf E (wI w 7 v) := by rfl
theorem wp_play_met (h : Cx X cc own nl fr lo) {index : Nat} (hl : Cond.fieldLink own index RX2 "met" "I" ∈ gT) {v : Int32} (d : decode cc pc = .ok (.putfield index, 3)) (kk : Wa X (wI w 7 v) (pc + 3) lv rest) : Wa X w pc lv (.int v :: .ref (Ad X 4) :: rest) := wa_putG h inX2 tyX2 tyX2_ok nmX2 4 rfl rfl 9 (by decide) hl rfl rfl (ty := .int) rfl rfl rfl (by show _ < _; exact Nat.le_of_ble_eq_true rfl) (wI w 7 v) (cs_play_met _ _ _) d kk
theorem wgN_play_met (h : Cx X cc own nl fr lo) {index : Nat} {host : String} (hl : Cond.fieldLinkNest own index RX2 "met" "I" host ∈ gN) (d : decode cc pc = .ok (.getfield index, 3)) (kk : Wa X w (pc + 3) lv (.int (w.1 7) :: rest)) : Wa X w pc lv (.ref (Ad X 4) :: rest) := wa_getNG h inX2 4 rfl rfl 9 (by decide) hl rfl rfl d kk
theorem wpN_play_met (h : Cx X cc own nl fr lo) {index : Nat} {host : String} (hl : Cond.fieldLinkNest own index RX2 "met" "I" host ∈ gN) {v : Int32} (d : decode cc pc = .ok (.putfield index, 3)) (kk : Wa X (wI w 7 v) (pc + 3) lv rest) : Wa X w pc lv (.int v :: .ref (Ad X 4) :: rest) := wa_putNG h inX2 tyX2 tyX2_ok nmX2 4 rfl rfl 9 (by decide) hl rfl rfl (ty := .int) rfl rfl rfl (by show _ < _; exact Nat.le_of_ble_eq_true rfl) (wI w 7 v) (cs_play_met _ _ _) d kk
theorem wg_play_onAt (h : Cx X cc own nl fr lo) {index : Nat} (hl : Cond.fieldLink own index RX2 "onAt" "[I" ∈ gT) (d : decode cc pc = .ok (.getfield index, 3)) (kk : Wa X w (pc + 3) lv (.ref (Ad X 7) :: rest)) : Wa X w pc lv (.ref (Ad X 4) :: rest) := wa_getG h inX2 4 rfl rfl 10 (by decide) hl rfl rfl d kk
theorem wgN_play_onAt (h : Cx X cc own nl fr lo) {index : Nat} {host : String} (hl : Cond.fieldLinkNest own index RX2 "onAt" "[I" host ∈ gN) (d : decode cc pc = .ok (.getfield index, 3)) (kk : Wa X w (pc + 3) lv (.ref (Ad X 7) :: rest)) : Wa X w pc lv (.ref (Ad X 4) :: rest) := wa_getNG h inX2 4 rfl rfl 10 (by decide) hl rfl rfl d kk
theorem ct_play_signs (E : ET) (w : Wd) (f : Nat → Int32) : (cellsOf E w).set 5 (E.2.1 5, .inl (E.2.2 0, 40, .inl f)) = cellsOf E (wR w 5 f) := by rfl
theorem wl_play_signs (h : Cx X cc own nl fr lo) {i : Int32} (hg : gd i 40 = true) (d : decode cc pc = .ok (.iaload, 1)) (kk : Wa X w (pc + 1) lv (.int (w.2.1 5 i.toNatClampNeg) :: rest)) : Wa X w pc lv (.int i :: .ref (Ad X 5) :: rest) := wa_ialdG h 5 rfl hg d kk
theorem ws_play_signs (h : Cx X cc own nl fr lo) {i v : Int32} (hg : gd i 40 = true) (d : decode cc pc = .ok (.iastore, 1)) (kk : Wa X (wA w 5 i v) (pc + 1) lv rest) : Wa X w pc lv (.int v :: .int i :: .ref (Ad X 5) :: rest) := wa_iastG h 5 rfl hg (wA w 5 i v) (ct_play_signs _ _ _) d kk
theorem wn_play_signs (h : Cx X cc own nl fr lo) (d : decode cc pc = .ok (.arraylength, 1)) (kk : Wa X w (pc + 1) lv (.int 40 :: rest)) : Wa X w pc lv (.ref (Ad X 5) :: rest) := wa_alenG h 5 rfl 40 rfl d kk
theorem ct_play_manyAt (E : ET) (w : Wd) (f : Nat → Int32) : (cellsOf E w).set 6 (E.2.1 6, .inl (E.2.2 0, 40, .inl f)) = cellsOf E (wR w 6 f) := by rfl
theorem wl_play_manyAt (h : Cx X cc own nl fr lo) {i : Int32} (hg : gd i 40 = true) (d : decode cc pc = .ok (.iaload, 1)) (kk : Wa X w (pc + 1) lv (.int (w.2.1 6 i.toNatClampNeg) :: rest)) : Wa X w pc lv (.int i :: .ref (Ad X 6) :: rest) := wa_ialdG h 6 rfl hg d kk
theorem ws_play_manyAt (h : Cx X cc own nl fr lo) {i v : Int32} (hg : gd i 40 = true) (d : decode cc pc = .ok (.iastore, 1)) (kk : Wa X (wA w 6 i v) (pc + 1) lv rest) : Wa X w pc lv (.int v :: .int i :: .ref (Ad X 6) :: rest) := wa_iastG h 6 rfl hg (wA w 6 i v) (ct_play_manyAt _ _ _) d kk
theorem wn_play_manyAt (h : Cx X cc own nl fr lo) (d : decode cc pc = .ok (.arraylength, 1)) (kk : Wa X w (pc + 1) lv (.int 40 :: rest)) : Wa X w pc lv (.ref (Ad X 6) :: rest) := wa_alenG h 6 rfl 40 rfl d kk
theorem ct_play_onAt (E : ET) (w : Wd) (f : Nat → Int32) : (cellsOf E w).set 7 (E.2.1 7, .inl (E.2.2 0, 40, .inl f)) = cellsOf E (wR w 7 f) := by rfl
theorem wl_play_onAt (h : Cx X cc own nl fr lo) {i : Int32} (hg : gd i 40 = true) (d : decode cc pc = .ok (.iaload, 1)) (kk : Wa X w (pc + 1) lv (.int (w.2.1 7 i.toNatClampNeg) :: rest)) : Wa X w pc lv (.int i :: .ref (Ad X 7) :: rest) := wa_ialdG h 7 rfl hg d kk
theorem ws_play_onAt (h : Cx X cc own nl fr lo) {i v : Int32} (hg : gd i 40 = true) (d : decode cc pc = .ok (.iastore, 1)) (kk : Wa X (wA w 7 i v) (pc + 1) lv rest) : Wa X w pc lv (.int v :: .int i :: .ref (Ad X 7) :: rest) := wa_iastG h 7 rfl hg (wA w 7 i v) (ct_play_onAt _ _ _) d kk
theorem wn_play_onAt (h : Cx X cc own nl fr lo) (d : decode cc pc = .ok (.arraylength, 1)) (kk : Wa X w (pc + 1) lv (.int 40 :: rest)) : Wa X w pc lv (.ref (Ad X 7) :: rest) := wa_alenG h 7 rfl 40 rfl d kk
theorem wg_rules_law (h : Cx X cc own nl fr lo) {index : Nat} (hl : Cond.fieldLink own index RX3 "law" "I" ∈ gT) (d : decode cc pc = .ok (.getfield index, 3)) (kk : Wa X w (pc + 3) lv (.int (w.1 8) :: rest)) : Wa X w pc lv (.ref (Ad X 8) :: rest) := wa_getG h inX3 8 rfl rfl 0 (by decide) hl rfl rfl d kk
theorem cs_rules_law (E : ET) (w : Wd) (v : Int32) : (cellsOf E w).set 8 (E.2.1 8, .inr (3, [.int v, .int (w.1 9), .int (w.1 10), .int (w.1 11), .int (w.1 12), .ref (E.2.1 9), .ref (E.2.1 10), .ref (E.2.1 11), .ref (E.2.1 12), .ref (E.2.1 13)])) = cellsOf E (wI w 8 v) := by rfl
theorem wp_rules_law (h : Cx X cc own nl fr lo) {index : Nat} (hl : Cond.fieldLink own index RX3 "law" "I" ∈ gT) {v : Int32} (d : decode cc pc = .ok (.putfield index, 3)) (kk : Wa X (wI w 8 v) (pc + 3) lv rest) : Wa X w pc lv (.int v :: .ref (Ad X 8) :: rest) := wa_putG h inX3 tyX3 tyX3_ok nmX3 8 rfl rfl 0 (by decide) hl rfl rfl (ty := .int) rfl rfl rfl (by show _ < _; exact Nat.le_of_ble_eq_true rfl) (wI w 8 v) (cs_rules_law _ _ _) d kk
theorem wgN_rules_law (h : Cx X cc own nl fr lo) {index : Nat} {host : String} (hl : Cond.fieldLinkNest own index RX3 "law" "I" host ∈ gN) (d : decode cc pc = .ok (.getfield index, 3)) (kk : Wa X w (pc + 3) lv (.int (w.1 8) :: rest)) : Wa X w pc lv (.ref (Ad X 8) :: rest) := wa_getNG h inX3 8 rfl rfl 0 (by decide) hl rfl rfl d kk
theorem wpN_rules_law (h : Cx X cc own nl fr lo) {index : Nat} {host : String} (hl : Cond.fieldLinkNest own index RX3 "law" "I" host ∈ gN) {v : Int32} (d : decode cc pc = .ok (.putfield index, 3)) (kk : Wa X (wI w 8 v) (pc + 3) lv rest) : Wa X w pc lv (.int v :: .ref (Ad X 8) :: rest) := wa_putNG h inX3 tyX3 tyX3_ok nmX3 8 rfl rfl 0 (by decide) hl rfl rfl (ty := .int) rfl rfl rfl (by show _ < _; exact Nat.le_of_ble_eq_true rfl) (wI w 8 v) (cs_rules_law _ _ _) d kk
theorem wg_rules_k (h : Cx X cc own nl fr lo) {index : Nat} (hl : Cond.fieldLink own index RX3 "k" "I" ∈ gT) (d : decode cc pc = .ok (.getfield index, 3)) (kk : Wa X w (pc + 3) lv (.int (w.1 9) :: rest)) : Wa X w pc lv (.ref (Ad X 8) :: rest) := wa_getG h inX3 8 rfl rfl 1 (by decide) hl rfl rfl d kk
theorem cs_rules_k (E : ET) (w : Wd) (v : Int32) : (cellsOf E w).set 8 (E.2.1 8, .inr (3, [.int (w.1 8), .int v, .int (w.1 10), .int (w.1 11), .int (w.1 12), .ref (E.2.1 9), .ref (E.2.1 10), .ref (E.2.1 11), .ref (E.2.1 12), .ref (E.2.1 13)])) = cellsOf E (wI w 9 v) := by rfl
theorem wp_rules_k (h : Cx X cc own nl fr lo) {index : Nat} (hl : Cond.fieldLink own index RX3 "k" "I" ∈ gT) {v : Int32} (d : decode cc pc = .ok (.putfield index, 3)) (kk : Wa X (wI w 9 v) (pc + 3) lv rest) : Wa X w pc lv (.int v :: .ref (Ad X 8) :: rest) := wa_putG h inX3 tyX3 tyX3_ok nmX3 8 rfl rfl 1 (by decide) hl rfl rfl (ty := .int) rfl rfl rfl (by show _ < _; exact Nat.le_of_ble_eq_true rfl) (wI w 9 v) (cs_rules_k _ _ _) d kk
theorem wgN_rules_k (h : Cx X cc own nl fr lo) {index : Nat} {host : String} (hl : Cond.fieldLinkNest own index RX3 "k" "I" host ∈ gN) (d : decode cc pc = .ok (.getfield index, 3)) (kk : Wa X w (pc + 3) lv (.int (w.1 9) :: rest)) : Wa X w pc lv (.ref (Ad X 8) :: rest) := wa_getNG h inX3 8 rfl rfl 1 (by decide) hl rfl rfl d kk
theorem wpN_rules_k (h : Cx X cc own nl fr lo) {index : Nat} {host : String} (hl : Cond.fieldLinkNest own index RX3 "k" "I" host ∈ gN) {v : Int32} (d : decode cc pc = .ok (.putfield index, 3)) (kk : Wa X (wI w 9 v) (pc + 3) lv rest) : Wa X w pc lv (.int v :: .ref (Ad X 8) :: rest) := wa_putNG h inX3 tyX3 tyX3_ok nmX3 8 rfl rfl 1 (by decide) hl rfl rfl (ty := .int) rfl rfl rfl (by show _ < _; exact Nat.le_of_ble_eq_true rfl) (wI w 9 v) (cs_rules_k _ _ _) d kk
theorem wg_rules_change (h : Cx X cc own nl fr lo) {index : Nat} (hl : Cond.fieldLink own index RX3 "change" "I" ∈ gT) (d : decode cc pc = .ok (.getfield index, 3)) (kk : Wa X w (pc + 3) lv (.int (w.1 10) :: rest)) : Wa X w pc lv (.ref (Ad X 8) :: rest) := wa_getG h inX3 8 rfl rfl 2 (by decide) hl rfl rfl d kk
theorem cs_rules_change (E : ET) (w : Wd) (v : Int32) : (cellsOf E w).set 8 (E.2.1 8, .inr (3, [.int (w.1 8), .int (w.1 9), .int v, .int (w.1 11), .int (w.1 12), .ref (E.2.1 9), .ref (E.2.1 10), .ref (E.2.1 11), .ref (E.2.1 12), .ref (E.2.1 13)])) = cellsOf E (wI w 10 v) := by rfl
theorem wp_rules_change (h : Cx X cc own nl fr lo) {index : Nat} (hl : Cond.fieldLink own index RX3 "change" "I" ∈ gT) {v : Int32} (d : decode cc pc = .ok (.putfield index, 3)) (kk : Wa X (wI w 10 v) (pc + 3) lv rest) : Wa X w pc lv (.int v :: .ref (Ad X 8) :: rest) := wa_putG h inX3 tyX3 tyX3_ok nmX3 8 rfl rfl 2 (by decide) hl rfl rfl (ty := .int) rfl rfl rfl (by show _ < _; exact Nat.le_of_ble_eq_true rfl) (wI w 10 v) (cs_rules_change _ _ _) d kk
theorem wgN_rules_change (h : Cx X cc own nl fr lo) {index : Nat} {host : String} (hl : Cond.fieldLinkNest own index RX3 "change" "I" host ∈ gN) (d : decode cc pc = .ok (.getfield index, 3)) (kk : Wa X w (pc + 3) lv (.int (w.1 10) :: rest)) : Wa X w pc lv (.ref (Ad X 8) :: rest) := wa_getNG h inX3 8 rfl rfl 2 (by decide) hl rfl rfl d kk
theorem wpN_rules_change (h : Cx X cc own nl fr lo) {index : Nat} {host : String} (hl : Cond.fieldLinkNest own index RX3 "change" "I" host ∈ gN) {v : Int32} (d : decode cc pc = .ok (.putfield index, 3)) (kk : Wa X (wI w 10 v) (pc + 3) lv rest) : Wa X w pc lv (.int v :: .ref (Ad X 8) :: rest) := wa_putNG h inX3 tyX3 tyX3_ok nmX3 8 rfl rfl 2 (by decide) hl rfl rfl (ty := .int) rfl rfl rfl (by show _ < _; exact Nat.le_of_ble_eq_true rfl) (wI w 10 v) (cs_rules_change _ _ _) d kk
theorem wg_rules_scenes (h : Cx X cc own nl fr lo) {index : Nat} (hl : Cond.fieldLink own index RX3 "scenes" "I" ∈ gT) (d : decode cc pc = .ok (.getfield index, 3)) (kk : Wa X w (pc + 3) lv (.int (w.1 11) :: rest)) : Wa X w pc lv (.ref (Ad X 8) :: rest) := wa_getG h inX3 8 rfl rfl 3 (by decide) hl rfl rfl d kk
theorem cs_rules_scenes (E : ET) (w : Wd) (v : Int32) : (cellsOf E w).set 8 (E.2.1 8, .inr (3, [.int (w.1 8), .int (w.1 9), .int (w.1 10), .int v, .int (w.1 12), .ref (E.2.1 9), .ref (E.2.1 10), .ref (E.2.1 11), .ref (E.2.1 12), .ref (E.2.1 13)])) = cellsOf E (wI w 11 v) := by rfl
theorem wp_rules_scenes (h : Cx X cc own nl fr lo) {index : Nat} (hl : Cond.fieldLink own index RX3 "scenes" "I" ∈ gT) {v : Int32} (d : decode cc pc = .ok (.putfield index, 3)) (kk : Wa X (wI w 11 v) (pc + 3) lv rest) : Wa X w pc lv (.int v :: .ref (Ad X 8) :: rest) := wa_putG h inX3 tyX3 tyX3_ok nmX3 8 rfl rfl 3 (by decide) hl rfl rfl (ty := .int) rfl rfl rfl (by show _ < _; exact Nat.le_of_ble_eq_true rfl) (wI w 11 v) (cs_rules_scenes _ _ _) d kk
theorem wgN_rules_scenes (h : Cx X cc own nl fr lo) {index : Nat} {host : String} (hl : Cond.fieldLinkNest own index RX3 "scenes" "I" host ∈ gN) (d : decode cc pc = .ok (.getfield index, 3)) (kk : Wa X w (pc + 3) lv (.int (w.1 11) :: rest)) : Wa X w pc lv (.ref (Ad X 8) :: rest) := wa_getNG h inX3 8 rfl rfl 3 (by decide) hl rfl rfl d kk
theorem wpN_rules_scenes (h : Cx X cc own nl fr lo) {index : Nat} {host : String} (hl : Cond.fieldLinkNest own index RX3 "scenes" "I" host ∈ gN) {v : Int32} (d : decode cc pc = .ok (.putfield index, 3)) (kk : Wa X (wI w 11 v) (pc + 3) lv rest) : Wa X w pc lv (.int v :: .ref (Ad X 8) :: rest) := wa_putNG h inX3 tyX3 tyX3_ok nmX3 8 rfl rfl 3 (by decide) hl rfl rfl (ty := .int) rfl rfl rfl (by show _ < _; exact Nat.le_of_ble_eq_true rfl) (wI w 11 v) (cs_rules_scenes _ _ _) d kk
theorem wg_rules_sights (h : Cx X cc own nl fr lo) {index : Nat} (hl : Cond.fieldLink own index RX3 "sights" "I" ∈ gT) (d : decode cc pc = .ok (.getfield index, 3)) (kk : Wa X w (pc + 3) lv (.int (w.1 12) :: rest)) : Wa X w pc lv (.ref (Ad X 8) :: rest) := wa_getG h inX3 8 rfl rfl 4 (by decide) hl rfl rfl d kk
theorem cs_rules_sights (E : ET) (w : Wd) (v : Int32) : (cellsOf E w).set 8 (E.2.1 8, .inr (3, [.int (w.1 8), .int (w.1 9), .int (w.1 10), .int (w.1 11), .int v, .ref (E.2.1 9), .ref (E.2.1 10), .ref (E.2.1 11), .ref (E.2.1 12), .ref (E.2.1 13)])) = cellsOf E (wI w 12 v) := by rfl
theorem wp_rules_sights (h : Cx X cc own nl fr lo) {index : Nat} (hl : Cond.fieldLink own index RX3 "sights" "I" ∈ gT) {v : Int32} (d : decode cc pc = .ok (.putfield index, 3)) (kk : Wa X (wI w 12 v) (pc + 3) lv rest) : Wa X w pc lv (.int v :: .ref (Ad X 8) :: rest) := wa_putG h inX3 tyX3 tyX3_ok nmX3 8 rfl rfl 4 (by decide) hl rfl rfl (ty := .int) rfl rfl rfl (by show _ < _; exact Nat.le_of_ble_eq_true rfl) (wI w 12 v) (cs_rules_sights _ _ _) d kk
theorem wgN_rules_sights (h : Cx X cc own nl fr lo) {index : Nat} {host : String} (hl : Cond.fieldLinkNest own index RX3 "sights" "I" host ∈ gN) (d : decode cc pc = .ok (.getfield index, 3)) (kk : Wa X w (pc + 3) lv (.int (w.1 12) :: rest)) : Wa X w pc lv (.ref (Ad X 8) :: rest) := wa_getNG h inX3 8 rfl rfl 4 (by decide) hl rfl rfl d kk
theorem wpN_rules_sights (h : Cx X cc own nl fr lo) {index : Nat} {host : String} (hl : Cond.fieldLinkNest own index RX3 "sights" "I" host ∈ gN) {v : Int32} (d : decode cc pc = .ok (.putfield index, 3)) (kk : Wa X (wI w 12 v) (pc + 3) lv rest) : Wa X w pc lv (.int v :: .ref (Ad X 8) :: rest) := wa_putNG h inX3 tyX3 tyX3_ok nmX3 8 rfl rfl 4 (by decide) hl rfl rfl (ty := .int) rfl rfl rfl (by show _ < _; exact Nat.le_of_ble_eq_true rfl) (wI w 12 v) (cs_rules_sights _ _ _) d kk
theorem wg_rules_apart (h : Cx X cc own nl fr lo) {index : Nat} (hl : Cond.fieldLink own index RX3 "apart" "[I" ∈ gT) (d : decode cc pc = .ok (.getfield index, 3)) (kk : Wa X w (pc + 3) lv (.ref (Ad X 9) :: rest)) : Wa X w pc lv (.ref (Ad X 8) :: rest) := wa_getG h inX3 8 rfl rfl 5 (by decide) hl rfl rfl d kk
theorem wgN_rules_apart (h : Cx X cc own nl fr lo) {index : Nat} {host : String} (hl : Cond.fieldLinkNest own index RX3 "apart" "[I" host ∈ gN) (d : decode cc pc = .ok (.getfield index, 3)) (kk : Wa X w (pc + 3) lv (.ref (Ad X 9) :: rest)) : Wa X w pc lv (.ref (Ad X 8) :: rest) := wa_getNG h inX3 8 rfl rfl 5 (by decide) hl rfl rfl d kk
theorem wg_rules_together (h : Cx X cc own nl fr lo) {index : Nat} (hl : Cond.fieldLink own index RX3 "together" "[I" ∈ gT) (d : decode cc pc = .ok (.getfield index, 3)) (kk : Wa X w (pc + 3) lv (.ref (Ad X 10) :: rest)) : Wa X w pc lv (.ref (Ad X 8) :: rest) := wa_getG h inX3 8 rfl rfl 6 (by decide) hl rfl rfl d kk
theorem wgN_rules_together (h : Cx X cc own nl fr lo) {index : Nat} {host : String} (hl : Cond.fieldLinkNest own index RX3 "together" "[I" host ∈ gN) (d : decode cc pc = .ok (.getfield index, 3)) (kk : Wa X w (pc + 3) lv (.ref (Ad X 10) :: rest)) : Wa X w pc lv (.ref (Ad X 8) :: rest) := wa_getNG h inX3 8 rfl rfl 6 (by decide) hl rfl rfl d kk
theorem wg_rules_sceneOn (h : Cx X cc own nl fr lo) {index : Nat} (hl : Cond.fieldLink own index RX3 "sceneOn" "[I" ∈ gT) (d : decode cc pc = .ok (.getfield index, 3)) (kk : Wa X w (pc + 3) lv (.ref (Ad X 11) :: rest)) : Wa X w pc lv (.ref (Ad X 8) :: rest) := wa_getG h inX3 8 rfl rfl 7 (by decide) hl rfl rfl d kk
theorem wgN_rules_sceneOn (h : Cx X cc own nl fr lo) {index : Nat} {host : String} (hl : Cond.fieldLinkNest own index RX3 "sceneOn" "[I" host ∈ gN) (d : decode cc pc = .ok (.getfield index, 3)) (kk : Wa X w (pc + 3) lv (.ref (Ad X 11) :: rest)) : Wa X w pc lv (.ref (Ad X 8) :: rest) := wa_getNG h inX3 8 rfl rfl 7 (by decide) hl rfl rfl d kk
theorem wg_rules_sightLine (h : Cx X cc own nl fr lo) {index : Nat} (hl : Cond.fieldLink own index RX3 "sightLine" "[I" ∈ gT) (d : decode cc pc = .ok (.getfield index, 3)) (kk : Wa X w (pc + 3) lv (.ref (Ad X 12) :: rest)) : Wa X w pc lv (.ref (Ad X 8) :: rest) := wa_getG h inX3 8 rfl rfl 8 (by decide) hl rfl rfl d kk
theorem wgN_rules_sightLine (h : Cx X cc own nl fr lo) {index : Nat} {host : String} (hl : Cond.fieldLinkNest own index RX3 "sightLine" "[I" host ∈ gN) (d : decode cc pc = .ok (.getfield index, 3)) (kk : Wa X w (pc + 3) lv (.ref (Ad X 12) :: rest)) : Wa X w pc lv (.ref (Ad X 8) :: rest) := wa_getNG h inX3 8 rfl rfl 8 (by decide) hl rfl rfl d kk
theorem wg_rules_sightMany (h : Cx X cc own nl fr lo) {index : Nat} (hl : Cond.fieldLink own index RX3 "sightMany" "[I" ∈ gT) (d : decode cc pc = .ok (.getfield index, 3)) (kk : Wa X w (pc + 3) lv (.ref (Ad X 13) :: rest)) : Wa X w pc lv (.ref (Ad X 8) :: rest) := wa_getG h inX3 8 rfl rfl 9 (by decide) hl rfl rfl d kk
theorem wgN_rules_sightMany (h : Cx X cc own nl fr lo) {index : Nat} {host : String} (hl : Cond.fieldLinkNest own index RX3 "sightMany" "[I" host ∈ gN) (d : decode cc pc = .ok (.getfield index, 3)) (kk : Wa X w (pc + 3) lv (.ref (Ad X 13) :: rest)) : Wa X w pc lv (.ref (Ad X 8) :: rest) := wa_getNG h inX3 8 rfl rfl 9 (by decide) hl rfl rfl d kk
theorem ct_rules_apart (E : ET) (w : Wd) (f : Nat → Int32) : (cellsOf E w).set 9 (E.2.1 9, .inl (E.2.2 0, 8, .inl f)) = cellsOf E (wR w 9 f) := by rfl
theorem wl_rules_apart (h : Cx X cc own nl fr lo) {i : Int32} (hg : gd i 8 = true) (d : decode cc pc = .ok (.iaload, 1)) (kk : Wa X w (pc + 1) lv (.int (w.2.1 9 i.toNatClampNeg) :: rest)) : Wa X w pc lv (.int i :: .ref (Ad X 9) :: rest) := wa_ialdG h 9 rfl hg d kk
theorem ws_rules_apart (h : Cx X cc own nl fr lo) {i v : Int32} (hg : gd i 8 = true) (d : decode cc pc = .ok (.iastore, 1)) (kk : Wa X (wA w 9 i v) (pc + 1) lv rest) : Wa X w pc lv (.int v :: .int i :: .ref (Ad X 9) :: rest) := wa_iastG h 9 rfl hg (wA w 9 i v) (ct_rules_apart _ _ _) d kk
theorem wn_rules_apart (h : Cx X cc own nl fr lo) (d : decode cc pc = .ok (.arraylength, 1)) (kk : Wa X w (pc + 1) lv (.int 8 :: rest)) : Wa X w pc lv (.ref (Ad X 9) :: rest) := wa_alenG h 9 rfl 8 rfl d kk
theorem ct_rules_together (E : ET) (w : Wd) (f : Nat → Int32) : (cellsOf E w).set 10 (E.2.1 10, .inl (E.2.2 0, 8, .inl f)) = cellsOf E (wR w 10 f) := by rfl
theorem wl_rules_together (h : Cx X cc own nl fr lo) {i : Int32} (hg : gd i 8 = true) (d : decode cc pc = .ok (.iaload, 1)) (kk : Wa X w (pc + 1) lv (.int (w.2.1 10 i.toNatClampNeg) :: rest)) : Wa X w pc lv (.int i :: .ref (Ad X 10) :: rest) := wa_ialdG h 10 rfl hg d kk
theorem ws_rules_together (h : Cx X cc own nl fr lo) {i v : Int32} (hg : gd i 8 = true) (d : decode cc pc = .ok (.iastore, 1)) (kk : Wa X (wA w 10 i v) (pc + 1) lv rest) : Wa X w pc lv (.int v :: .int i :: .ref (Ad X 10) :: rest) := wa_iastG h 10 rfl hg (wA w 10 i v) (ct_rules_together _ _ _) d kk
theorem wn_rules_together (h : Cx X cc own nl fr lo) (d : decode cc pc = .ok (.arraylength, 1)) (kk : Wa X w (pc + 1) lv (.int 8 :: rest)) : Wa X w pc lv (.ref (Ad X 10) :: rest) := wa_alenG h 10 rfl 8 rfl d kk
theorem ct_rules_sceneOn (E : ET) (w : Wd) (f : Nat → Int32) : (cellsOf E w).set 11 (E.2.1 11, .inl (E.2.2 0, 6, .inl f)) = cellsOf E (wR w 11 f) := by rfl
theorem wl_rules_sceneOn (h : Cx X cc own nl fr lo) {i : Int32} (hg : gd i 6 = true) (d : decode cc pc = .ok (.iaload, 1)) (kk : Wa X w (pc + 1) lv (.int (w.2.1 11 i.toNatClampNeg) :: rest)) : Wa X w pc lv (.int i :: .ref (Ad X 11) :: rest) := wa_ialdG h 11 rfl hg d kk
theorem ws_rules_sceneOn (h : Cx X cc own nl fr lo) {i v : Int32} (hg : gd i 6 = true) (d : decode cc pc = .ok (.iastore, 1)) (kk : Wa X (wA w 11 i v) (pc + 1) lv rest) : Wa X w pc lv (.int v :: .int i :: .ref (Ad X 11) :: rest) := wa_iastG h 11 rfl hg (wA w 11 i v) (ct_rules_sceneOn _ _ _) d kk
theorem wn_rules_sceneOn (h : Cx X cc own nl fr lo) (d : decode cc pc = .ok (.arraylength, 1)) (kk : Wa X w (pc + 1) lv (.int 6 :: rest)) : Wa X w pc lv (.ref (Ad X 11) :: rest) := wa_alenG h 11 rfl 6 rfl d kk
theorem ct_rules_sightLine (E : ET) (w : Wd) (f : Nat → Int32) : (cellsOf E w).set 12 (E.2.1 12, .inl (E.2.2 0, 6, .inl f)) = cellsOf E (wR w 12 f) := by rfl
theorem wl_rules_sightLine (h : Cx X cc own nl fr lo) {i : Int32} (hg : gd i 6 = true) (d : decode cc pc = .ok (.iaload, 1)) (kk : Wa X w (pc + 1) lv (.int (w.2.1 12 i.toNatClampNeg) :: rest)) : Wa X w pc lv (.int i :: .ref (Ad X 12) :: rest) := wa_ialdG h 12 rfl hg d kk
theorem ws_rules_sightLine (h : Cx X cc own nl fr lo) {i v : Int32} (hg : gd i 6 = true) (d : decode cc pc = .ok (.iastore, 1)) (kk : Wa X (wA w 12 i v) (pc + 1) lv rest) : Wa X w pc lv (.int v :: .int i :: .ref (Ad X 12) :: rest) := wa_iastG h 12 rfl hg (wA w 12 i v) (ct_rules_sightLine _ _ _) d kk
theorem wn_rules_sightLine (h : Cx X cc own nl fr lo) (d : decode cc pc = .ok (.arraylength, 1)) (kk : Wa X w (pc + 1) lv (.int 6 :: rest)) : Wa X w pc lv (.ref (Ad X 12) :: rest) := wa_alenG h 12 rfl 6 rfl d kk
theorem ct_rules_sightMany (E : ET) (w : Wd) (f : Nat → Int32) : (cellsOf E w).set 13 (E.2.1 13, .inl (E.2.2 0, 6, .inl f)) = cellsOf E (wR w 13 f) := by rfl
theorem wl_rules_sightMany (h : Cx X cc own nl fr lo) {i : Int32} (hg : gd i 6 = true) (d : decode cc pc = .ok (.iaload, 1)) (kk : Wa X w (pc + 1) lv (.int (w.2.1 13 i.toNatClampNeg) :: rest)) : Wa X w pc lv (.int i :: .ref (Ad X 13) :: rest) := wa_ialdG h 13 rfl hg d kk
theorem ws_rules_sightMany (h : Cx X cc own nl fr lo) {i v : Int32} (hg : gd i 6 = true) (d : decode cc pc = .ok (.iastore, 1)) (kk : Wa X (wA w 13 i v) (pc + 1) lv rest) : Wa X w pc lv (.int v :: .int i :: .ref (Ad X 13) :: rest) := wa_iastG h 13 rfl hg (wA w 13 i v) (ct_rules_sightMany _ _ _) d kk
theorem wn_rules_sightMany (h : Cx X cc own nl fr lo) (d : decode cc pc = .ok (.arraylength, 1)) (kk : Wa X w (pc + 1) lv (.int 6 :: rest)) : Wa X w pc lv (.ref (Ad X 13) :: rest) := wa_alenG h 13 rfl 6 rfl d kk
theorem wg_img0_law (h : Cx X cc own nl fr lo) {index : Nat} (hl : Cond.fieldLink own index RX3 "law" "I" ∈ gT) (d : decode cc pc = .ok (.getfield index, 3)) (kk : Wa X w (pc + 3) lv (.int (w.1 13) :: rest)) : Wa X w pc lv (.ref (Ad X 14) :: rest) := wa_getG h inX3 14 rfl rfl 0 (by decide) hl rfl rfl d kk
theorem cs_img0_law (E : ET) (w : Wd) (v : Int32) : (cellsOf E w).set 14 (E.2.1 14, .inr (3, [.int v, .int (w.1 14), .int (w.1 15), .int (w.1 16), .int (w.1 17), .ref (E.2.1 15), .ref (E.2.1 16), .ref (E.2.1 17), .ref (E.2.1 18), .ref (E.2.1 19)])) = cellsOf E (wI w 13 v) := by rfl
theorem wp_img0_law (h : Cx X cc own nl fr lo) {index : Nat} (hl : Cond.fieldLink own index RX3 "law" "I" ∈ gT) {v : Int32} (d : decode cc pc = .ok (.putfield index, 3)) (kk : Wa X (wI w 13 v) (pc + 3) lv rest) : Wa X w pc lv (.int v :: .ref (Ad X 14) :: rest) := wa_putG h inX3 tyX3 tyX3_ok nmX3 14 rfl rfl 0 (by decide) hl rfl rfl (ty := .int) rfl rfl rfl (by show _ < _; exact Nat.le_of_ble_eq_true rfl) (wI w 13 v) (cs_img0_law _ _ _) d kk
theorem wgN_img0_law (h : Cx X cc own nl fr lo) {index : Nat} {host : String} (hl : Cond.fieldLinkNest own index RX3 "law" "I" host ∈ gN) (d : decode cc pc = .ok (.getfield index, 3)) (kk : Wa X w (pc + 3) lv (.int (w.1 13) :: rest)) : Wa X w pc lv (.ref (Ad X 14) :: rest) := wa_getNG h inX3 14 rfl rfl 0 (by decide) hl rfl rfl d kk
theorem wpN_img0_law (h : Cx X cc own nl fr lo) {index : Nat} {host : String} (hl : Cond.fieldLinkNest own index RX3 "law" "I" host ∈ gN) {v : Int32} (d : decode cc pc = .ok (.putfield index, 3)) (kk : Wa X (wI w 13 v) (pc + 3) lv rest) : Wa X w pc lv (.int v :: .ref (Ad X 14) :: rest) := wa_putNG h inX3 tyX3 tyX3_ok nmX3 14 rfl rfl 0 (by decide) hl rfl rfl (ty := .int) rfl rfl rfl (by show _ < _; exact Nat.le_of_ble_eq_true rfl) (wI w 13 v) (cs_img0_law _ _ _) d kk
theorem wg_img0_k (h : Cx X cc own nl fr lo) {index : Nat} (hl : Cond.fieldLink own index RX3 "k" "I" ∈ gT) (d : decode cc pc = .ok (.getfield index, 3)) (kk : Wa X w (pc + 3) lv (.int (w.1 14) :: rest)) : Wa X w pc lv (.ref (Ad X 14) :: rest) := wa_getG h inX3 14 rfl rfl 1 (by decide) hl rfl rfl d kk
theorem cs_img0_k (E : ET) (w : Wd) (v : Int32) : (cellsOf E w).set 14 (E.2.1 14, .inr (3, [.int (w.1 13), .int v, .int (w.1 15), .int (w.1 16), .int (w.1 17), .ref (E.2.1 15), .ref (E.2.1 16), .ref (E.2.1 17), .ref (E.2.1 18), .ref (E.2.1 19)])) = cellsOf E (wI w 14 v) := by rfl
theorem wp_img0_k (h : Cx X cc own nl fr lo) {index : Nat} (hl : Cond.fieldLink own index RX3 "k" "I" ∈ gT) {v : Int32} (d : decode cc pc = .ok (.putfield index, 3)) (kk : Wa X (wI w 14 v) (pc + 3) lv rest) : Wa X w pc lv (.int v :: .ref (Ad X 14) :: rest) := wa_putG h inX3 tyX3 tyX3_ok nmX3 14 rfl rfl 1 (by decide) hl rfl rfl (ty := .int) rfl rfl rfl (by show _ < _; exact Nat.le_of_ble_eq_true rfl) (wI w 14 v) (cs_img0_k _ _ _) d kk
theorem wgN_img0_k (h : Cx X cc own nl fr lo) {index : Nat} {host : String} (hl : Cond.fieldLinkNest own index RX3 "k" "I" host ∈ gN) (d : decode cc pc = .ok (.getfield index, 3)) (kk : Wa X w (pc + 3) lv (.int (w.1 14) :: rest)) : Wa X w pc lv (.ref (Ad X 14) :: rest) := wa_getNG h inX3 14 rfl rfl 1 (by decide) hl rfl rfl d kk
theorem wpN_img0_k (h : Cx X cc own nl fr lo) {index : Nat} {host : String} (hl : Cond.fieldLinkNest own index RX3 "k" "I" host ∈ gN) {v : Int32} (d : decode cc pc = .ok (.putfield index, 3)) (kk : Wa X (wI w 14 v) (pc + 3) lv rest) : Wa X w pc lv (.int v :: .ref (Ad X 14) :: rest) := wa_putNG h inX3 tyX3 tyX3_ok nmX3 14 rfl rfl 1 (by decide) hl rfl rfl (ty := .int) rfl rfl rfl (by show _ < _; exact Nat.le_of_ble_eq_true rfl) (wI w 14 v) (cs_img0_k _ _ _) d kk
theorem wg_img0_change (h : Cx X cc own nl fr lo) {index : Nat} (hl : Cond.fieldLink own index RX3 "change" "I" ∈ gT) (d : decode cc pc = .ok (.getfield index, 3)) (kk : Wa X w (pc + 3) lv (.int (w.1 15) :: rest)) : Wa X w pc lv (.ref (Ad X 14) :: rest) := wa_getG h inX3 14 rfl rfl 2 (by decide) hl rfl rfl d kk
theorem cs_img0_change (E : ET) (w : Wd) (v : Int32) : (cellsOf E w).set 14 (E.2.1 14, .inr (3, [.int (w.1 13), .int (w.1 14), .int v, .int (w.1 16), .int (w.1 17), .ref (E.2.1 15), .ref (E.2.1 16), .ref (E.2.1 17), .ref (E.2.1 18), .ref (E.2.1 19)])) = cellsOf E (wI w 15 v) := by rfl
theorem wp_img0_change (h : Cx X cc own nl fr lo) {index : Nat} (hl : Cond.fieldLink own index RX3 "change" "I" ∈ gT) {v : Int32} (d : decode cc pc = .ok (.putfield index, 3)) (kk : Wa X (wI w 15 v) (pc + 3) lv rest) : Wa X w pc lv (.int v :: .ref (Ad X 14) :: rest) := wa_putG h inX3 tyX3 tyX3_ok nmX3 14 rfl rfl 2 (by decide) hl rfl rfl (ty := .int) rfl rfl rfl (by show _ < _; exact Nat.le_of_ble_eq_true rfl) (wI w 15 v) (cs_img0_change _ _ _) d kk
theorem wgN_img0_change (h : Cx X cc own nl fr lo) {index : Nat} {host : String} (hl : Cond.fieldLinkNest own index RX3 "change" "I" host ∈ gN) (d : decode cc pc = .ok (.getfield index, 3)) (kk : Wa X w (pc + 3) lv (.int (w.1 15) :: rest)) : Wa X w pc lv (.ref (Ad X 14) :: rest) := wa_getNG h inX3 14 rfl rfl 2 (by decide) hl rfl rfl d kk
theorem wpN_img0_change (h : Cx X cc own nl fr lo) {index : Nat} {host : String} (hl : Cond.fieldLinkNest own index RX3 "change" "I" host ∈ gN) {v : Int32} (d : decode cc pc = .ok (.putfield index, 3)) (kk : Wa X (wI w 15 v) (pc + 3) lv rest) : Wa X w pc lv (.int v :: .ref (Ad X 14) :: rest) := wa_putNG h inX3 tyX3 tyX3_ok nmX3 14 rfl rfl 2 (by decide) hl rfl rfl (ty := .int) rfl rfl rfl (by show _ < _; exact Nat.le_of_ble_eq_true rfl) (wI w 15 v) (cs_img0_change _ _ _) d kk
theorem wg_img0_scenes (h : Cx X cc own nl fr lo) {index : Nat} (hl : Cond.fieldLink own index RX3 "scenes" "I" ∈ gT) (d : decode cc pc = .ok (.getfield index, 3)) (kk : Wa X w (pc + 3) lv (.int (w.1 16) :: rest)) : Wa X w pc lv (.ref (Ad X 14) :: rest) := wa_getG h inX3 14 rfl rfl 3 (by decide) hl rfl rfl d kk
theorem cs_img0_scenes (E : ET) (w : Wd) (v : Int32) : (cellsOf E w).set 14 (E.2.1 14, .inr (3, [.int (w.1 13), .int (w.1 14), .int (w.1 15), .int v, .int (w.1 17), .ref (E.2.1 15), .ref (E.2.1 16), .ref (E.2.1 17), .ref (E.2.1 18), .ref (E.2.1 19)])) = cellsOf E (wI w 16 v) := by rfl
theorem wp_img0_scenes (h : Cx X cc own nl fr lo) {index : Nat} (hl : Cond.fieldLink own index RX3 "scenes" "I" ∈ gT) {v : Int32} (d : decode cc pc = .ok (.putfield index, 3)) (kk : Wa X (wI w 16 v) (pc + 3) lv rest) : Wa X w pc lv (.int v :: .ref (Ad X 14) :: rest) := wa_putG h inX3 tyX3 tyX3_ok nmX3 14 rfl rfl 3 (by decide) hl rfl rfl (ty := .int) rfl rfl rfl (by show _ < _; exact Nat.le_of_ble_eq_true rfl) (wI w 16 v) (cs_img0_scenes _ _ _) d kk
theorem wgN_img0_scenes (h : Cx X cc own nl fr lo) {index : Nat} {host : String} (hl : Cond.fieldLinkNest own index RX3 "scenes" "I" host ∈ gN) (d : decode cc pc = .ok (.getfield index, 3)) (kk : Wa X w (pc + 3) lv (.int (w.1 16) :: rest)) : Wa X w pc lv (.ref (Ad X 14) :: rest) := wa_getNG h inX3 14 rfl rfl 3 (by decide) hl rfl rfl d kk
theorem wpN_img0_scenes (h : Cx X cc own nl fr lo) {index : Nat} {host : String} (hl : Cond.fieldLinkNest own index RX3 "scenes" "I" host ∈ gN) {v : Int32} (d : decode cc pc = .ok (.putfield index, 3)) (kk : Wa X (wI w 16 v) (pc + 3) lv rest) : Wa X w pc lv (.int v :: .ref (Ad X 14) :: rest) := wa_putNG h inX3 tyX3 tyX3_ok nmX3 14 rfl rfl 3 (by decide) hl rfl rfl (ty := .int) rfl rfl rfl (by show _ < _; exact Nat.le_of_ble_eq_true rfl) (wI w 16 v) (cs_img0_scenes _ _ _) d kk
theorem wg_img0_sights (h : Cx X cc own nl fr lo) {index : Nat} (hl : Cond.fieldLink own index RX3 "sights" "I" ∈ gT) (d : decode cc pc = .ok (.getfield index, 3)) (kk : Wa X w (pc + 3) lv (.int (w.1 17) :: rest)) : Wa X w pc lv (.ref (Ad X 14) :: rest) := wa_getG h inX3 14 rfl rfl 4 (by decide) hl rfl rfl d kk
theorem cs_img0_sights (E : ET) (w : Wd) (v : Int32) : (cellsOf E w).set 14 (E.2.1 14, .inr (3, [.int (w.1 13), .int (w.1 14), .int (w.1 15), .int (w.1 16), .int v, .ref (E.2.1 15), .ref (E.2.1 16), .ref (E.2.1 17), .ref (E.2.1 18), .ref (E.2.1 19)])) = cellsOf E (wI w 17 v) := by rfl
theorem wp_img0_sights (h : Cx X cc own nl fr lo) {index : Nat} (hl : Cond.fieldLink own index RX3 "sights" "I" ∈ gT) {v : Int32} (d : decode cc pc = .ok (.putfield index, 3)) (kk : Wa X (wI w 17 v) (pc + 3) lv rest) : Wa X w pc lv (.int v :: .ref (Ad X 14) :: rest) := wa_putG h inX3 tyX3 tyX3_ok nmX3 14 rfl rfl 4 (by decide) hl rfl rfl (ty := .int) rfl rfl rfl (by show _ < _; exact Nat.le_of_ble_eq_true rfl) (wI w 17 v) (cs_img0_sights _ _ _) d kk
theorem wgN_img0_sights (h : Cx X cc own nl fr lo) {index : Nat} {host : String} (hl : Cond.fieldLinkNest own index RX3 "sights" "I" host ∈ gN) (d : decode cc pc = .ok (.getfield index, 3)) (kk : Wa X w (pc + 3) lv (.int (w.1 17) :: rest)) : Wa X w pc lv (.ref (Ad X 14) :: rest) := wa_getNG h inX3 14 rfl rfl 4 (by decide) hl rfl rfl d kk
theorem wpN_img0_sights (h : Cx X cc own nl fr lo) {index : Nat} {host : String} (hl : Cond.fieldLinkNest own index RX3 "sights" "I" host ∈ gN) {v : Int32} (d : decode cc pc = .ok (.putfield index, 3)) (kk : Wa X (wI w 17 v) (pc + 3) lv rest) : Wa X w pc lv (.int v :: .ref (Ad X 14) :: rest) := wa_putNG h inX3 tyX3 tyX3_ok nmX3 14 rfl rfl 4 (by decide) hl rfl rfl (ty := .int) rfl rfl rfl (by show _ < _; exact Nat.le_of_ble_eq_true rfl) (wI w 17 v) (cs_img0_sights _ _ _) d kk
theorem wg_img0_apart (h : Cx X cc own nl fr lo) {index : Nat} (hl : Cond.fieldLink own index RX3 "apart" "[I" ∈ gT) (d : decode cc pc = .ok (.getfield index, 3)) (kk : Wa X w (pc + 3) lv (.ref (Ad X 15) :: rest)) : Wa X w pc lv (.ref (Ad X 14) :: rest) := wa_getG h inX3 14 rfl rfl 5 (by decide) hl rfl rfl d kk
theorem wgN_img0_apart (h : Cx X cc own nl fr lo) {index : Nat} {host : String} (hl : Cond.fieldLinkNest own index RX3 "apart" "[I" host ∈ gN) (d : decode cc pc = .ok (.getfield index, 3)) (kk : Wa X w (pc + 3) lv (.ref (Ad X 15) :: rest)) : Wa X w pc lv (.ref (Ad X 14) :: rest) := wa_getNG h inX3 14 rfl rfl 5 (by decide) hl rfl rfl d kk
theorem wg_img0_together (h : Cx X cc own nl fr lo) {index : Nat} (hl : Cond.fieldLink own index RX3 "together" "[I" ∈ gT) (d : decode cc pc = .ok (.getfield index, 3)) (kk : Wa X w (pc + 3) lv (.ref (Ad X 16) :: rest)) : Wa X w pc lv (.ref (Ad X 14) :: rest) := wa_getG h inX3 14 rfl rfl 6 (by decide) hl rfl rfl d kk
theorem wgN_img0_together (h : Cx X cc own nl fr lo) {index : Nat} {host : String} (hl : Cond.fieldLinkNest own index RX3 "together" "[I" host ∈ gN) (d : decode cc pc = .ok (.getfield index, 3)) (kk : Wa X w (pc + 3) lv (.ref (Ad X 16) :: rest)) : Wa X w pc lv (.ref (Ad X 14) :: rest) := wa_getNG h inX3 14 rfl rfl 6 (by decide) hl rfl rfl d kk
theorem wg_img0_sceneOn (h : Cx X cc own nl fr lo) {index : Nat} (hl : Cond.fieldLink own index RX3 "sceneOn" "[I" ∈ gT) (d : decode cc pc = .ok (.getfield index, 3)) (kk : Wa X w (pc + 3) lv (.ref (Ad X 17) :: rest)) : Wa X w pc lv (.ref (Ad X 14) :: rest) := wa_getG h inX3 14 rfl rfl 7 (by decide) hl rfl rfl d kk
theorem wgN_img0_sceneOn (h : Cx X cc own nl fr lo) {index : Nat} {host : String} (hl : Cond.fieldLinkNest own index RX3 "sceneOn" "[I" host ∈ gN) (d : decode cc pc = .ok (.getfield index, 3)) (kk : Wa X w (pc + 3) lv (.ref (Ad X 17) :: rest)) : Wa X w pc lv (.ref (Ad X 14) :: rest) := wa_getNG h inX3 14 rfl rfl 7 (by decide) hl rfl rfl d kk
theorem wg_img0_sightLine (h : Cx X cc own nl fr lo) {index : Nat} (hl : Cond.fieldLink own index RX3 "sightLine" "[I" ∈ gT) (d : decode cc pc = .ok (.getfield index, 3)) (kk : Wa X w (pc + 3) lv (.ref (Ad X 18) :: rest)) : Wa X w pc lv (.ref (Ad X 14) :: rest) := wa_getG h inX3 14 rfl rfl 8 (by decide) hl rfl rfl d kk
theorem wgN_img0_sightLine (h : Cx X cc own nl fr lo) {index : Nat} {host : String} (hl : Cond.fieldLinkNest own index RX3 "sightLine" "[I" host ∈ gN) (d : decode cc pc = .ok (.getfield index, 3)) (kk : Wa X w (pc + 3) lv (.ref (Ad X 18) :: rest)) : Wa X w pc lv (.ref (Ad X 14) :: rest) := wa_getNG h inX3 14 rfl rfl 8 (by decide) hl rfl rfl d kk
theorem wg_img0_sightMany (h : Cx X cc own nl fr lo) {index : Nat} (hl : Cond.fieldLink own index RX3 "sightMany" "[I" ∈ gT) (d : decode cc pc = .ok (.getfield index, 3)) (kk : Wa X w (pc + 3) lv (.ref (Ad X 19) :: rest)) : Wa X w pc lv (.ref (Ad X 14) :: rest) := wa_getG h inX3 14 rfl rfl 9 (by decide) hl rfl rfl d kk
theorem wgN_img0_sightMany (h : Cx X cc own nl fr lo) {index : Nat} {host : String} (hl : Cond.fieldLinkNest own index RX3 "sightMany" "[I" host ∈ gN) (d : decode cc pc = .ok (.getfield index, 3)) (kk : Wa X w (pc + 3) lv (.ref (Ad X 19) :: rest)) : Wa X w pc lv (.ref (Ad X 14) :: rest) := wa_getNG h inX3 14 rfl rfl 9 (by decide) hl rfl rfl d kk
theorem ct_img0_apart (E : ET) (w : Wd) (f : Nat → Int32) : (cellsOf E w).set 15 (E.2.1 15, .inl (E.2.2 0, 8, .inl f)) = cellsOf E (wR w 15 f) := by rfl
theorem wl_img0_apart (h : Cx X cc own nl fr lo) {i : Int32} (hg : gd i 8 = true) (d : decode cc pc = .ok (.iaload, 1)) (kk : Wa X w (pc + 1) lv (.int (w.2.1 15 i.toNatClampNeg) :: rest)) : Wa X w pc lv (.int i :: .ref (Ad X 15) :: rest) := wa_ialdG h 15 rfl hg d kk
theorem ws_img0_apart (h : Cx X cc own nl fr lo) {i v : Int32} (hg : gd i 8 = true) (d : decode cc pc = .ok (.iastore, 1)) (kk : Wa X (wA w 15 i v) (pc + 1) lv rest) : Wa X w pc lv (.int v :: .int i :: .ref (Ad X 15) :: rest) := wa_iastG h 15 rfl hg (wA w 15 i v) (ct_img0_apart _ _ _) d kk
theorem wn_img0_apart (h : Cx X cc own nl fr lo) (d : decode cc pc = .ok (.arraylength, 1)) (kk : Wa X w (pc + 1) lv (.int 8 :: rest)) : Wa X w pc lv (.ref (Ad X 15) :: rest) := wa_alenG h 15 rfl 8 rfl d kk
theorem ct_img0_together (E : ET) (w : Wd) (f : Nat → Int32) : (cellsOf E w).set 16 (E.2.1 16, .inl (E.2.2 0, 8, .inl f)) = cellsOf E (wR w 16 f) := by rfl
theorem wl_img0_together (h : Cx X cc own nl fr lo) {i : Int32} (hg : gd i 8 = true) (d : decode cc pc = .ok (.iaload, 1)) (kk : Wa X w (pc + 1) lv (.int (w.2.1 16 i.toNatClampNeg) :: rest)) : Wa X w pc lv (.int i :: .ref (Ad X 16) :: rest) := wa_ialdG h 16 rfl hg d kk
theorem ws_img0_together (h : Cx X cc own nl fr lo) {i v : Int32} (hg : gd i 8 = true) (d : decode cc pc = .ok (.iastore, 1)) (kk : Wa X (wA w 16 i v) (pc + 1) lv rest) : Wa X w pc lv (.int v :: .int i :: .ref (Ad X 16) :: rest) := wa_iastG h 16 rfl hg (wA w 16 i v) (ct_img0_together _ _ _) d kk
theorem wn_img0_together (h : Cx X cc own nl fr lo) (d : decode cc pc = .ok (.arraylength, 1)) (kk : Wa X w (pc + 1) lv (.int 8 :: rest)) : Wa X w pc lv (.ref (Ad X 16) :: rest) := wa_alenG h 16 rfl 8 rfl d kk
theorem ct_img0_sceneOn (E : ET) (w : Wd) (f : Nat → Int32) : (cellsOf E w).set 17 (E.2.1 17, .inl (E.2.2 0, 6, .inl f)) = cellsOf E (wR w 17 f) := by rfl
theorem wl_img0_sceneOn (h : Cx X cc own nl fr lo) {i : Int32} (hg : gd i 6 = true) (d : decode cc pc = .ok (.iaload, 1)) (kk : Wa X w (pc + 1) lv (.int (w.2.1 17 i.toNatClampNeg) :: rest)) : Wa X w pc lv (.int i :: .ref (Ad X 17) :: rest) := wa_ialdG h 17 rfl hg d kk
theorem ws_img0_sceneOn (h : Cx X cc own nl fr lo) {i v : Int32} (hg : gd i 6 = true) (d : decode cc pc = .ok (.iastore, 1)) (kk : Wa X (wA w 17 i v) (pc + 1) lv rest) : Wa X w pc lv (.int v :: .int i :: .ref (Ad X 17) :: rest) := wa_iastG h 17 rfl hg (wA w 17 i v) (ct_img0_sceneOn _ _ _) d kk
theorem wn_img0_sceneOn (h : Cx X cc own nl fr lo) (d : decode cc pc = .ok (.arraylength, 1)) (kk : Wa X w (pc + 1) lv (.int 6 :: rest)) : Wa X w pc lv (.ref (Ad X 17) :: rest) := wa_alenG h 17 rfl 6 rfl d kk
theorem ct_img0_sightLine (E : ET) (w : Wd) (f : Nat → Int32) : (cellsOf E w).set 18 (E.2.1 18, .inl (E.2.2 0, 6, .inl f)) = cellsOf E (wR w 18 f) := by rfl
theorem wl_img0_sightLine (h : Cx X cc own nl fr lo) {i : Int32} (hg : gd i 6 = true) (d : decode cc pc = .ok (.iaload, 1)) (kk : Wa X w (pc + 1) lv (.int (w.2.1 18 i.toNatClampNeg) :: rest)) : Wa X w pc lv (.int i :: .ref (Ad X 18) :: rest) := wa_ialdG h 18 rfl hg d kk
theorem ws_img0_sightLine (h : Cx X cc own nl fr lo) {i v : Int32} (hg : gd i 6 = true) (d : decode cc pc = .ok (.iastore, 1)) (kk : Wa X (wA w 18 i v) (pc + 1) lv rest) : Wa X w pc lv (.int v :: .int i :: .ref (Ad X 18) :: rest) := wa_iastG h 18 rfl hg (wA w 18 i v) (ct_img0_sightLine _ _ _) d kk
theorem wn_img0_sightLine (h : Cx X cc own nl fr lo) (d : decode cc pc = .ok (.arraylength, 1)) (kk : Wa X w (pc + 1) lv (.int 6 :: rest)) : Wa X w pc lv (.ref (Ad X 18) :: rest) := wa_alenG h 18 rfl 6 rfl d kk
theorem ct_img0_sightMany (E : ET) (w : Wd) (f : Nat → Int32) : (cellsOf E w).set 19 (E.2.1 19, .inl (E.2.2 0, 6, .inl f)) = cellsOf E (wR w 19 f) := by rfl
theorem wl_img0_sightMany (h : Cx X cc own nl fr lo) {i : Int32} (hg : gd i 6 = true) (d : decode cc pc = .ok (.iaload, 1)) (kk : Wa X w (pc + 1) lv (.int (w.2.1 19 i.toNatClampNeg) :: rest)) : Wa X w pc lv (.int i :: .ref (Ad X 19) :: rest) := wa_ialdG h 19 rfl hg d kk
theorem ws_img0_sightMany (h : Cx X cc own nl fr lo) {i v : Int32} (hg : gd i 6 = true) (d : decode cc pc = .ok (.iastore, 1)) (kk : Wa X (wA w 19 i v) (pc + 1) lv rest) : Wa X w pc lv (.int v :: .int i :: .ref (Ad X 19) :: rest) := wa_iastG h 19 rfl hg (wA w 19 i v) (ct_img0_sightMany _ _ _) d kk
theorem wn_img0_sightMany (h : Cx X cc own nl fr lo) (d : decode cc pc = .ok (.arraylength, 1)) (kk : Wa X w (pc + 1) lv (.int 6 :: rest)) : Wa X w pc lv (.ref (Ad X 19) :: rest) := wa_alenG h 19 rfl 6 rfl d kk
theorem wg_img1_law (h : Cx X cc own nl fr lo) {index : Nat} (hl : Cond.fieldLink own index RX3 "law" "I" ∈ gT) (d : decode cc pc = .ok (.getfield index, 3)) (kk : Wa X w (pc + 3) lv (.int (w.1 18) :: rest)) : Wa X w pc lv (.ref (Ad X 20) :: rest) := wa_getG h inX3 20 rfl rfl 0 (by decide) hl rfl rfl d kk
theorem cs_img1_law (E : ET) (w : Wd) (v : Int32) : (cellsOf E w).set 20 (E.2.1 20, .inr (3, [.int v, .int (w.1 19), .int (w.1 20), .int (w.1 21), .int (w.1 22), .ref (E.2.1 21), .ref (E.2.1 22), .ref (E.2.1 23), .ref (E.2.1 24), .ref (E.2.1 25)])) = cellsOf E (wI w 18 v) := by rfl
theorem wp_img1_law (h : Cx X cc own nl fr lo) {index : Nat} (hl : Cond.fieldLink own index RX3 "law" "I" ∈ gT) {v : Int32} (d : decode cc pc = .ok (.putfield index, 3)) (kk : Wa X (wI w 18 v) (pc + 3) lv rest) : Wa X w pc lv (.int v :: .ref (Ad X 20) :: rest) := wa_putG h inX3 tyX3 tyX3_ok nmX3 20 rfl rfl 0 (by decide) hl rfl rfl (ty := .int) rfl rfl rfl (by show _ < _; exact Nat.le_of_ble_eq_true rfl) (wI w 18 v) (cs_img1_law _ _ _) d kk
theorem wgN_img1_law (h : Cx X cc own nl fr lo) {index : Nat} {host : String} (hl : Cond.fieldLinkNest own index RX3 "law" "I" host ∈ gN) (d : decode cc pc = .ok (.getfield index, 3)) (kk : Wa X w (pc + 3) lv (.int (w.1 18) :: rest)) : Wa X w pc lv (.ref (Ad X 20) :: rest) := wa_getNG h inX3 20 rfl rfl 0 (by decide) hl rfl rfl d kk
theorem wpN_img1_law (h : Cx X cc own nl fr lo) {index : Nat} {host : String} (hl : Cond.fieldLinkNest own index RX3 "law" "I" host ∈ gN) {v : Int32} (d : decode cc pc = .ok (.putfield index, 3)) (kk : Wa X (wI w 18 v) (pc + 3) lv rest) : Wa X w pc lv (.int v :: .ref (Ad X 20) :: rest) := wa_putNG h inX3 tyX3 tyX3_ok nmX3 20 rfl rfl 0 (by decide) hl rfl rfl (ty := .int) rfl rfl rfl (by show _ < _; exact Nat.le_of_ble_eq_true rfl) (wI w 18 v) (cs_img1_law _ _ _) d kk
theorem wg_img1_k (h : Cx X cc own nl fr lo) {index : Nat} (hl : Cond.fieldLink own index RX3 "k" "I" ∈ gT) (d : decode cc pc = .ok (.getfield index, 3)) (kk : Wa X w (pc + 3) lv (.int (w.1 19) :: rest)) : Wa X w pc lv (.ref (Ad X 20) :: rest) := wa_getG h inX3 20 rfl rfl 1 (by decide) hl rfl rfl d kk
theorem cs_img1_k (E : ET) (w : Wd) (v : Int32) : (cellsOf E w).set 20 (E.2.1 20, .inr (3, [.int (w.1 18), .int v, .int (w.1 20), .int (w.1 21), .int (w.1 22), .ref (E.2.1 21), .ref (E.2.1 22), .ref (E.2.1 23), .ref (E.2.1 24), .ref (E.2.1 25)])) = cellsOf E (wI w 19 v) := by rfl
theorem wp_img1_k (h : Cx X cc own nl fr lo) {index : Nat} (hl : Cond.fieldLink own index RX3 "k" "I" ∈ gT) {v : Int32} (d : decode cc pc = .ok (.putfield index, 3)) (kk : Wa X (wI w 19 v) (pc + 3) lv rest) : Wa X w pc lv (.int v :: .ref (Ad X 20) :: rest) := wa_putG h inX3 tyX3 tyX3_ok nmX3 20 rfl rfl 1 (by decide) hl rfl rfl (ty := .int) rfl rfl rfl (by show _ < _; exact Nat.le_of_ble_eq_true rfl) (wI w 19 v) (cs_img1_k _ _ _) d kk
theorem wgN_img1_k (h : Cx X cc own nl fr lo) {index : Nat} {host : String} (hl : Cond.fieldLinkNest own index RX3 "k" "I" host ∈ gN) (d : decode cc pc = .ok (.getfield index, 3)) (kk : Wa X w (pc + 3) lv (.int (w.1 19) :: rest)) : Wa X w pc lv (.ref (Ad X 20) :: rest) := wa_getNG h inX3 20 rfl rfl 1 (by decide) hl rfl rfl d kk
theorem wpN_img1_k (h : Cx X cc own nl fr lo) {index : Nat} {host : String} (hl : Cond.fieldLinkNest own index RX3 "k" "I" host ∈ gN) {v : Int32} (d : decode cc pc = .ok (.putfield index, 3)) (kk : Wa X (wI w 19 v) (pc + 3) lv rest) : Wa X w pc lv (.int v :: .ref (Ad X 20) :: rest) := wa_putNG h inX3 tyX3 tyX3_ok nmX3 20 rfl rfl 1 (by decide) hl rfl rfl (ty := .int) rfl rfl rfl (by show _ < _; exact Nat.le_of_ble_eq_true rfl) (wI w 19 v) (cs_img1_k _ _ _) d kk
theorem wg_img1_change (h : Cx X cc own nl fr lo) {index : Nat} (hl : Cond.fieldLink own index RX3 "change" "I" ∈ gT) (d : decode cc pc = .ok (.getfield index, 3)) (kk : Wa X w (pc + 3) lv (.int (w.1 20) :: rest)) : Wa X w pc lv (.ref (Ad X 20) :: rest) := wa_getG h inX3 20 rfl rfl 2 (by decide) hl rfl rfl d kk
theorem cs_img1_change (E : ET) (w : Wd) (v : Int32) : (cellsOf E w).set 20 (E.2.1 20, .inr (3, [.int (w.1 18), .int (w.1 19), .int v, .int (w.1 21), .int (w.1 22), .ref (E.2.1 21), .ref (E.2.1 22), .ref (E.2.1 23), .ref (E.2.1 24), .ref (E.2.1 25)])) = cellsOf E (wI w 20 v) := by rfl
theorem wp_img1_change (h : Cx X cc own nl fr lo) {index : Nat} (hl : Cond.fieldLink own index RX3 "change" "I" ∈ gT) {v : Int32} (d : decode cc pc = .ok (.putfield index, 3)) (kk : Wa X (wI w 20 v) (pc + 3) lv rest) : Wa X w pc lv (.int v :: .ref (Ad X 20) :: rest) := wa_putG h inX3 tyX3 tyX3_ok nmX3 20 rfl rfl 2 (by decide) hl rfl rfl (ty := .int) rfl rfl rfl (by show _ < _; exact Nat.le_of_ble_eq_true rfl) (wI w 20 v) (cs_img1_change _ _ _) d kk
theorem wgN_img1_change (h : Cx X cc own nl fr lo) {index : Nat} {host : String} (hl : Cond.fieldLinkNest own index RX3 "change" "I" host ∈ gN) (d : decode cc pc = .ok (.getfield index, 3)) (kk : Wa X w (pc + 3) lv (.int (w.1 20) :: rest)) : Wa X w pc lv (.ref (Ad X 20) :: rest) := wa_getNG h inX3 20 rfl rfl 2 (by decide) hl rfl rfl d kk
theorem wpN_img1_change (h : Cx X cc own nl fr lo) {index : Nat} {host : String} (hl : Cond.fieldLinkNest own index RX3 "change" "I" host ∈ gN) {v : Int32} (d : decode cc pc = .ok (.putfield index, 3)) (kk : Wa X (wI w 20 v) (pc + 3) lv rest) : Wa X w pc lv (.int v :: .ref (Ad X 20) :: rest) := wa_putNG h inX3 tyX3 tyX3_ok nmX3 20 rfl rfl 2 (by decide) hl rfl rfl (ty := .int) rfl rfl rfl (by show _ < _; exact Nat.le_of_ble_eq_true rfl) (wI w 20 v) (cs_img1_change _ _ _) d kk
theorem wg_img1_scenes (h : Cx X cc own nl fr lo) {index : Nat} (hl : Cond.fieldLink own index RX3 "scenes" "I" ∈ gT) (d : decode cc pc = .ok (.getfield index, 3)) (kk : Wa X w (pc + 3) lv (.int (w.1 21) :: rest)) : Wa X w pc lv (.ref (Ad X 20) :: rest) := wa_getG h inX3 20 rfl rfl 3 (by decide) hl rfl rfl d kk
theorem cs_img1_scenes (E : ET) (w : Wd) (v : Int32) : (cellsOf E w).set 20 (E.2.1 20, .inr (3, [.int (w.1 18), .int (w.1 19), .int (w.1 20), .int v, .int (w.1 22), .ref (E.2.1 21), .ref (E.2.1 22), .ref (E.2.1 23), .ref (E.2.1 24), .ref (E.2.1 25)])) = cellsOf E (wI w 21 v) := by rfl
theorem wp_img1_scenes (h : Cx X cc own nl fr lo) {index : Nat} (hl : Cond.fieldLink own index RX3 "scenes" "I" ∈ gT) {v : Int32} (d : decode cc pc = .ok (.putfield index, 3)) (kk : Wa X (wI w 21 v) (pc + 3) lv rest) : Wa X w pc lv (.int v :: .ref (Ad X 20) :: rest) := wa_putG h inX3 tyX3 tyX3_ok nmX3 20 rfl rfl 3 (by decide) hl rfl rfl (ty := .int) rfl rfl rfl (by show _ < _; exact Nat.le_of_ble_eq_true rfl) (wI w 21 v) (cs_img1_scenes _ _ _) d kk
theorem wgN_img1_scenes (h : Cx X cc own nl fr lo) {index : Nat} {host : String} (hl : Cond.fieldLinkNest own index RX3 "scenes" "I" host ∈ gN) (d : decode cc pc = .ok (.getfield index, 3)) (kk : Wa X w (pc + 3) lv (.int (w.1 21) :: rest)) : Wa X w pc lv (.ref (Ad X 20) :: rest) := wa_getNG h inX3 20 rfl rfl 3 (by decide) hl rfl rfl d kk
theorem wpN_img1_scenes (h : Cx X cc own nl fr lo) {index : Nat} {host : String} (hl : Cond.fieldLinkNest own index RX3 "scenes" "I" host ∈ gN) {v : Int32} (d : decode cc pc = .ok (.putfield index, 3)) (kk : Wa X (wI w 21 v) (pc + 3) lv rest) : Wa X w pc lv (.int v :: .ref (Ad X 20) :: rest) := wa_putNG h inX3 tyX3 tyX3_ok nmX3 20 rfl rfl 3 (by decide) hl rfl rfl (ty := .int) rfl rfl rfl (by show _ < _; exact Nat.le_of_ble_eq_true rfl) (wI w 21 v) (cs_img1_scenes _ _ _) d kk
theorem wg_img1_sights (h : Cx X cc own nl fr lo) {index : Nat} (hl : Cond.fieldLink own index RX3 "sights" "I" ∈ gT) (d : decode cc pc = .ok (.getfield index, 3)) (kk : Wa X w (pc + 3) lv (.int (w.1 22) :: rest)) : Wa X w pc lv (.ref (Ad X 20) :: rest) := wa_getG h inX3 20 rfl rfl 4 (by decide) hl rfl rfl d kk
theorem cs_img1_sights (E : ET) (w : Wd) (v : Int32) : (cellsOf E w).set 20 (E.2.1 20, .inr (3, [.int (w.1 18), .int (w.1 19), .int (w.1 20), .int (w.1 21), .int v, .ref (E.2.1 21), .ref (E.2.1 22), .ref (E.2.1 23), .ref (E.2.1 24), .ref (E.2.1 25)])) = cellsOf E (wI w 22 v) := by rfl
theorem wp_img1_sights (h : Cx X cc own nl fr lo) {index : Nat} (hl : Cond.fieldLink own index RX3 "sights" "I" ∈ gT) {v : Int32} (d : decode cc pc = .ok (.putfield index, 3)) (kk : Wa X (wI w 22 v) (pc + 3) lv rest) : Wa X w pc lv (.int v :: .ref (Ad X 20) :: rest) := wa_putG h inX3 tyX3 tyX3_ok nmX3 20 rfl rfl 4 (by decide) hl rfl rfl (ty := .int) rfl rfl rfl (by show _ < _; exact Nat.le_of_ble_eq_true rfl) (wI w 22 v) (cs_img1_sights _ _ _) d kk
theorem wgN_img1_sights (h : Cx X cc own nl fr lo) {index : Nat} {host : String} (hl : Cond.fieldLinkNest own index RX3 "sights" "I" host ∈ gN) (d : decode cc pc = .ok (.getfield index, 3)) (kk : Wa X w (pc + 3) lv (.int (w.1 22) :: rest)) : Wa X w pc lv (.ref (Ad X 20) :: rest) := wa_getNG h inX3 20 rfl rfl 4 (by decide) hl rfl rfl d kk
theorem wpN_img1_sights (h : Cx X cc own nl fr lo) {index : Nat} {host : String} (hl : Cond.fieldLinkNest own index RX3 "sights" "I" host ∈ gN) {v : Int32} (d : decode cc pc = .ok (.putfield index, 3)) (kk : Wa X (wI w 22 v) (pc + 3) lv rest) : Wa X w pc lv (.int v :: .ref (Ad X 20) :: rest) := wa_putNG h inX3 tyX3 tyX3_ok nmX3 20 rfl rfl 4 (by decide) hl rfl rfl (ty := .int) rfl rfl rfl (by show _ < _; exact Nat.le_of_ble_eq_true rfl) (wI w 22 v) (cs_img1_sights _ _ _) d kk
theorem wg_img1_apart (h : Cx X cc own nl fr lo) {index : Nat} (hl : Cond.fieldLink own index RX3 "apart" "[I" ∈ gT) (d : decode cc pc = .ok (.getfield index, 3)) (kk : Wa X w (pc + 3) lv (.ref (Ad X 21) :: rest)) : Wa X w pc lv (.ref (Ad X 20) :: rest) := wa_getG h inX3 20 rfl rfl 5 (by decide) hl rfl rfl d kk
theorem wgN_img1_apart (h : Cx X cc own nl fr lo) {index : Nat} {host : String} (hl : Cond.fieldLinkNest own index RX3 "apart" "[I" host ∈ gN) (d : decode cc pc = .ok (.getfield index, 3)) (kk : Wa X w (pc + 3) lv (.ref (Ad X 21) :: rest)) : Wa X w pc lv (.ref (Ad X 20) :: rest) := wa_getNG h inX3 20 rfl rfl 5 (by decide) hl rfl rfl d kk
theorem wg_img1_together (h : Cx X cc own nl fr lo) {index : Nat} (hl : Cond.fieldLink own index RX3 "together" "[I" ∈ gT) (d : decode cc pc = .ok (.getfield index, 3)) (kk : Wa X w (pc + 3) lv (.ref (Ad X 22) :: rest)) : Wa X w pc lv (.ref (Ad X 20) :: rest) := wa_getG h inX3 20 rfl rfl 6 (by decide) hl rfl rfl d kk
theorem wgN_img1_together (h : Cx X cc own nl fr lo) {index : Nat} {host : String} (hl : Cond.fieldLinkNest own index RX3 "together" "[I" host ∈ gN) (d : decode cc pc = .ok (.getfield index, 3)) (kk : Wa X w (pc + 3) lv (.ref (Ad X 22) :: rest)) : Wa X w pc lv (.ref (Ad X 20) :: rest) := wa_getNG h inX3 20 rfl rfl 6 (by decide) hl rfl rfl d kk
theorem wg_img1_sceneOn (h : Cx X cc own nl fr lo) {index : Nat} (hl : Cond.fieldLink own index RX3 "sceneOn" "[I" ∈ gT) (d : decode cc pc = .ok (.getfield index, 3)) (kk : Wa X w (pc + 3) lv (.ref (Ad X 23) :: rest)) : Wa X w pc lv (.ref (Ad X 20) :: rest) := wa_getG h inX3 20 rfl rfl 7 (by decide) hl rfl rfl d kk
theorem wgN_img1_sceneOn (h : Cx X cc own nl fr lo) {index : Nat} {host : String} (hl : Cond.fieldLinkNest own index RX3 "sceneOn" "[I" host ∈ gN) (d : decode cc pc = .ok (.getfield index, 3)) (kk : Wa X w (pc + 3) lv (.ref (Ad X 23) :: rest)) : Wa X w pc lv (.ref (Ad X 20) :: rest) := wa_getNG h inX3 20 rfl rfl 7 (by decide) hl rfl rfl d kk
theorem wg_img1_sightLine (h : Cx X cc own nl fr lo) {index : Nat} (hl : Cond.fieldLink own index RX3 "sightLine" "[I" ∈ gT) (d : decode cc pc = .ok (.getfield index, 3)) (kk : Wa X w (pc + 3) lv (.ref (Ad X 24) :: rest)) : Wa X w pc lv (.ref (Ad X 20) :: rest) := wa_getG h inX3 20 rfl rfl 8 (by decide) hl rfl rfl d kk
theorem wgN_img1_sightLine (h : Cx X cc own nl fr lo) {index : Nat} {host : String} (hl : Cond.fieldLinkNest own index RX3 "sightLine" "[I" host ∈ gN) (d : decode cc pc = .ok (.getfield index, 3)) (kk : Wa X w (pc + 3) lv (.ref (Ad X 24) :: rest)) : Wa X w pc lv (.ref (Ad X 20) :: rest) := wa_getNG h inX3 20 rfl rfl 8 (by decide) hl rfl rfl d kk
theorem wg_img1_sightMany (h : Cx X cc own nl fr lo) {index : Nat} (hl : Cond.fieldLink own index RX3 "sightMany" "[I" ∈ gT) (d : decode cc pc = .ok (.getfield index, 3)) (kk : Wa X w (pc + 3) lv (.ref (Ad X 25) :: rest)) : Wa X w pc lv (.ref (Ad X 20) :: rest) := wa_getG h inX3 20 rfl rfl 9 (by decide) hl rfl rfl d kk
theorem wgN_img1_sightMany (h : Cx X cc own nl fr lo) {index : Nat} {host : String} (hl : Cond.fieldLinkNest own index RX3 "sightMany" "[I" host ∈ gN) (d : decode cc pc = .ok (.getfield index, 3)) (kk : Wa X w (pc + 3) lv (.ref (Ad X 25) :: rest)) : Wa X w pc lv (.ref (Ad X 20) :: rest) := wa_getNG h inX3 20 rfl rfl 9 (by decide) hl rfl rfl d kk
theorem ct_img1_apart (E : ET) (w : Wd) (f : Nat → Int32) : (cellsOf E w).set 21 (E.2.1 21, .inl (E.2.2 0, 8, .inl f)) = cellsOf E (wR w 21 f) := by rfl
theorem wl_img1_apart (h : Cx X cc own nl fr lo) {i : Int32} (hg : gd i 8 = true) (d : decode cc pc = .ok (.iaload, 1)) (kk : Wa X w (pc + 1) lv (.int (w.2.1 21 i.toNatClampNeg) :: rest)) : Wa X w pc lv (.int i :: .ref (Ad X 21) :: rest) := wa_ialdG h 21 rfl hg d kk
theorem ws_img1_apart (h : Cx X cc own nl fr lo) {i v : Int32} (hg : gd i 8 = true) (d : decode cc pc = .ok (.iastore, 1)) (kk : Wa X (wA w 21 i v) (pc + 1) lv rest) : Wa X w pc lv (.int v :: .int i :: .ref (Ad X 21) :: rest) := wa_iastG h 21 rfl hg (wA w 21 i v) (ct_img1_apart _ _ _) d kk
theorem wn_img1_apart (h : Cx X cc own nl fr lo) (d : decode cc pc = .ok (.arraylength, 1)) (kk : Wa X w (pc + 1) lv (.int 8 :: rest)) : Wa X w pc lv (.ref (Ad X 21) :: rest) := wa_alenG h 21 rfl 8 rfl d kk
theorem ct_img1_together (E : ET) (w : Wd) (f : Nat → Int32) : (cellsOf E w).set 22 (E.2.1 22, .inl (E.2.2 0, 8, .inl f)) = cellsOf E (wR w 22 f) := by rfl
theorem wl_img1_together (h : Cx X cc own nl fr lo) {i : Int32} (hg : gd i 8 = true) (d : decode cc pc = .ok (.iaload, 1)) (kk : Wa X w (pc + 1) lv (.int (w.2.1 22 i.toNatClampNeg) :: rest)) : Wa X w pc lv (.int i :: .ref (Ad X 22) :: rest) := wa_ialdG h 22 rfl hg d kk
theorem ws_img1_together (h : Cx X cc own nl fr lo) {i v : Int32} (hg : gd i 8 = true) (d : decode cc pc = .ok (.iastore, 1)) (kk : Wa X (wA w 22 i v) (pc + 1) lv rest) : Wa X w pc lv (.int v :: .int i :: .ref (Ad X 22) :: rest) := wa_iastG h 22 rfl hg (wA w 22 i v) (ct_img1_together _ _ _) d kk
theorem wn_img1_together (h : Cx X cc own nl fr lo) (d : decode cc pc = .ok (.arraylength, 1)) (kk : Wa X w (pc + 1) lv (.int 8 :: rest)) : Wa X w pc lv (.ref (Ad X 22) :: rest) := wa_alenG h 22 rfl 8 rfl d kk
theorem ct_img1_sceneOn (E : ET) (w : Wd) (f : Nat → Int32) : (cellsOf E w).set 23 (E.2.1 23, .inl (E.2.2 0, 6, .inl f)) = cellsOf E (wR w 23 f) := by rfl
theorem wl_img1_sceneOn (h : Cx X cc own nl fr lo) {i : Int32} (hg : gd i 6 = true) (d : decode cc pc = .ok (.iaload, 1)) (kk : Wa X w (pc + 1) lv (.int (w.2.1 23 i.toNatClampNeg) :: rest)) : Wa X w pc lv (.int i :: .ref (Ad X 23) :: rest) := wa_ialdG h 23 rfl hg d kk
theorem ws_img1_sceneOn (h : Cx X cc own nl fr lo) {i v : Int32} (hg : gd i 6 = true) (d : decode cc pc = .ok (.iastore, 1)) (kk : Wa X (wA w 23 i v) (pc + 1) lv rest) : Wa X w pc lv (.int v :: .int i :: .ref (Ad X 23) :: rest) := wa_iastG h 23 rfl hg (wA w 23 i v) (ct_img1_sceneOn _ _ _) d kk
theorem wn_img1_sceneOn (h : Cx X cc own nl fr lo) (d : decode cc pc = .ok (.arraylength, 1)) (kk : Wa X w (pc + 1) lv (.int 6 :: rest)) : Wa X w pc lv (.ref (Ad X 23) :: rest) := wa_alenG h 23 rfl 6 rfl d kk
theorem ct_img1_sightLine (E : ET) (w : Wd) (f : Nat → Int32) : (cellsOf E w).set 24 (E.2.1 24, .inl (E.2.2 0, 6, .inl f)) = cellsOf E (wR w 24 f) := by rfl
theorem wl_img1_sightLine (h : Cx X cc own nl fr lo) {i : Int32} (hg : gd i 6 = true) (d : decode cc pc = .ok (.iaload, 1)) (kk : Wa X w (pc + 1) lv (.int (w.2.1 24 i.toNatClampNeg) :: rest)) : Wa X w pc lv (.int i :: .ref (Ad X 24) :: rest) := wa_ialdG h 24 rfl hg d kk
theorem ws_img1_sightLine (h : Cx X cc own nl fr lo) {i v : Int32} (hg : gd i 6 = true) (d : decode cc pc = .ok (.iastore, 1)) (kk : Wa X (wA w 24 i v) (pc + 1) lv rest) : Wa X w pc lv (.int v :: .int i :: .ref (Ad X 24) :: rest) := wa_iastG h 24 rfl hg (wA w 24 i v) (ct_img1_sightLine _ _ _) d kk
theorem wn_img1_sightLine (h : Cx X cc own nl fr lo) (d : decode cc pc = .ok (.arraylength, 1)) (kk : Wa X w (pc + 1) lv (.int 6 :: rest)) : Wa X w pc lv (.ref (Ad X 24) :: rest) := wa_alenG h 24 rfl 6 rfl d kk
theorem ct_img1_sightMany (E : ET) (w : Wd) (f : Nat → Int32) : (cellsOf E w).set 25 (E.2.1 25, .inl (E.2.2 0, 6, .inl f)) = cellsOf E (wR w 25 f) := by rfl
theorem wl_img1_sightMany (h : Cx X cc own nl fr lo) {i : Int32} (hg : gd i 6 = true) (d : decode cc pc = .ok (.iaload, 1)) (kk : Wa X w (pc + 1) lv (.int (w.2.1 25 i.toNatClampNeg) :: rest)) : Wa X w pc lv (.int i :: .ref (Ad X 25) :: rest) := wa_ialdG h 25 rfl hg d kk
theorem ws_img1_sightMany (h : Cx X cc own nl fr lo) {i v : Int32} (hg : gd i 6 = true) (d : decode cc pc = .ok (.iastore, 1)) (kk : Wa X (wA w 25 i v) (pc + 1) lv rest) : Wa X w pc lv (.int v :: .int i :: .ref (Ad X 25) :: rest) := wa_iastG h 25 rfl hg (wA w 25 i v) (ct_img1_sightMany _ _ _) d kk
theorem wn_img1_sightMany (h : Cx X cc own nl fr lo) (d : decode cc pc = .ok (.arraylength, 1)) (kk : Wa X w (pc + 1) lv (.int 6 :: rest)) : Wa X w pc lv (.ref (Ad X 25) :: rest) := wa_alenG h 25 rfl 6 rfl d kk
theorem wg_company_players (h : Cx X cc own nl fr lo) {index : Nat} (hl : Cond.fieldLink own index RX0 "players" "I" ∈ gT) (d : decode cc pc = .ok (.getfield index, 3)) (kk : Wa X w (pc + 3) lv (.int (w.1 23) :: rest)) : Wa X w pc lv (.ref (Ad X 26) :: rest) := wa_getG h inX0 26 rfl rfl 0 (by decide) hl rfl rfl d kk
theorem cs_company_players (E : ET) (w : Wd) (v : Int32) : (cellsOf E w).set 26 (E.2.1 26, .inr (0, [.int v, .ref (E.2.1 27), .int (w.1 24), .ref (E.2.1 28), .ref (E.2.1 29)])) = cellsOf E (wI w 23 v) := by rfl
theorem wp_company_players (h : Cx X cc own nl fr lo) {index : Nat} (hl : Cond.fieldLink own index RX0 "players" "I" ∈ gT) {v : Int32} (d : decode cc pc = .ok (.putfield index, 3)) (kk : Wa X (wI w 23 v) (pc + 3) lv rest) : Wa X w pc lv (.int v :: .ref (Ad X 26) :: rest) := wa_putG h inX0 tyX0 tyX0_ok nmX0 26 rfl rfl 0 (by decide) hl rfl rfl (ty := .int) rfl rfl rfl (by show _ < _; exact Nat.le_of_ble_eq_true rfl) (wI w 23 v) (cs_company_players _ _ _) d kk
theorem wgN_company_players (h : Cx X cc own nl fr lo) {index : Nat} {host : String} (hl : Cond.fieldLinkNest own index RX0 "players" "I" host ∈ gN) (d : decode cc pc = .ok (.getfield index, 3)) (kk : Wa X w (pc + 3) lv (.int (w.1 23) :: rest)) : Wa X w pc lv (.ref (Ad X 26) :: rest) := wa_getNG h inX0 26 rfl rfl 0 (by decide) hl rfl rfl d kk
theorem wpN_company_players (h : Cx X cc own nl fr lo) {index : Nat} {host : String} (hl : Cond.fieldLinkNest own index RX0 "players" "I" host ∈ gN) {v : Int32} (d : decode cc pc = .ok (.putfield index, 3)) (kk : Wa X (wI w 23 v) (pc + 3) lv rest) : Wa X w pc lv (.int v :: .ref (Ad X 26) :: rest) := wa_putNG h inX0 tyX0 tyX0_ok nmX0 26 rfl rfl 0 (by decide) hl rfl rfl (ty := .int) rfl rfl rfl (by show _ < _; exact Nat.le_of_ble_eq_true rfl) (wI w 23 v) (cs_company_players _ _ _) d kk
theorem wg_company_playerOf (h : Cx X cc own nl fr lo) {index : Nat} (hl : Cond.fieldLink own index RX0 "playerOf" "[I" ∈ gT) (d : decode cc pc = .ok (.getfield index, 3)) (kk : Wa X w (pc + 3) lv (.ref (Ad X 27) :: rest)) : Wa X w pc lv (.ref (Ad X 26) :: rest) := wa_getG h inX0 26 rfl rfl 1 (by decide) hl rfl rfl d kk
theorem wgN_company_playerOf (h : Cx X cc own nl fr lo) {index : Nat} {host : String} (hl : Cond.fieldLinkNest own index RX0 "playerOf" "[I" host ∈ gN) (d : decode cc pc = .ok (.getfield index, 3)) (kk : Wa X w (pc + 3) lv (.ref (Ad X 27) :: rest)) : Wa X w pc lv (.ref (Ad X 26) :: rest) := wa_getNG h inX0 26 rfl rfl 1 (by decide) hl rfl rfl d kk
theorem wg_company_change (h : Cx X cc own nl fr lo) {index : Nat} (hl : Cond.fieldLink own index RX0 "change" "I" ∈ gT) (d : decode cc pc = .ok (.getfield index, 3)) (kk : Wa X w (pc + 3) lv (.int (w.1 24) :: rest)) : Wa X w pc lv (.ref (Ad X 26) :: rest) := wa_getG h inX0 26 rfl rfl 2 (by decide) hl rfl rfl d kk
theorem cs_company_change (E : ET) (w : Wd) (v : Int32) : (cellsOf E w).set 26 (E.2.1 26, .inr (0, [.int (w.1 23), .ref (E.2.1 27), .int v, .ref (E.2.1 28), .ref (E.2.1 29)])) = cellsOf E (wI w 24 v) := by rfl
theorem wp_company_change (h : Cx X cc own nl fr lo) {index : Nat} (hl : Cond.fieldLink own index RX0 "change" "I" ∈ gT) {v : Int32} (d : decode cc pc = .ok (.putfield index, 3)) (kk : Wa X (wI w 24 v) (pc + 3) lv rest) : Wa X w pc lv (.int v :: .ref (Ad X 26) :: rest) := wa_putG h inX0 tyX0 tyX0_ok nmX0 26 rfl rfl 2 (by decide) hl rfl rfl (ty := .int) rfl rfl rfl (by show _ < _; exact Nat.le_of_ble_eq_true rfl) (wI w 24 v) (cs_company_change _ _ _) d kk
theorem wgN_company_change (h : Cx X cc own nl fr lo) {index : Nat} {host : String} (hl : Cond.fieldLinkNest own index RX0 "change" "I" host ∈ gN) (d : decode cc pc = .ok (.getfield index, 3)) (kk : Wa X w (pc + 3) lv (.int (w.1 24) :: rest)) : Wa X w pc lv (.ref (Ad X 26) :: rest) := wa_getNG h inX0 26 rfl rfl 2 (by decide) hl rfl rfl d kk
theorem wpN_company_change (h : Cx X cc own nl fr lo) {index : Nat} {host : String} (hl : Cond.fieldLinkNest own index RX0 "change" "I" host ∈ gN) {v : Int32} (d : decode cc pc = .ok (.putfield index, 3)) (kk : Wa X (wI w 24 v) (pc + 3) lv rest) : Wa X w pc lv (.int v :: .ref (Ad X 26) :: rest) := wa_putNG h inX0 tyX0 tyX0_ok nmX0 26 rfl rfl 2 (by decide) hl rfl rfl (ty := .int) rfl rfl rfl (by show _ < _; exact Nat.le_of_ble_eq_true rfl) (wI w 24 v) (cs_company_change _ _ _) d kk
theorem wg_company_linesOf (h : Cx X cc own nl fr lo) {index : Nat} (hl : Cond.fieldLink own index RX0 "linesOf" "[J" ∈ gT) (d : decode cc pc = .ok (.getfield index, 3)) (kk : Wa X w (pc + 3) lv (.ref (Ad X 28) :: rest)) : Wa X w pc lv (.ref (Ad X 26) :: rest) := wa_getG h inX0 26 rfl rfl 3 (by decide) hl rfl rfl d kk
theorem wgN_company_linesOf (h : Cx X cc own nl fr lo) {index : Nat} {host : String} (hl : Cond.fieldLinkNest own index RX0 "linesOf" "[J" host ∈ gN) (d : decode cc pc = .ok (.getfield index, 3)) (kk : Wa X w (pc + 3) lv (.ref (Ad X 28) :: rest)) : Wa X w pc lv (.ref (Ad X 26) :: rest) := wa_getNG h inX0 26 rfl rfl 3 (by decide) hl rfl rfl d kk
theorem wg_company_clashes (h : Cx X cc own nl fr lo) {index : Nat} (hl : Cond.fieldLink own index RX0 "clashes" "[I" ∈ gT) (d : decode cc pc = .ok (.getfield index, 3)) (kk : Wa X w (pc + 3) lv (.ref (Ad X 29) :: rest)) : Wa X w pc lv (.ref (Ad X 26) :: rest) := wa_getG h inX0 26 rfl rfl 4 (by decide) hl rfl rfl d kk
theorem wgN_company_clashes (h : Cx X cc own nl fr lo) {index : Nat} {host : String} (hl : Cond.fieldLinkNest own index RX0 "clashes" "[I" host ∈ gN) (d : decode cc pc = .ok (.getfield index, 3)) (kk : Wa X w (pc + 3) lv (.ref (Ad X 29) :: rest)) : Wa X w pc lv (.ref (Ad X 26) :: rest) := wa_getNG h inX0 26 rfl rfl 4 (by decide) hl rfl rfl d kk
theorem ct_company_playerOf (E : ET) (w : Wd) (f : Nat → Int32) : (cellsOf E w).set 27 (E.2.1 27, .inl (E.2.2 0, 8, .inl f)) = cellsOf E (wR w 27 f) := by rfl
theorem wl_company_playerOf (h : Cx X cc own nl fr lo) {i : Int32} (hg : gd i 8 = true) (d : decode cc pc = .ok (.iaload, 1)) (kk : Wa X w (pc + 1) lv (.int (w.2.1 27 i.toNatClampNeg) :: rest)) : Wa X w pc lv (.int i :: .ref (Ad X 27) :: rest) := wa_ialdG h 27 rfl hg d kk
theorem ws_company_playerOf (h : Cx X cc own nl fr lo) {i v : Int32} (hg : gd i 8 = true) (d : decode cc pc = .ok (.iastore, 1)) (kk : Wa X (wA w 27 i v) (pc + 1) lv rest) : Wa X w pc lv (.int v :: .int i :: .ref (Ad X 27) :: rest) := wa_iastG h 27 rfl hg (wA w 27 i v) (ct_company_playerOf _ _ _) d kk
theorem wn_company_playerOf (h : Cx X cc own nl fr lo) (d : decode cc pc = .ok (.arraylength, 1)) (kk : Wa X w (pc + 1) lv (.int 8 :: rest)) : Wa X w pc lv (.ref (Ad X 27) :: rest) := wa_alenG h 27 rfl 8 rfl d kk
theorem wl_company_linesOf (h : Cx X cc own nl fr lo) {i : Int32} (hg : gd i 8 = true) (d : decode cc pc = .ok (.laload, 1)) (kk : Wa X w (pc + 1) lv (.long (w.2.2 28 i.toNatClampNeg) :: rest)) : Wa X w pc lv (.int i :: .ref (Ad X 28) :: rest) := wa_laldG h 28 rfl hg d kk
theorem ct_company_linesOf (E : ET) (w : Wd) (i : Int32) (v : Int64) : (cellsOf E w).set 28 (E.2.1 28, .inl (E.2.2 1, 8, .inr (.inl (vp_updL (w.2.2 28) i.toNatClampNeg v)))) = cellsOf E (wL w 28 i v) := by rfl
theorem ws_company_linesOf (h : Cx X cc own nl fr lo) {i : Int32} {v : Int64} (hg : gd i 8 = true) (d : decode cc pc = .ok (.lastore, 1)) (kk : Wa X (wL w 28 i v) (pc + 1) lv rest) : Wa X w pc lv (.long v :: .int i :: .ref (Ad X 28) :: rest) := wa_lastG h 28 rfl hg (wL w 28 i v) (ct_company_linesOf _ _ _ _) d kk
theorem ct_company_clashes (E : ET) (w : Wd) (f : Nat → Int32) : (cellsOf E w).set 29 (E.2.1 29, .inl (E.2.2 0, 8, .inl f)) = cellsOf E (wR w 29 f) := by rfl
theorem wl_company_clashes (h : Cx X cc own nl fr lo) {i : Int32} (hg : gd i 8 = true) (d : decode cc pc = .ok (.iaload, 1)) (kk : Wa X w (pc + 1) lv (.int (w.2.1 29 i.toNatClampNeg) :: rest)) : Wa X w pc lv (.int i :: .ref (Ad X 29) :: rest) := wa_ialdG h 29 rfl hg d kk
theorem ws_company_clashes (h : Cx X cc own nl fr lo) {i v : Int32} (hg : gd i 8 = true) (d : decode cc pc = .ok (.iastore, 1)) (kk : Wa X (wA w 29 i v) (pc + 1) lv rest) : Wa X w pc lv (.int v :: .int i :: .ref (Ad X 29) :: rest) := wa_iastG h 29 rfl hg (wA w 29 i v) (ct_company_clashes _ _ _) d kk
theorem wn_company_clashes (h : Cx X cc own nl fr lo) (d : decode cc pc = .ok (.arraylength, 1)) (kk : Wa X w (pc + 1) lv (.int 8 :: rest)) : Wa X w pc lv (.ref (Ad X 29) :: rest) := wa_alenG h 29 rfl 8 rfl d kk
theorem wg_order_fewest (h : Cx X cc own nl fr lo) {index : Nat} (hl : Cond.fieldLink own index RX4 "fewest" "I" ∈ gT) (d : decode cc pc = .ok (.getfield index, 3)) (kk : Wa X w (pc + 3) lv (.int (w.1 25) :: rest)) : Wa X w pc lv (.ref (Ad X 30) :: rest) := wa_getG h inX4 30 rfl rfl 0 (by decide) hl rfl rfl d kk
theorem cs_order_fewest (E : ET) (w : Wd) (v : Int32) : (cellsOf E w).set 30 (E.2.1 30, .inr (4, [.int v, .ref (E.2.1 31), .int (w.1 26), .ref (E.2.1 32), .ref (E.2.1 33)])) = cellsOf E (wI w 25 v) := by rfl
theorem wp_order_fewest (h : Cx X cc own nl fr lo) {index : Nat} (hl : Cond.fieldLink own index RX4 "fewest" "I" ∈ gT) {v : Int32} (d : decode cc pc = .ok (.putfield index, 3)) (kk : Wa X (wI w 25 v) (pc + 3) lv rest) : Wa X w pc lv (.int v :: .ref (Ad X 30) :: rest) := wa_putG h inX4 tyX4 tyX4_ok nmX4 30 rfl rfl 0 (by decide) hl rfl rfl (ty := .int) rfl rfl rfl (by show _ < _; exact Nat.le_of_ble_eq_true rfl) (wI w 25 v) (cs_order_fewest _ _ _) d kk
theorem wgN_order_fewest (h : Cx X cc own nl fr lo) {index : Nat} {host : String} (hl : Cond.fieldLinkNest own index RX4 "fewest" "I" host ∈ gN) (d : decode cc pc = .ok (.getfield index, 3)) (kk : Wa X w (pc + 3) lv (.int (w.1 25) :: rest)) : Wa X w pc lv (.ref (Ad X 30) :: rest) := wa_getNG h inX4 30 rfl rfl 0 (by decide) hl rfl rfl d kk
theorem wpN_order_fewest (h : Cx X cc own nl fr lo) {index : Nat} {host : String} (hl : Cond.fieldLinkNest own index RX4 "fewest" "I" host ∈ gN) {v : Int32} (d : decode cc pc = .ok (.putfield index, 3)) (kk : Wa X (wI w 25 v) (pc + 3) lv rest) : Wa X w pc lv (.int v :: .ref (Ad X 30) :: rest) := wa_putNG h inX4 tyX4 tyX4_ok nmX4 30 rfl rfl 0 (by decide) hl rfl rfl (ty := .int) rfl rfl rfl (by show _ < _; exact Nat.le_of_ble_eq_true rfl) (wI w 25 v) (cs_order_fewest _ _ _) d kk
theorem wg_order_row (h : Cx X cc own nl fr lo) {index : Nat} (hl : Cond.fieldLink own index RX4 "row" "[I" ∈ gT) (d : decode cc pc = .ok (.getfield index, 3)) (kk : Wa X w (pc + 3) lv (.ref (Ad X 31) :: rest)) : Wa X w pc lv (.ref (Ad X 30) :: rest) := wa_getG h inX4 30 rfl rfl 1 (by decide) hl rfl rfl d kk
theorem wgN_order_row (h : Cx X cc own nl fr lo) {index : Nat} {host : String} (hl : Cond.fieldLinkNest own index RX4 "row" "[I" host ∈ gN) (d : decode cc pc = .ok (.getfield index, 3)) (kk : Wa X w (pc + 3) lv (.ref (Ad X 31) :: rest)) : Wa X w pc lv (.ref (Ad X 30) :: rest) := wa_getNG h inX4 30 rfl rfl 1 (by decide) hl rfl rfl d kk
theorem wg_order_scenes (h : Cx X cc own nl fr lo) {index : Nat} (hl : Cond.fieldLink own index RX4 "scenes" "I" ∈ gT) (d : decode cc pc = .ok (.getfield index, 3)) (kk : Wa X w (pc + 3) lv (.int (w.1 26) :: rest)) : Wa X w pc lv (.ref (Ad X 30) :: rest) := wa_getG h inX4 30 rfl rfl 2 (by decide) hl rfl rfl d kk
theorem cs_order_scenes (E : ET) (w : Wd) (v : Int32) : (cellsOf E w).set 30 (E.2.1 30, .inr (4, [.int (w.1 25), .ref (E.2.1 31), .int v, .ref (E.2.1 32), .ref (E.2.1 33)])) = cellsOf E (wI w 26 v) := by rfl
theorem wp_order_scenes (h : Cx X cc own nl fr lo) {index : Nat} (hl : Cond.fieldLink own index RX4 "scenes" "I" ∈ gT) {v : Int32} (d : decode cc pc = .ok (.putfield index, 3)) (kk : Wa X (wI w 26 v) (pc + 3) lv rest) : Wa X w pc lv (.int v :: .ref (Ad X 30) :: rest) := wa_putG h inX4 tyX4 tyX4_ok nmX4 30 rfl rfl 2 (by decide) hl rfl rfl (ty := .int) rfl rfl rfl (by show _ < _; exact Nat.le_of_ble_eq_true rfl) (wI w 26 v) (cs_order_scenes _ _ _) d kk
theorem wgN_order_scenes (h : Cx X cc own nl fr lo) {index : Nat} {host : String} (hl : Cond.fieldLinkNest own index RX4 "scenes" "I" host ∈ gN) (d : decode cc pc = .ok (.getfield index, 3)) (kk : Wa X w (pc + 3) lv (.int (w.1 26) :: rest)) : Wa X w pc lv (.ref (Ad X 30) :: rest) := wa_getNG h inX4 30 rfl rfl 2 (by decide) hl rfl rfl d kk
theorem wpN_order_scenes (h : Cx X cc own nl fr lo) {index : Nat} {host : String} (hl : Cond.fieldLinkNest own index RX4 "scenes" "I" host ∈ gN) {v : Int32} (d : decode cc pc = .ok (.putfield index, 3)) (kk : Wa X (wI w 26 v) (pc + 3) lv rest) : Wa X w pc lv (.int v :: .ref (Ad X 30) :: rest) := wa_putNG h inX4 tyX4 tyX4_ok nmX4 30 rfl rfl 2 (by decide) hl rfl rfl (ty := .int) rfl rfl rfl (by show _ < _; exact Nat.le_of_ble_eq_true rfl) (wI w 26 v) (cs_order_scenes _ _ _) d kk
theorem wg_order_sceneOn (h : Cx X cc own nl fr lo) {index : Nat} (hl : Cond.fieldLink own index RX4 "sceneOn" "[I" ∈ gT) (d : decode cc pc = .ok (.getfield index, 3)) (kk : Wa X w (pc + 3) lv (.ref (Ad X 32) :: rest)) : Wa X w pc lv (.ref (Ad X 30) :: rest) := wa_getG h inX4 30 rfl rfl 3 (by decide) hl rfl rfl d kk
theorem wgN_order_sceneOn (h : Cx X cc own nl fr lo) {index : Nat} {host : String} (hl : Cond.fieldLinkNest own index RX4 "sceneOn" "[I" host ∈ gN) (d : decode cc pc = .ok (.getfield index, 3)) (kk : Wa X w (pc + 3) lv (.ref (Ad X 32) :: rest)) : Wa X w pc lv (.ref (Ad X 30) :: rest) := wa_getNG h inX4 30 rfl rfl 3 (by decide) hl rfl rfl d kk
theorem wg_order_behind (h : Cx X cc own nl fr lo) {index : Nat} (hl : Cond.fieldLink own index RX4 "behind" "[I" ∈ gT) (d : decode cc pc = .ok (.getfield index, 3)) (kk : Wa X w (pc + 3) lv (.ref (Ad X 33) :: rest)) : Wa X w pc lv (.ref (Ad X 30) :: rest) := wa_getG h inX4 30 rfl rfl 4 (by decide) hl rfl rfl d kk
theorem wgN_order_behind (h : Cx X cc own nl fr lo) {index : Nat} {host : String} (hl : Cond.fieldLinkNest own index RX4 "behind" "[I" host ∈ gN) (d : decode cc pc = .ok (.getfield index, 3)) (kk : Wa X w (pc + 3) lv (.ref (Ad X 33) :: rest)) : Wa X w pc lv (.ref (Ad X 30) :: rest) := wa_getNG h inX4 30 rfl rfl 4 (by decide) hl rfl rfl d kk
theorem ct_order_row (E : ET) (w : Wd) (f : Nat → Int32) : (cellsOf E w).set 31 (E.2.1 31, .inl (E.2.2 0, 6, .inl f)) = cellsOf E (wR w 31 f) := by rfl
theorem wl_order_row (h : Cx X cc own nl fr lo) {i : Int32} (hg : gd i 6 = true) (d : decode cc pc = .ok (.iaload, 1)) (kk : Wa X w (pc + 1) lv (.int (w.2.1 31 i.toNatClampNeg) :: rest)) : Wa X w pc lv (.int i :: .ref (Ad X 31) :: rest) := wa_ialdG h 31 rfl hg d kk
theorem ws_order_row (h : Cx X cc own nl fr lo) {i v : Int32} (hg : gd i 6 = true) (d : decode cc pc = .ok (.iastore, 1)) (kk : Wa X (wA w 31 i v) (pc + 1) lv rest) : Wa X w pc lv (.int v :: .int i :: .ref (Ad X 31) :: rest) := wa_iastG h 31 rfl hg (wA w 31 i v) (ct_order_row _ _ _) d kk
theorem wn_order_row (h : Cx X cc own nl fr lo) (d : decode cc pc = .ok (.arraylength, 1)) (kk : Wa X w (pc + 1) lv (.int 6 :: rest)) : Wa X w pc lv (.ref (Ad X 31) :: rest) := wa_alenG h 31 rfl 6 rfl d kk
theorem ct_order_sceneOn (E : ET) (w : Wd) (f : Nat → Int32) : (cellsOf E w).set 32 (E.2.1 32, .inl (E.2.2 0, 6, .inl f)) = cellsOf E (wR w 32 f) := by rfl
theorem wl_order_sceneOn (h : Cx X cc own nl fr lo) {i : Int32} (hg : gd i 6 = true) (d : decode cc pc = .ok (.iaload, 1)) (kk : Wa X w (pc + 1) lv (.int (w.2.1 32 i.toNatClampNeg) :: rest)) : Wa X w pc lv (.int i :: .ref (Ad X 32) :: rest) := wa_ialdG h 32 rfl hg d kk
theorem ws_order_sceneOn (h : Cx X cc own nl fr lo) {i v : Int32} (hg : gd i 6 = true) (d : decode cc pc = .ok (.iastore, 1)) (kk : Wa X (wA w 32 i v) (pc + 1) lv rest) : Wa X w pc lv (.int v :: .int i :: .ref (Ad X 32) :: rest) := wa_iastG h 32 rfl hg (wA w 32 i v) (ct_order_sceneOn _ _ _) d kk
theorem wn_order_sceneOn (h : Cx X cc own nl fr lo) (d : decode cc pc = .ok (.arraylength, 1)) (kk : Wa X w (pc + 1) lv (.int 6 :: rest)) : Wa X w pc lv (.ref (Ad X 32) :: rest) := wa_alenG h 32 rfl 6 rfl d kk
theorem ct_order_behind (E : ET) (w : Wd) (f : Nat → Int32) : (cellsOf E w).set 33 (E.2.1 33, .inl (E.2.2 0, 384, .inl f)) = cellsOf E (wR w 33 f) := by rfl
theorem wl_order_behind (h : Cx X cc own nl fr lo) {i : Int32} (hg : gd i 384 = true) (d : decode cc pc = .ok (.iaload, 1)) (kk : Wa X w (pc + 1) lv (.int (w.2.1 33 i.toNatClampNeg) :: rest)) : Wa X w pc lv (.int i :: .ref (Ad X 33) :: rest) := wa_ialdG h 33 rfl hg d kk
theorem ws_order_behind (h : Cx X cc own nl fr lo) {i v : Int32} (hg : gd i 384 = true) (d : decode cc pc = .ok (.iastore, 1)) (kk : Wa X (wA w 33 i v) (pc + 1) lv rest) : Wa X w pc lv (.int v :: .int i :: .ref (Ad X 33) :: rest) := wa_iastG h 33 rfl hg (wA w 33 i v) (ct_order_behind _ _ _) d kk
theorem wn_order_behind (h : Cx X cc own nl fr lo) (d : decode cc pc = .ok (.arraylength, 1)) (kk : Wa X w (pc + 1) lv (.int 384 :: rest)) : Wa X w pc lv (.ref (Ad X 33) :: rest) := wa_alenG h 33 rfl 384 rfl d kk
theorem wg_guess_ways (h : Cx X cc own nl fr lo) {index : Nat} (hl : Cond.fieldLink own index RX1 "ways" "I" ∈ gT) (d : decode cc pc = .ok (.getfield index, 3)) (kk : Wa X w (pc + 3) lv (.int (w.1 27) :: rest)) : Wa X w pc lv (.ref (Ad X 34) :: rest) := wa_getG h inX1 34 rfl rfl 0 (by decide) hl rfl rfl d kk
theorem cs_guess_ways (E : ET) (w : Wd) (v : Int32) : (cellsOf E w).set 34 (E.2.1 34, .inr (1, [.int v, .int (w.1 28), .ref (E.2.1 35)])) = cellsOf E (wI w 27 v) := by rfl
theorem wp_guess_ways (h : Cx X cc own nl fr lo) {index : Nat} (hl : Cond.fieldLink own index RX1 "ways" "I" ∈ gT) {v : Int32} (d : decode cc pc = .ok (.putfield index, 3)) (kk : Wa X (wI w 27 v) (pc + 3) lv rest) : Wa X w pc lv (.int v :: .ref (Ad X 34) :: rest) := wa_putG h inX1 tyX1 tyX1_ok nmX1 34 rfl rfl 0 (by decide) hl rfl rfl (ty := .int) rfl rfl rfl (by show _ < _; exact Nat.le_of_ble_eq_true rfl) (wI w 27 v) (cs_guess_ways _ _ _) d kk
theorem wgN_guess_ways (h : Cx X cc own nl fr lo) {index : Nat} {host : String} (hl : Cond.fieldLinkNest own index RX1 "ways" "I" host ∈ gN) (d : decode cc pc = .ok (.getfield index, 3)) (kk : Wa X w (pc + 3) lv (.int (w.1 27) :: rest)) : Wa X w pc lv (.ref (Ad X 34) :: rest) := wa_getNG h inX1 34 rfl rfl 0 (by decide) hl rfl rfl d kk
theorem wpN_guess_ways (h : Cx X cc own nl fr lo) {index : Nat} {host : String} (hl : Cond.fieldLinkNest own index RX1 "ways" "I" host ∈ gN) {v : Int32} (d : decode cc pc = .ok (.putfield index, 3)) (kk : Wa X (wI w 27 v) (pc + 3) lv rest) : Wa X w pc lv (.int v :: .ref (Ad X 34) :: rest) := wa_putNG h inX1 tyX1 tyX1_ok nmX1 34 rfl rfl 0 (by decide) hl rfl rfl (ty := .int) rfl rfl rfl (by show _ < _; exact Nat.le_of_ble_eq_true rfl) (wI w 27 v) (cs_guess_ways _ _ _) d kk
theorem wg_guess_first (h : Cx X cc own nl fr lo) {index : Nat} (hl : Cond.fieldLink own index RX1 "first" "I" ∈ gT) (d : decode cc pc = .ok (.getfield index, 3)) (kk : Wa X w (pc + 3) lv (.int (w.1 28) :: rest)) : Wa X w pc lv (.ref (Ad X 34) :: rest) := wa_getG h inX1 34 rfl rfl 1 (by decide) hl rfl rfl d kk
theorem cs_guess_first (E : ET) (w : Wd) (v : Int32) : (cellsOf E w).set 34 (E.2.1 34, .inr (1, [.int (w.1 27), .int v, .ref (E.2.1 35)])) = cellsOf E (wI w 28 v) := by rfl
theorem wp_guess_first (h : Cx X cc own nl fr lo) {index : Nat} (hl : Cond.fieldLink own index RX1 "first" "I" ∈ gT) {v : Int32} (d : decode cc pc = .ok (.putfield index, 3)) (kk : Wa X (wI w 28 v) (pc + 3) lv rest) : Wa X w pc lv (.int v :: .ref (Ad X 34) :: rest) := wa_putG h inX1 tyX1 tyX1_ok nmX1 34 rfl rfl 1 (by decide) hl rfl rfl (ty := .int) rfl rfl rfl (by show _ < _; exact Nat.le_of_ble_eq_true rfl) (wI w 28 v) (cs_guess_first _ _ _) d kk
theorem wgN_guess_first (h : Cx X cc own nl fr lo) {index : Nat} {host : String} (hl : Cond.fieldLinkNest own index RX1 "first" "I" host ∈ gN) (d : decode cc pc = .ok (.getfield index, 3)) (kk : Wa X w (pc + 3) lv (.int (w.1 28) :: rest)) : Wa X w pc lv (.ref (Ad X 34) :: rest) := wa_getNG h inX1 34 rfl rfl 1 (by decide) hl rfl rfl d kk
theorem wpN_guess_first (h : Cx X cc own nl fr lo) {index : Nat} {host : String} (hl : Cond.fieldLinkNest own index RX1 "first" "I" host ∈ gN) {v : Int32} (d : decode cc pc = .ok (.putfield index, 3)) (kk : Wa X (wI w 28 v) (pc + 3) lv rest) : Wa X w pc lv (.int v :: .ref (Ad X 34) :: rest) := wa_putNG h inX1 tyX1 tyX1_ok nmX1 34 rfl rfl 1 (by decide) hl rfl rfl (ty := .int) rfl rfl rfl (by show _ < _; exact Nat.le_of_ble_eq_true rfl) (wI w 28 v) (cs_guess_first _ _ _) d kk
theorem wg_guess_who (h : Cx X cc own nl fr lo) {index : Nat} (hl : Cond.fieldLink own index RX1 "who" "[I" ∈ gT) (d : decode cc pc = .ok (.getfield index, 3)) (kk : Wa X w (pc + 3) lv (.ref (Ad X 35) :: rest)) : Wa X w pc lv (.ref (Ad X 34) :: rest) := wa_getG h inX1 34 rfl rfl 2 (by decide) hl rfl rfl d kk
theorem wgN_guess_who (h : Cx X cc own nl fr lo) {index : Nat} {host : String} (hl : Cond.fieldLinkNest own index RX1 "who" "[I" host ∈ gN) (d : decode cc pc = .ok (.getfield index, 3)) (kk : Wa X w (pc + 3) lv (.ref (Ad X 35) :: rest)) : Wa X w pc lv (.ref (Ad X 34) :: rest) := wa_getNG h inX1 34 rfl rfl 2 (by decide) hl rfl rfl d kk
theorem ct_guess_who (E : ET) (w : Wd) (f : Nat → Int32) : (cellsOf E w).set 35 (E.2.1 35, .inl (E.2.2 0, 3, .inl f)) = cellsOf E (wR w 35 f) := by rfl
theorem wl_guess_who (h : Cx X cc own nl fr lo) {i : Int32} (hg : gd i 3 = true) (d : decode cc pc = .ok (.iaload, 1)) (kk : Wa X w (pc + 1) lv (.int (w.2.1 35 i.toNatClampNeg) :: rest)) : Wa X w pc lv (.int i :: .ref (Ad X 35) :: rest) := wa_ialdG h 35 rfl hg d kk
theorem ws_guess_who (h : Cx X cc own nl fr lo) {i v : Int32} (hg : gd i 3 = true) (d : decode cc pc = .ok (.iastore, 1)) (kk : Wa X (wA w 35 i v) (pc + 1) lv rest) : Wa X w pc lv (.int v :: .int i :: .ref (Ad X 35) :: rest) := wa_iastG h 35 rfl hg (wA w 35 i v) (ct_guess_who _ _ _) d kk
theorem wn_guess_who (h : Cx X cc own nl fr lo) (d : decode cc pc = .ok (.arraylength, 1)) (kk : Wa X w (pc + 1) lv (.int 3 :: rest)) : Wa X w pc lv (.ref (Ad X 35) :: rest) := wa_alenG h 35 rfl 3 rfl d kk
theorem wg_model_law (h : Cx X cc own nl fr lo) {index : Nat} (hl : Cond.fieldLink own index RX6 "law" "I" ∈ gT) (d : decode cc pc = .ok (.getfield index, 3)) (kk : Wa X w (pc + 3) lv (.int (w.1 29) :: rest)) : Wa X w pc lv (.ref (Ad X 36) :: rest) := wa_getG h inX6 36 rfl rfl 0 (by decide) hl rfl rfl d kk
theorem cs_model_law (E : ET) (w : Wd) (v : Int32) : (cellsOf E w).set 36 (E.2.1 36, .inr (6, [.int v, .int (w.1 30), .int (w.1 31), .ref (E.2.1 37), .ref (E.2.1 38), .int (w.1 32), .ref (E.2.1 39), .ref (E.2.1 40), .int (w.1 33), .ref (E.2.1 41), .int (w.1 34), .ref (E.2.1 42), .ref (E.2.1 43), .int (w.1 35), .int (w.1 36), .int (w.1 37), .int (w.1 38), .ref (E.2.1 44), .ref (E.2.1 45), .ref (E.2.1 46), .ref (E.2.1 47), .ref (E.2.1 48), .ref (E.2.1 49), .ref (E.2.1 50), .ref (E.2.1 51), .int (w.1 39), .int (w.1 40)])) = cellsOf E (wI w 29 v) := by rfl
theorem wp_model_law (h : Cx X cc own nl fr lo) {index : Nat} (hl : Cond.fieldLink own index RX6 "law" "I" ∈ gT) {v : Int32} (d : decode cc pc = .ok (.putfield index, 3)) (kk : Wa X (wI w 29 v) (pc + 3) lv rest) : Wa X w pc lv (.int v :: .ref (Ad X 36) :: rest) := wa_putG h inX6 tyX6 tyX6_ok nmX6 36 rfl rfl 0 (by decide) hl rfl rfl (ty := .int) rfl rfl rfl (by show _ < _; exact Nat.le_of_ble_eq_true rfl) (wI w 29 v) (cs_model_law _ _ _) d kk
theorem wgN_model_law (h : Cx X cc own nl fr lo) {index : Nat} {host : String} (hl : Cond.fieldLinkNest own index RX6 "law" "I" host ∈ gN) (d : decode cc pc = .ok (.getfield index, 3)) (kk : Wa X w (pc + 3) lv (.int (w.1 29) :: rest)) : Wa X w pc lv (.ref (Ad X 36) :: rest) := wa_getNG h inX6 36 rfl rfl 0 (by decide) hl rfl rfl d kk
theorem wpN_model_law (h : Cx X cc own nl fr lo) {index : Nat} {host : String} (hl : Cond.fieldLinkNest own index RX6 "law" "I" host ∈ gN) {v : Int32} (d : decode cc pc = .ok (.putfield index, 3)) (kk : Wa X (wI w 29 v) (pc + 3) lv rest) : Wa X w pc lv (.int v :: .ref (Ad X 36) :: rest) := wa_putNG h inX6 tyX6 tyX6_ok nmX6 36 rfl rfl 0 (by decide) hl rfl rfl (ty := .int) rfl rfl rfl (by show _ < _; exact Nat.le_of_ble_eq_true rfl) (wI w 29 v) (cs_model_law _ _ _) d kk
theorem wg_model_just (h : Cx X cc own nl fr lo) {index : Nat} (hl : Cond.fieldLink own index RX6 "just" "I" ∈ gT) (d : decode cc pc = .ok (.getfield index, 3)) (kk : Wa X w (pc + 3) lv (.int (w.1 30) :: rest)) : Wa X w pc lv (.ref (Ad X 36) :: rest) := wa_getG h inX6 36 rfl rfl 1 (by decide) hl rfl rfl d kk
theorem cs_model_just (E : ET) (w : Wd) (v : Int32) : (cellsOf E w).set 36 (E.2.1 36, .inr (6, [.int (w.1 29), .int v, .int (w.1 31), .ref (E.2.1 37), .ref (E.2.1 38), .int (w.1 32), .ref (E.2.1 39), .ref (E.2.1 40), .int (w.1 33), .ref (E.2.1 41), .int (w.1 34), .ref (E.2.1 42), .ref (E.2.1 43), .int (w.1 35), .int (w.1 36), .int (w.1 37), .int (w.1 38), .ref (E.2.1 44), .ref (E.2.1 45), .ref (E.2.1 46), .ref (E.2.1 47), .ref (E.2.1 48), .ref (E.2.1 49), .ref (E.2.1 50), .ref (E.2.1 51), .int (w.1 39), .int (w.1 40)])) = cellsOf E (wI w 30 v) := by rfl
theorem wp_model_just (h : Cx X cc own nl fr lo) {index : Nat} (hl : Cond.fieldLink own index RX6 "just" "I" ∈ gT) {v : Int32} (d : decode cc pc = .ok (.putfield index, 3)) (kk : Wa X (wI w 30 v) (pc + 3) lv rest) : Wa X w pc lv (.int v :: .ref (Ad X 36) :: rest) := wa_putG h inX6 tyX6 tyX6_ok nmX6 36 rfl rfl 1 (by decide) hl rfl rfl (ty := .int) rfl rfl rfl (by show _ < _; exact Nat.le_of_ble_eq_true rfl) (wI w 30 v) (cs_model_just _ _ _) d kk
theorem wgN_model_just (h : Cx X cc own nl fr lo) {index : Nat} {host : String} (hl : Cond.fieldLinkNest own index RX6 "just" "I" host ∈ gN) (d : decode cc pc = .ok (.getfield index, 3)) (kk : Wa X w (pc + 3) lv (.int (w.1 30) :: rest)) : Wa X w pc lv (.ref (Ad X 36) :: rest) := wa_getNG h inX6 36 rfl rfl 1 (by decide) hl rfl rfl d kk
theorem wpN_model_just (h : Cx X cc own nl fr lo) {index : Nat} {host : String} (hl : Cond.fieldLinkNest own index RX6 "just" "I" host ∈ gN) {v : Int32} (d : decode cc pc = .ok (.putfield index, 3)) (kk : Wa X (wI w 30 v) (pc + 3) lv rest) : Wa X w pc lv (.int v :: .ref (Ad X 36) :: rest) := wa_putNG h inX6 tyX6 tyX6_ok nmX6 36 rfl rfl 1 (by decide) hl rfl rfl (ty := .int) rfl rfl rfl (by show _ < _; exact Nat.le_of_ble_eq_true rfl) (wI w 30 v) (cs_model_just _ _ _) d kk
theorem wg_model_change (h : Cx X cc own nl fr lo) {index : Nat} (hl : Cond.fieldLink own index RX6 "change" "I" ∈ gT) (d : decode cc pc = .ok (.getfield index, 3)) (kk : Wa X w (pc + 3) lv (.int (w.1 31) :: rest)) : Wa X w pc lv (.ref (Ad X 36) :: rest) := wa_getG h inX6 36 rfl rfl 2 (by decide) hl rfl rfl d kk
theorem cs_model_change (E : ET) (w : Wd) (v : Int32) : (cellsOf E w).set 36 (E.2.1 36, .inr (6, [.int (w.1 29), .int (w.1 30), .int v, .ref (E.2.1 37), .ref (E.2.1 38), .int (w.1 32), .ref (E.2.1 39), .ref (E.2.1 40), .int (w.1 33), .ref (E.2.1 41), .int (w.1 34), .ref (E.2.1 42), .ref (E.2.1 43), .int (w.1 35), .int (w.1 36), .int (w.1 37), .int (w.1 38), .ref (E.2.1 44), .ref (E.2.1 45), .ref (E.2.1 46), .ref (E.2.1 47), .ref (E.2.1 48), .ref (E.2.1 49), .ref (E.2.1 50), .ref (E.2.1 51), .int (w.1 39), .int (w.1 40)])) = cellsOf E (wI w 31 v) := by rfl
theorem wp_model_change (h : Cx X cc own nl fr lo) {index : Nat} (hl : Cond.fieldLink own index RX6 "change" "I" ∈ gT) {v : Int32} (d : decode cc pc = .ok (.putfield index, 3)) (kk : Wa X (wI w 31 v) (pc + 3) lv rest) : Wa X w pc lv (.int v :: .ref (Ad X 36) :: rest) := wa_putG h inX6 tyX6 tyX6_ok nmX6 36 rfl rfl 2 (by decide) hl rfl rfl (ty := .int) rfl rfl rfl (by show _ < _; exact Nat.le_of_ble_eq_true rfl) (wI w 31 v) (cs_model_change _ _ _) d kk
theorem wgN_model_change (h : Cx X cc own nl fr lo) {index : Nat} {host : String} (hl : Cond.fieldLinkNest own index RX6 "change" "I" host ∈ gN) (d : decode cc pc = .ok (.getfield index, 3)) (kk : Wa X w (pc + 3) lv (.int (w.1 31) :: rest)) : Wa X w pc lv (.ref (Ad X 36) :: rest) := wa_getNG h inX6 36 rfl rfl 2 (by decide) hl rfl rfl d kk
theorem wpN_model_change (h : Cx X cc own nl fr lo) {index : Nat} {host : String} (hl : Cond.fieldLinkNest own index RX6 "change" "I" host ∈ gN) {v : Int32} (d : decode cc pc = .ok (.putfield index, 3)) (kk : Wa X (wI w 31 v) (pc + 3) lv rest) : Wa X w pc lv (.int v :: .ref (Ad X 36) :: rest) := wa_putNG h inX6 tyX6 tyX6_ok nmX6 36 rfl rfl 2 (by decide) hl rfl rfl (ty := .int) rfl rfl rfl (by show _ < _; exact Nat.le_of_ble_eq_true rfl) (wI w 31 v) (cs_model_change _ _ _) d kk
theorem wg_model_may (h : Cx X cc own nl fr lo) {index : Nat} (hl : Cond.fieldLink own index RX6 "may" "[I" ∈ gT) (d : decode cc pc = .ok (.getfield index, 3)) (kk : Wa X w (pc + 3) lv (.ref (Ad X 37) :: rest)) : Wa X w pc lv (.ref (Ad X 36) :: rest) := wa_getG h inX6 36 rfl rfl 3 (by decide) hl rfl rfl d kk
theorem wgN_model_may (h : Cx X cc own nl fr lo) {index : Nat} {host : String} (hl : Cond.fieldLinkNest own index RX6 "may" "[I" host ∈ gN) (d : decode cc pc = .ok (.getfield index, 3)) (kk : Wa X w (pc + 3) lv (.ref (Ad X 37) :: rest)) : Wa X w pc lv (.ref (Ad X 36) :: rest) := wa_getNG h inX6 36 rfl rfl 3 (by decide) hl rfl rfl d kk
theorem wg_model_scene (h : Cx X cc own nl fr lo) {index : Nat} (hl : Cond.fieldLink own index RX6 "scene" "[I" ∈ gT) (d : decode cc pc = .ok (.getfield index, 3)) (kk : Wa X w (pc + 3) lv (.ref (Ad X 38) :: rest)) : Wa X w pc lv (.ref (Ad X 36) :: rest) := wa_getG h inX6 36 rfl rfl 4 (by decide) hl rfl rfl d kk
theorem wgN_model_scene (h : Cx X cc own nl fr lo) {index : Nat} {host : String} (hl : Cond.fieldLinkNest own index RX6 "scene" "[I" host ∈ gN) (d : decode cc pc = .ok (.getfield index, 3)) (kk : Wa X w (pc + 3) lv (.ref (Ad X 38) :: rest)) : Wa X w pc lv (.ref (Ad X 36) :: rest) := wa_getNG h inX6 36 rfl rfl 4 (by decide) hl rfl rfl d kk
theorem wg_model_scenes (h : Cx X cc own nl fr lo) {index : Nat} (hl : Cond.fieldLink own index RX6 "scenes" "I" ∈ gT) (d : decode cc pc = .ok (.getfield index, 3)) (kk : Wa X w (pc + 3) lv (.int (w.1 32) :: rest)) : Wa X w pc lv (.ref (Ad X 36) :: rest) := wa_getG h inX6 36 rfl rfl 5 (by decide) hl rfl rfl d kk
theorem cs_model_scenes (E : ET) (w : Wd) (v : Int32) : (cellsOf E w).set 36 (E.2.1 36, .inr (6, [.int (w.1 29), .int (w.1 30), .int (w.1 31), .ref (E.2.1 37), .ref (E.2.1 38), .int v, .ref (E.2.1 39), .ref (E.2.1 40), .int (w.1 33), .ref (E.2.1 41), .int (w.1 34), .ref (E.2.1 42), .ref (E.2.1 43), .int (w.1 35), .int (w.1 36), .int (w.1 37), .int (w.1 38), .ref (E.2.1 44), .ref (E.2.1 45), .ref (E.2.1 46), .ref (E.2.1 47), .ref (E.2.1 48), .ref (E.2.1 49), .ref (E.2.1 50), .ref (E.2.1 51), .int (w.1 39), .int (w.1 40)])) = cellsOf E (wI w 32 v) := by rfl
theorem wp_model_scenes (h : Cx X cc own nl fr lo) {index : Nat} (hl : Cond.fieldLink own index RX6 "scenes" "I" ∈ gT) {v : Int32} (d : decode cc pc = .ok (.putfield index, 3)) (kk : Wa X (wI w 32 v) (pc + 3) lv rest) : Wa X w pc lv (.int v :: .ref (Ad X 36) :: rest) := wa_putG h inX6 tyX6 tyX6_ok nmX6 36 rfl rfl 5 (by decide) hl rfl rfl (ty := .int) rfl rfl rfl (by show _ < _; exact Nat.le_of_ble_eq_true rfl) (wI w 32 v) (cs_model_scenes _ _ _) d kk
theorem wgN_model_scenes (h : Cx X cc own nl fr lo) {index : Nat} {host : String} (hl : Cond.fieldLinkNest own index RX6 "scenes" "I" host ∈ gN) (d : decode cc pc = .ok (.getfield index, 3)) (kk : Wa X w (pc + 3) lv (.int (w.1 32) :: rest)) : Wa X w pc lv (.ref (Ad X 36) :: rest) := wa_getNG h inX6 36 rfl rfl 5 (by decide) hl rfl rfl d kk
theorem wpN_model_scenes (h : Cx X cc own nl fr lo) {index : Nat} {host : String} (hl : Cond.fieldLinkNest own index RX6 "scenes" "I" host ∈ gN) {v : Int32} (d : decode cc pc = .ok (.putfield index, 3)) (kk : Wa X (wI w 32 v) (pc + 3) lv rest) : Wa X w pc lv (.int v :: .ref (Ad X 36) :: rest) := wa_putNG h inX6 tyX6 tyX6_ok nmX6 36 rfl rfl 5 (by decide) hl rfl rfl (ty := .int) rfl rfl rfl (by show _ < _; exact Nat.le_of_ble_eq_true rfl) (wI w 32 v) (cs_model_scenes _ _ _) d kk
theorem wg_model_sightLine (h : Cx X cc own nl fr lo) {index : Nat} (hl : Cond.fieldLink own index RX6 "sightLine" "[I" ∈ gT) (d : decode cc pc = .ok (.getfield index, 3)) (kk : Wa X w (pc + 3) lv (.ref (Ad X 39) :: rest)) : Wa X w pc lv (.ref (Ad X 36) :: rest) := wa_getG h inX6 36 rfl rfl 6 (by decide) hl rfl rfl d kk
theorem wgN_model_sightLine (h : Cx X cc own nl fr lo) {index : Nat} {host : String} (hl : Cond.fieldLinkNest own index RX6 "sightLine" "[I" host ∈ gN) (d : decode cc pc = .ok (.getfield index, 3)) (kk : Wa X w (pc + 3) lv (.ref (Ad X 39) :: rest)) : Wa X w pc lv (.ref (Ad X 36) :: rest) := wa_getNG h inX6 36 rfl rfl 6 (by decide) hl rfl rfl d kk
theorem wg_model_sightMany (h : Cx X cc own nl fr lo) {index : Nat} (hl : Cond.fieldLink own index RX6 "sightMany" "[I" ∈ gT) (d : decode cc pc = .ok (.getfield index, 3)) (kk : Wa X w (pc + 3) lv (.ref (Ad X 40) :: rest)) : Wa X w pc lv (.ref (Ad X 36) :: rest) := wa_getG h inX6 36 rfl rfl 7 (by decide) hl rfl rfl d kk
theorem wgN_model_sightMany (h : Cx X cc own nl fr lo) {index : Nat} {host : String} (hl : Cond.fieldLinkNest own index RX6 "sightMany" "[I" host ∈ gN) (d : decode cc pc = .ok (.getfield index, 3)) (kk : Wa X w (pc + 3) lv (.ref (Ad X 40) :: rest)) : Wa X w pc lv (.ref (Ad X 36) :: rest) := wa_getNG h inX6 36 rfl rfl 7 (by decide) hl rfl rfl d kk
theorem wg_model_sights (h : Cx X cc own nl fr lo) {index : Nat} (hl : Cond.fieldLink own index RX6 "sights" "I" ∈ gT) (d : decode cc pc = .ok (.getfield index, 3)) (kk : Wa X w (pc + 3) lv (.int (w.1 33) :: rest)) : Wa X w pc lv (.ref (Ad X 36) :: rest) := wa_getG h inX6 36 rfl rfl 8 (by decide) hl rfl rfl d kk
theorem cs_model_sights (E : ET) (w : Wd) (v : Int32) : (cellsOf E w).set 36 (E.2.1 36, .inr (6, [.int (w.1 29), .int (w.1 30), .int (w.1 31), .ref (E.2.1 37), .ref (E.2.1 38), .int (w.1 32), .ref (E.2.1 39), .ref (E.2.1 40), .int v, .ref (E.2.1 41), .int (w.1 34), .ref (E.2.1 42), .ref (E.2.1 43), .int (w.1 35), .int (w.1 36), .int (w.1 37), .int (w.1 38), .ref (E.2.1 44), .ref (E.2.1 45), .ref (E.2.1 46), .ref (E.2.1 47), .ref (E.2.1 48), .ref (E.2.1 49), .ref (E.2.1 50), .ref (E.2.1 51), .int (w.1 39), .int (w.1 40)])) = cellsOf E (wI w 33 v) := by rfl
theorem wp_model_sights (h : Cx X cc own nl fr lo) {index : Nat} (hl : Cond.fieldLink own index RX6 "sights" "I" ∈ gT) {v : Int32} (d : decode cc pc = .ok (.putfield index, 3)) (kk : Wa X (wI w 33 v) (pc + 3) lv rest) : Wa X w pc lv (.int v :: .ref (Ad X 36) :: rest) := wa_putG h inX6 tyX6 tyX6_ok nmX6 36 rfl rfl 8 (by decide) hl rfl rfl (ty := .int) rfl rfl rfl (by show _ < _; exact Nat.le_of_ble_eq_true rfl) (wI w 33 v) (cs_model_sights _ _ _) d kk
theorem wgN_model_sights (h : Cx X cc own nl fr lo) {index : Nat} {host : String} (hl : Cond.fieldLinkNest own index RX6 "sights" "I" host ∈ gN) (d : decode cc pc = .ok (.getfield index, 3)) (kk : Wa X w (pc + 3) lv (.int (w.1 33) :: rest)) : Wa X w pc lv (.ref (Ad X 36) :: rest) := wa_getNG h inX6 36 rfl rfl 8 (by decide) hl rfl rfl d kk
theorem wpN_model_sights (h : Cx X cc own nl fr lo) {index : Nat} {host : String} (hl : Cond.fieldLinkNest own index RX6 "sights" "I" host ∈ gN) {v : Int32} (d : decode cc pc = .ok (.putfield index, 3)) (kk : Wa X (wI w 33 v) (pc + 3) lv rest) : Wa X w pc lv (.int v :: .ref (Ad X 36) :: rest) := wa_putNG h inX6 tyX6 tyX6_ok nmX6 36 rfl rfl 8 (by decide) hl rfl rfl (ty := .int) rfl rfl rfl (by show _ < _; exact Nat.le_of_ble_eq_true rfl) (wI w 33 v) (cs_model_sights _ _ _) d kk
theorem wg_model_pad (h : Cx X cc own nl fr lo) {index : Nat} (hl : Cond.fieldLink own index RX6 "pad" "[I" ∈ gT) (d : decode cc pc = .ok (.getfield index, 3)) (kk : Wa X w (pc + 3) lv (.ref (Ad X 41) :: rest)) : Wa X w pc lv (.ref (Ad X 36) :: rest) := wa_getG h inX6 36 rfl rfl 9 (by decide) hl rfl rfl d kk
theorem wgN_model_pad (h : Cx X cc own nl fr lo) {index : Nat} {host : String} (hl : Cond.fieldLinkNest own index RX6 "pad" "[I" host ∈ gN) (d : decode cc pc = .ok (.getfield index, 3)) (kk : Wa X w (pc + 3) lv (.ref (Ad X 41) :: rest)) : Wa X w pc lv (.ref (Ad X 36) :: rest) := wa_getNG h inX6 36 rfl rfl 9 (by decide) hl rfl rfl d kk
theorem wg_model_padMany (h : Cx X cc own nl fr lo) {index : Nat} (hl : Cond.fieldLink own index RX6 "padMany" "I" ∈ gT) (d : decode cc pc = .ok (.getfield index, 3)) (kk : Wa X w (pc + 3) lv (.int (w.1 34) :: rest)) : Wa X w pc lv (.ref (Ad X 36) :: rest) := wa_getG h inX6 36 rfl rfl 10 (by decide) hl rfl rfl d kk
theorem cs_model_padMany (E : ET) (w : Wd) (v : Int32) : (cellsOf E w).set 36 (E.2.1 36, .inr (6, [.int (w.1 29), .int (w.1 30), .int (w.1 31), .ref (E.2.1 37), .ref (E.2.1 38), .int (w.1 32), .ref (E.2.1 39), .ref (E.2.1 40), .int (w.1 33), .ref (E.2.1 41), .int v, .ref (E.2.1 42), .ref (E.2.1 43), .int (w.1 35), .int (w.1 36), .int (w.1 37), .int (w.1 38), .ref (E.2.1 44), .ref (E.2.1 45), .ref (E.2.1 46), .ref (E.2.1 47), .ref (E.2.1 48), .ref (E.2.1 49), .ref (E.2.1 50), .ref (E.2.1 51), .int (w.1 39), .int (w.1 40)])) = cellsOf E (wI w 34 v) := by rfl
theorem wp_model_padMany (h : Cx X cc own nl fr lo) {index : Nat} (hl : Cond.fieldLink own index RX6 "padMany" "I" ∈ gT) {v : Int32} (d : decode cc pc = .ok (.putfield index, 3)) (kk : Wa X (wI w 34 v) (pc + 3) lv rest) : Wa X w pc lv (.int v :: .ref (Ad X 36) :: rest) := wa_putG h inX6 tyX6 tyX6_ok nmX6 36 rfl rfl 10 (by decide) hl rfl rfl (ty := .int) rfl rfl rfl (by show _ < _; exact Nat.le_of_ble_eq_true rfl) (wI w 34 v) (cs_model_padMany _ _ _) d kk
theorem wgN_model_padMany (h : Cx X cc own nl fr lo) {index : Nat} {host : String} (hl : Cond.fieldLinkNest own index RX6 "padMany" "I" host ∈ gN) (d : decode cc pc = .ok (.getfield index, 3)) (kk : Wa X w (pc + 3) lv (.int (w.1 34) :: rest)) : Wa X w pc lv (.ref (Ad X 36) :: rest) := wa_getNG h inX6 36 rfl rfl 10 (by decide) hl rfl rfl d kk
theorem wpN_model_padMany (h : Cx X cc own nl fr lo) {index : Nat} {host : String} (hl : Cond.fieldLinkNest own index RX6 "padMany" "I" host ∈ gN) {v : Int32} (d : decode cc pc = .ok (.putfield index, 3)) (kk : Wa X (wI w 34 v) (pc + 3) lv rest) : Wa X w pc lv (.int v :: .ref (Ad X 36) :: rest) := wa_putNG h inX6 tyX6 tyX6_ok nmX6 36 rfl rfl 10 (by decide) hl rfl rfl (ty := .int) rfl rfl rfl (by show _ < _; exact Nat.le_of_ble_eq_true rfl) (wI w 34 v) (cs_model_padMany _ _ _) d kk
theorem wg_model_event (h : Cx X cc own nl fr lo) {index : Nat} (hl : Cond.fieldLink own index RX6 "event" "[I" ∈ gT) (d : decode cc pc = .ok (.getfield index, 3)) (kk : Wa X w (pc + 3) lv (.ref (Ad X 42) :: rest)) : Wa X w pc lv (.ref (Ad X 36) :: rest) := wa_getG h inX6 36 rfl rfl 11 (by decide) hl rfl rfl d kk
theorem wgN_model_event (h : Cx X cc own nl fr lo) {index : Nat} {host : String} (hl : Cond.fieldLinkNest own index RX6 "event" "[I" host ∈ gN) (d : decode cc pc = .ok (.getfield index, 3)) (kk : Wa X w (pc + 3) lv (.ref (Ad X 42) :: rest)) : Wa X w pc lv (.ref (Ad X 36) :: rest) := wa_getNG h inX6 36 rfl rfl 11 (by decide) hl rfl rfl d kk
theorem wg_model_on (h : Cx X cc own nl fr lo) {index : Nat} (hl : Cond.fieldLink own index RX6 "on" "[I" ∈ gT) (d : decode cc pc = .ok (.getfield index, 3)) (kk : Wa X w (pc + 3) lv (.ref (Ad X 43) :: rest)) : Wa X w pc lv (.ref (Ad X 36) :: rest) := wa_getG h inX6 36 rfl rfl 12 (by decide) hl rfl rfl d kk
theorem wgN_model_on (h : Cx X cc own nl fr lo) {index : Nat} {host : String} (hl : Cond.fieldLinkNest own index RX6 "on" "[I" host ∈ gN) (d : decode cc pc = .ok (.getfield index, 3)) (kk : Wa X w (pc + 3) lv (.ref (Ad X 43) :: rest)) : Wa X w pc lv (.ref (Ad X 36) :: rest) := wa_getNG h inX6 36 rfl rfl 12 (by decide) hl rfl rfl d kk
theorem wg_model_lines (h : Cx X cc own nl fr lo) {index : Nat} (hl : Cond.fieldLink own index RX6 "lines" "I" ∈ gT) (d : decode cc pc = .ok (.getfield index, 3)) (kk : Wa X w (pc + 3) lv (.int (w.1 35) :: rest)) : Wa X w pc lv (.ref (Ad X 36) :: rest) := wa_getG h inX6 36 rfl rfl 13 (by decide) hl rfl rfl d kk
theorem cs_model_lines (E : ET) (w : Wd) (v : Int32) : (cellsOf E w).set 36 (E.2.1 36, .inr (6, [.int (w.1 29), .int (w.1 30), .int (w.1 31), .ref (E.2.1 37), .ref (E.2.1 38), .int (w.1 32), .ref (E.2.1 39), .ref (E.2.1 40), .int (w.1 33), .ref (E.2.1 41), .int (w.1 34), .ref (E.2.1 42), .ref (E.2.1 43), .int v, .int (w.1 36), .int (w.1 37), .int (w.1 38), .ref (E.2.1 44), .ref (E.2.1 45), .ref (E.2.1 46), .ref (E.2.1 47), .ref (E.2.1 48), .ref (E.2.1 49), .ref (E.2.1 50), .ref (E.2.1 51), .int (w.1 39), .int (w.1 40)])) = cellsOf E (wI w 35 v) := by rfl
theorem wp_model_lines (h : Cx X cc own nl fr lo) {index : Nat} (hl : Cond.fieldLink own index RX6 "lines" "I" ∈ gT) {v : Int32} (d : decode cc pc = .ok (.putfield index, 3)) (kk : Wa X (wI w 35 v) (pc + 3) lv rest) : Wa X w pc lv (.int v :: .ref (Ad X 36) :: rest) := wa_putG h inX6 tyX6 tyX6_ok nmX6 36 rfl rfl 13 (by decide) hl rfl rfl (ty := .int) rfl rfl rfl (by show _ < _; exact Nat.le_of_ble_eq_true rfl) (wI w 35 v) (cs_model_lines _ _ _) d kk
theorem wgN_model_lines (h : Cx X cc own nl fr lo) {index : Nat} {host : String} (hl : Cond.fieldLinkNest own index RX6 "lines" "I" host ∈ gN) (d : decode cc pc = .ok (.getfield index, 3)) (kk : Wa X w (pc + 3) lv (.int (w.1 35) :: rest)) : Wa X w pc lv (.ref (Ad X 36) :: rest) := wa_getNG h inX6 36 rfl rfl 13 (by decide) hl rfl rfl d kk
theorem wpN_model_lines (h : Cx X cc own nl fr lo) {index : Nat} {host : String} (hl : Cond.fieldLinkNest own index RX6 "lines" "I" host ∈ gN) {v : Int32} (d : decode cc pc = .ok (.putfield index, 3)) (kk : Wa X (wI w 35 v) (pc + 3) lv rest) : Wa X w pc lv (.int v :: .ref (Ad X 36) :: rest) := wa_putNG h inX6 tyX6 tyX6_ok nmX6 36 rfl rfl 13 (by decide) hl rfl rfl (ty := .int) rfl rfl rfl (by show _ < _; exact Nat.le_of_ble_eq_true rfl) (wI w 35 v) (cs_model_lines _ _ _) d kk
theorem wg_model_comings (h : Cx X cc own nl fr lo) {index : Nat} (hl : Cond.fieldLink own index RX6 "comings" "I" ∈ gT) (d : decode cc pc = .ok (.getfield index, 3)) (kk : Wa X w (pc + 3) lv (.int (w.1 36) :: rest)) : Wa X w pc lv (.ref (Ad X 36) :: rest) := wa_getG h inX6 36 rfl rfl 14 (by decide) hl rfl rfl d kk
theorem cs_model_comings (E : ET) (w : Wd) (v : Int32) : (cellsOf E w).set 36 (E.2.1 36, .inr (6, [.int (w.1 29), .int (w.1 30), .int (w.1 31), .ref (E.2.1 37), .ref (E.2.1 38), .int (w.1 32), .ref (E.2.1 39), .ref (E.2.1 40), .int (w.1 33), .ref (E.2.1 41), .int (w.1 34), .ref (E.2.1 42), .ref (E.2.1 43), .int (w.1 35), .int v, .int (w.1 37), .int (w.1 38), .ref (E.2.1 44), .ref (E.2.1 45), .ref (E.2.1 46), .ref (E.2.1 47), .ref (E.2.1 48), .ref (E.2.1 49), .ref (E.2.1 50), .ref (E.2.1 51), .int (w.1 39), .int (w.1 40)])) = cellsOf E (wI w 36 v) := by rfl
theorem wp_model_comings (h : Cx X cc own nl fr lo) {index : Nat} (hl : Cond.fieldLink own index RX6 "comings" "I" ∈ gT) {v : Int32} (d : decode cc pc = .ok (.putfield index, 3)) (kk : Wa X (wI w 36 v) (pc + 3) lv rest) : Wa X w pc lv (.int v :: .ref (Ad X 36) :: rest) := wa_putG h inX6 tyX6 tyX6_ok nmX6 36 rfl rfl 14 (by decide) hl rfl rfl (ty := .int) rfl rfl rfl (by show _ < _; exact Nat.le_of_ble_eq_true rfl) (wI w 36 v) (cs_model_comings _ _ _) d kk
theorem wgN_model_comings (h : Cx X cc own nl fr lo) {index : Nat} {host : String} (hl : Cond.fieldLinkNest own index RX6 "comings" "I" host ∈ gN) (d : decode cc pc = .ok (.getfield index, 3)) (kk : Wa X w (pc + 3) lv (.int (w.1 36) :: rest)) : Wa X w pc lv (.ref (Ad X 36) :: rest) := wa_getNG h inX6 36 rfl rfl 14 (by decide) hl rfl rfl d kk
theorem wpN_model_comings (h : Cx X cc own nl fr lo) {index : Nat} {host : String} (hl : Cond.fieldLinkNest own index RX6 "comings" "I" host ∈ gN) {v : Int32} (d : decode cc pc = .ok (.putfield index, 3)) (kk : Wa X (wI w 36 v) (pc + 3) lv rest) : Wa X w pc lv (.int v :: .ref (Ad X 36) :: rest) := wa_putNG h inX6 tyX6 tyX6_ok nmX6 36 rfl rfl 14 (by decide) hl rfl rfl (ty := .int) rfl rfl rfl (by show _ < _; exact Nat.le_of_ble_eq_true rfl) (wI w 36 v) (cs_model_comings _ _ _) d kk
theorem wg_model_badEvent (h : Cx X cc own nl fr lo) {index : Nat} (hl : Cond.fieldLink own index RX6 "badEvent" "I" ∈ gT) (d : decode cc pc = .ok (.getfield index, 3)) (kk : Wa X w (pc + 3) lv (.int (w.1 37) :: rest)) : Wa X w pc lv (.ref (Ad X 36) :: rest) := wa_getG h inX6 36 rfl rfl 15 (by decide) hl rfl rfl d kk
theorem cs_model_badEvent (E : ET) (w : Wd) (v : Int32) : (cellsOf E w).set 36 (E.2.1 36, .inr (6, [.int (w.1 29), .int (w.1 30), .int (w.1 31), .ref (E.2.1 37), .ref (E.2.1 38), .int (w.1 32), .ref (E.2.1 39), .ref (E.2.1 40), .int (w.1 33), .ref (E.2.1 41), .int (w.1 34), .ref (E.2.1 42), .ref (E.2.1 43), .int (w.1 35), .int (w.1 36), .int v, .int (w.1 38), .ref (E.2.1 44), .ref (E.2.1 45), .ref (E.2.1 46), .ref (E.2.1 47), .ref (E.2.1 48), .ref (E.2.1 49), .ref (E.2.1 50), .ref (E.2.1 51), .int (w.1 39), .int (w.1 40)])) = cellsOf E (wI w 37 v) := by rfl
theorem wp_model_badEvent (h : Cx X cc own nl fr lo) {index : Nat} (hl : Cond.fieldLink own index RX6 "badEvent" "I" ∈ gT) {v : Int32} (d : decode cc pc = .ok (.putfield index, 3)) (kk : Wa X (wI w 37 v) (pc + 3) lv rest) : Wa X w pc lv (.int v :: .ref (Ad X 36) :: rest) := wa_putG h inX6 tyX6 tyX6_ok nmX6 36 rfl rfl 15 (by decide) hl rfl rfl (ty := .int) rfl rfl rfl (by show _ < _; exact Nat.le_of_ble_eq_true rfl) (wI w 37 v) (cs_model_badEvent _ _ _) d kk
theorem wgN_model_badEvent (h : Cx X cc own nl fr lo) {index : Nat} {host : String} (hl : Cond.fieldLinkNest own index RX6 "badEvent" "I" host ∈ gN) (d : decode cc pc = .ok (.getfield index, 3)) (kk : Wa X w (pc + 3) lv (.int (w.1 37) :: rest)) : Wa X w pc lv (.ref (Ad X 36) :: rest) := wa_getNG h inX6 36 rfl rfl 15 (by decide) hl rfl rfl d kk
theorem wpN_model_badEvent (h : Cx X cc own nl fr lo) {index : Nat} {host : String} (hl : Cond.fieldLinkNest own index RX6 "badEvent" "I" host ∈ gN) {v : Int32} (d : decode cc pc = .ok (.putfield index, 3)) (kk : Wa X (wI w 37 v) (pc + 3) lv rest) : Wa X w pc lv (.int v :: .ref (Ad X 36) :: rest) := wa_putNG h inX6 tyX6 tyX6_ok nmX6 36 rfl rfl 15 (by decide) hl rfl rfl (ty := .int) rfl rfl rfl (by show _ < _; exact Nat.le_of_ble_eq_true rfl) (wI w 37 v) (cs_model_badEvent _ _ _) d kk
theorem wg_model_badWhy (h : Cx X cc own nl fr lo) {index : Nat} (hl : Cond.fieldLink own index RX6 "badWhy" "I" ∈ gT) (d : decode cc pc = .ok (.getfield index, 3)) (kk : Wa X w (pc + 3) lv (.int (w.1 38) :: rest)) : Wa X w pc lv (.ref (Ad X 36) :: rest) := wa_getG h inX6 36 rfl rfl 16 (by decide) hl rfl rfl d kk
theorem cs_model_badWhy (E : ET) (w : Wd) (v : Int32) : (cellsOf E w).set 36 (E.2.1 36, .inr (6, [.int (w.1 29), .int (w.1 30), .int (w.1 31), .ref (E.2.1 37), .ref (E.2.1 38), .int (w.1 32), .ref (E.2.1 39), .ref (E.2.1 40), .int (w.1 33), .ref (E.2.1 41), .int (w.1 34), .ref (E.2.1 42), .ref (E.2.1 43), .int (w.1 35), .int (w.1 36), .int (w.1 37), .int v, .ref (E.2.1 44), .ref (E.2.1 45), .ref (E.2.1 46), .ref (E.2.1 47), .ref (E.2.1 48), .ref (E.2.1 49), .ref (E.2.1 50), .ref (E.2.1 51), .int (w.1 39), .int (w.1 40)])) = cellsOf E (wI w 38 v) := by rfl
theorem wp_model_badWhy (h : Cx X cc own nl fr lo) {index : Nat} (hl : Cond.fieldLink own index RX6 "badWhy" "I" ∈ gT) {v : Int32} (d : decode cc pc = .ok (.putfield index, 3)) (kk : Wa X (wI w 38 v) (pc + 3) lv rest) : Wa X w pc lv (.int v :: .ref (Ad X 36) :: rest) := wa_putG h inX6 tyX6 tyX6_ok nmX6 36 rfl rfl 16 (by decide) hl rfl rfl (ty := .int) rfl rfl rfl (by show _ < _; exact Nat.le_of_ble_eq_true rfl) (wI w 38 v) (cs_model_badWhy _ _ _) d kk
theorem wgN_model_badWhy (h : Cx X cc own nl fr lo) {index : Nat} {host : String} (hl : Cond.fieldLinkNest own index RX6 "badWhy" "I" host ∈ gN) (d : decode cc pc = .ok (.getfield index, 3)) (kk : Wa X w (pc + 3) lv (.int (w.1 38) :: rest)) : Wa X w pc lv (.ref (Ad X 36) :: rest) := wa_getNG h inX6 36 rfl rfl 16 (by decide) hl rfl rfl d kk
theorem wpN_model_badWhy (h : Cx X cc own nl fr lo) {index : Nat} {host : String} (hl : Cond.fieldLinkNest own index RX6 "badWhy" "I" host ∈ gN) {v : Int32} (d : decode cc pc = .ok (.putfield index, 3)) (kk : Wa X (wI w 38 v) (pc + 3) lv rest) : Wa X w pc lv (.int v :: .ref (Ad X 36) :: rest) := wa_putNG h inX6 tyX6 tyX6_ok nmX6 36 rfl rfl 16 (by decide) hl rfl rfl (ty := .int) rfl rfl rfl (by show _ < _; exact Nat.le_of_ble_eq_true rfl) (wI w 38 v) (cs_model_badWhy _ _ _) d kk
theorem wg_model_stay (h : Cx X cc own nl fr lo) {index : Nat} (hl : Cond.fieldLink own index RX6 "stay" "[I" ∈ gT) (d : decode cc pc = .ok (.getfield index, 3)) (kk : Wa X w (pc + 3) lv (.ref (Ad X 44) :: rest)) : Wa X w pc lv (.ref (Ad X 36) :: rest) := wa_getG h inX6 36 rfl rfl 17 (by decide) hl rfl rfl d kk
theorem wgN_model_stay (h : Cx X cc own nl fr lo) {index : Nat} {host : String} (hl : Cond.fieldLinkNest own index RX6 "stay" "[I" host ∈ gN) (d : decode cc pc = .ok (.getfield index, 3)) (kk : Wa X w (pc + 3) lv (.ref (Ad X 44) :: rest)) : Wa X w pc lv (.ref (Ad X 36) :: rest) := wa_getNG h inX6 36 rfl rfl 17 (by decide) hl rfl rfl d kk
theorem wg_model_player (h : Cx X cc own nl fr lo) {index : Nat} (hl : Cond.fieldLink own index RX6 "player" "[I" ∈ gT) (d : decode cc pc = .ok (.getfield index, 3)) (kk : Wa X w (pc + 3) lv (.ref (Ad X 45) :: rest)) : Wa X w pc lv (.ref (Ad X 36) :: rest) := wa_getG h inX6 36 rfl rfl 18 (by decide) hl rfl rfl d kk
theorem wgN_model_player (h : Cx X cc own nl fr lo) {index : Nat} {host : String} (hl : Cond.fieldLinkNest own index RX6 "player" "[I" host ∈ gN) (d : decode cc pc = .ok (.getfield index, 3)) (kk : Wa X w (pc + 3) lv (.ref (Ad X 45) :: rest)) : Wa X w pc lv (.ref (Ad X 36) :: rest) := wa_getNG h inX6 36 rfl rfl 18 (by decide) hl rfl rfl d kk
theorem wg_model_bestPlayer (h : Cx X cc own nl fr lo) {index : Nat} (hl : Cond.fieldLink own index RX6 "bestPlayer" "[I" ∈ gT) (d : decode cc pc = .ok (.getfield index, 3)) (kk : Wa X w (pc + 3) lv (.ref (Ad X 46) :: rest)) : Wa X w pc lv (.ref (Ad X 36) :: rest) := wa_getG h inX6 36 rfl rfl 19 (by decide) hl rfl rfl d kk
theorem wgN_model_bestPlayer (h : Cx X cc own nl fr lo) {index : Nat} {host : String} (hl : Cond.fieldLinkNest own index RX6 "bestPlayer" "[I" host ∈ gN) (d : decode cc pc = .ok (.getfield index, 3)) (kk : Wa X w (pc + 3) lv (.ref (Ad X 46) :: rest)) : Wa X w pc lv (.ref (Ad X 36) :: rest) := wa_getNG h inX6 36 rfl rfl 19 (by decide) hl rfl rfl d kk
theorem wg_model_row (h : Cx X cc own nl fr lo) {index : Nat} (hl : Cond.fieldLink own index RX6 "row" "[I" ∈ gT) (d : decode cc pc = .ok (.getfield index, 3)) (kk : Wa X w (pc + 3) lv (.ref (Ad X 47) :: rest)) : Wa X w pc lv (.ref (Ad X 36) :: rest) := wa_getG h inX6 36 rfl rfl 20 (by decide) hl rfl rfl d kk
theorem wgN_model_row (h : Cx X cc own nl fr lo) {index : Nat} {host : String} (hl : Cond.fieldLinkNest own index RX6 "row" "[I" host ∈ gN) (d : decode cc pc = .ok (.getfield index, 3)) (kk : Wa X w (pc + 3) lv (.ref (Ad X 47) :: rest)) : Wa X w pc lv (.ref (Ad X 36) :: rest) := wa_getNG h inX6 36 rfl rfl 20 (by decide) hl rfl rfl d kk
theorem wg_model_bestRow (h : Cx X cc own nl fr lo) {index : Nat} (hl : Cond.fieldLink own index RX6 "bestRow" "[I" ∈ gT) (d : decode cc pc = .ok (.getfield index, 3)) (kk : Wa X w (pc + 3) lv (.ref (Ad X 48) :: rest)) : Wa X w pc lv (.ref (Ad X 36) :: rest) := wa_getG h inX6 36 rfl rfl 21 (by decide) hl rfl rfl d kk
theorem wgN_model_bestRow (h : Cx X cc own nl fr lo) {index : Nat} {host : String} (hl : Cond.fieldLinkNest own index RX6 "bestRow" "[I" host ∈ gN) (d : decode cc pc = .ok (.getfield index, 3)) (kk : Wa X w (pc + 3) lv (.ref (Ad X 48) :: rest)) : Wa X w pc lv (.ref (Ad X 36) :: rest) := wa_getNG h inX6 36 rfl rfl 21 (by decide) hl rfl rfl d kk
theorem wg_model_filler (h : Cx X cc own nl fr lo) {index : Nat} (hl : Cond.fieldLink own index RX6 "filler" "[I" ∈ gT) (d : decode cc pc = .ok (.getfield index, 3)) (kk : Wa X w (pc + 3) lv (.ref (Ad X 49) :: rest)) : Wa X w pc lv (.ref (Ad X 36) :: rest) := wa_getG h inX6 36 rfl rfl 22 (by decide) hl rfl rfl d kk
theorem wgN_model_filler (h : Cx X cc own nl fr lo) {index : Nat} {host : String} (hl : Cond.fieldLinkNest own index RX6 "filler" "[I" host ∈ gN) (d : decode cc pc = .ok (.getfield index, 3)) (kk : Wa X w (pc + 3) lv (.ref (Ad X 49) :: rest)) : Wa X w pc lv (.ref (Ad X 36) :: rest) := wa_getNG h inX6 36 rfl rfl 22 (by decide) hl rfl rfl d kk
theorem wg_model_kept (h : Cx X cc own nl fr lo) {index : Nat} (hl : Cond.fieldLink own index RX6 "kept" "[I" ∈ gT) (d : decode cc pc = .ok (.getfield index, 3)) (kk : Wa X w (pc + 3) lv (.ref (Ad X 50) :: rest)) : Wa X w pc lv (.ref (Ad X 36) :: rest) := wa_getG h inX6 36 rfl rfl 23 (by decide) hl rfl rfl d kk
theorem wgN_model_kept (h : Cx X cc own nl fr lo) {index : Nat} {host : String} (hl : Cond.fieldLinkNest own index RX6 "kept" "[I" host ∈ gN) (d : decode cc pc = .ok (.getfield index, 3)) (kk : Wa X w (pc + 3) lv (.ref (Ad X 50) :: rest)) : Wa X w pc lv (.ref (Ad X 36) :: rest) := wa_getNG h inX6 36 rfl rfl 23 (by decide) hl rfl rfl d kk
theorem wg_model_isKept (h : Cx X cc own nl fr lo) {index : Nat} (hl : Cond.fieldLink own index RX6 "isKept" "[Z" ∈ gT) (d : decode cc pc = .ok (.getfield index, 3)) (kk : Wa X w (pc + 3) lv (.ref (Ad X 51) :: rest)) : Wa X w pc lv (.ref (Ad X 36) :: rest) := wa_getG h inX6 36 rfl rfl 24 (by decide) hl rfl rfl d kk
theorem wgN_model_isKept (h : Cx X cc own nl fr lo) {index : Nat} {host : String} (hl : Cond.fieldLinkNest own index RX6 "isKept" "[Z" host ∈ gN) (d : decode cc pc = .ok (.getfield index, 3)) (kk : Wa X w (pc + 3) lv (.ref (Ad X 51) :: rest)) : Wa X w pc lv (.ref (Ad X 36) :: rest) := wa_getNG h inX6 36 rfl rfl 24 (by decide) hl rfl rfl d kk
theorem wg_model_keptAt (h : Cx X cc own nl fr lo) {index : Nat} (hl : Cond.fieldLink own index RX6 "keptAt" "I" ∈ gT) (d : decode cc pc = .ok (.getfield index, 3)) (kk : Wa X w (pc + 3) lv (.int (w.1 39) :: rest)) : Wa X w pc lv (.ref (Ad X 36) :: rest) := wa_getG h inX6 36 rfl rfl 25 (by decide) hl rfl rfl d kk
theorem cs_model_keptAt (E : ET) (w : Wd) (v : Int32) : (cellsOf E w).set 36 (E.2.1 36, .inr (6, [.int (w.1 29), .int (w.1 30), .int (w.1 31), .ref (E.2.1 37), .ref (E.2.1 38), .int (w.1 32), .ref (E.2.1 39), .ref (E.2.1 40), .int (w.1 33), .ref (E.2.1 41), .int (w.1 34), .ref (E.2.1 42), .ref (E.2.1 43), .int (w.1 35), .int (w.1 36), .int (w.1 37), .int (w.1 38), .ref (E.2.1 44), .ref (E.2.1 45), .ref (E.2.1 46), .ref (E.2.1 47), .ref (E.2.1 48), .ref (E.2.1 49), .ref (E.2.1 50), .ref (E.2.1 51), .int v, .int (w.1 40)])) = cellsOf E (wI w 39 v) := by rfl
theorem wp_model_keptAt (h : Cx X cc own nl fr lo) {index : Nat} (hl : Cond.fieldLink own index RX6 "keptAt" "I" ∈ gT) {v : Int32} (d : decode cc pc = .ok (.putfield index, 3)) (kk : Wa X (wI w 39 v) (pc + 3) lv rest) : Wa X w pc lv (.int v :: .ref (Ad X 36) :: rest) := wa_putG h inX6 tyX6 tyX6_ok nmX6 36 rfl rfl 25 (by decide) hl rfl rfl (ty := .int) rfl rfl rfl (by show _ < _; exact Nat.le_of_ble_eq_true rfl) (wI w 39 v) (cs_model_keptAt _ _ _) d kk
theorem wgN_model_keptAt (h : Cx X cc own nl fr lo) {index : Nat} {host : String} (hl : Cond.fieldLinkNest own index RX6 "keptAt" "I" host ∈ gN) (d : decode cc pc = .ok (.getfield index, 3)) (kk : Wa X w (pc + 3) lv (.int (w.1 39) :: rest)) : Wa X w pc lv (.ref (Ad X 36) :: rest) := wa_getNG h inX6 36 rfl rfl 25 (by decide) hl rfl rfl d kk
theorem wpN_model_keptAt (h : Cx X cc own nl fr lo) {index : Nat} {host : String} (hl : Cond.fieldLinkNest own index RX6 "keptAt" "I" host ∈ gN) {v : Int32} (d : decode cc pc = .ok (.putfield index, 3)) (kk : Wa X (wI w 39 v) (pc + 3) lv rest) : Wa X w pc lv (.int v :: .ref (Ad X 36) :: rest) := wa_putNG h inX6 tyX6 tyX6_ok nmX6 36 rfl rfl 25 (by decide) hl rfl rfl (ty := .int) rfl rfl rfl (by show _ < _; exact Nat.le_of_ble_eq_true rfl) (wI w 39 v) (cs_model_keptAt _ _ _) d kk
theorem wg_model_isWriting (h : Cx X cc own nl fr lo) {index : Nat} (hl : Cond.fieldLink own index RX6 "isWriting" "Z" ∈ gT) (d : decode cc pc = .ok (.getfield index, 3)) (kk : Wa X w (pc + 3) lv (.int (w.1 40) :: rest)) : Wa X w pc lv (.ref (Ad X 36) :: rest) := wa_getG h inX6 36 rfl rfl 26 (by decide) hl rfl rfl d kk
theorem cs_model_isWriting (E : ET) (w : Wd) (v : Int32) : (cellsOf E w).set 36 (E.2.1 36, .inr (6, [.int (w.1 29), .int (w.1 30), .int (w.1 31), .ref (E.2.1 37), .ref (E.2.1 38), .int (w.1 32), .ref (E.2.1 39), .ref (E.2.1 40), .int (w.1 33), .ref (E.2.1 41), .int (w.1 34), .ref (E.2.1 42), .ref (E.2.1 43), .int (w.1 35), .int (w.1 36), .int (w.1 37), .int (w.1 38), .ref (E.2.1 44), .ref (E.2.1 45), .ref (E.2.1 46), .ref (E.2.1 47), .ref (E.2.1 48), .ref (E.2.1 49), .ref (E.2.1 50), .ref (E.2.1 51), .int (w.1 39), .int v])) = cellsOf E (wI w 40 v) := by rfl
theorem wp_model_isWriting (h : Cx X cc own nl fr lo) {index : Nat} (hl : Cond.fieldLink own index RX6 "isWriting" "Z" ∈ gT) {v : Int32} (hv : v = 0 ∨ v = 1) (d : decode cc pc = .ok (.putfield index, 3)) (kk : Wa X (wI w 40 v) (pc + 3) lv rest) : Wa X w pc lv (.int v :: .ref (Ad X 36) :: rest) := wa_putG h inX6 tyX6 tyX6_ok nmX6 36 rfl rfl 26 (by decide) hl rfl rfl (ty := .boolean) rfl (nar_b hv) (fit_b hv) (by show _ < _; exact Nat.le_of_ble_eq_true rfl) (wI w 40 v) (cs_model_isWriting _ _ _) d kk
theorem wgN_model_isWriting (h : Cx X cc own nl fr lo) {index : Nat} {host : String} (hl : Cond.fieldLinkNest own index RX6 "isWriting" "Z" host ∈ gN) (d : decode cc pc = .ok (.getfield index, 3)) (kk : Wa X w (pc + 3) lv (.int (w.1 40) :: rest)) : Wa X w pc lv (.ref (Ad X 36) :: rest) := wa_getNG h inX6 36 rfl rfl 26 (by decide) hl rfl rfl d kk
theorem wpN_model_isWriting (h : Cx X cc own nl fr lo) {index : Nat} {host : String} (hl : Cond.fieldLinkNest own index RX6 "isWriting" "Z" host ∈ gN) {v : Int32} (hv : v = 0 ∨ v = 1) (d : decode cc pc = .ok (.putfield index, 3)) (kk : Wa X (wI w 40 v) (pc + 3) lv rest) : Wa X w pc lv (.int v :: .ref (Ad X 36) :: rest) := wa_putNG h inX6 tyX6 tyX6_ok nmX6 36 rfl rfl 26 (by decide) hl rfl rfl (ty := .boolean) rfl (nar_b hv) (fit_b hv) (by show _ < _; exact Nat.le_of_ble_eq_true rfl) (wI w 40 v) (cs_model_isWriting _ _ _) d kk
theorem ct_model_may (E : ET) (w : Wd) (f : Nat → Int32) : (cellsOf E w).set 37 (E.2.1 37, .inl (E.2.2 0, 64, .inl f)) = cellsOf E (wR w 37 f) := by rfl
theorem wl_model_may (h : Cx X cc own nl fr lo) {i : Int32} (hg : gd i 64 = true) (d : decode cc pc = .ok (.iaload, 1)) (kk : Wa X w (pc + 1) lv (.int (w.2.1 37 i.toNatClampNeg) :: rest)) : Wa X w pc lv (.int i :: .ref (Ad X 37) :: rest) := wa_ialdG h 37 rfl hg d kk
theorem ws_model_may (h : Cx X cc own nl fr lo) {i v : Int32} (hg : gd i 64 = true) (d : decode cc pc = .ok (.iastore, 1)) (kk : Wa X (wA w 37 i v) (pc + 1) lv rest) : Wa X w pc lv (.int v :: .int i :: .ref (Ad X 37) :: rest) := wa_iastG h 37 rfl hg (wA w 37 i v) (ct_model_may _ _ _) d kk
theorem wn_model_may (h : Cx X cc own nl fr lo) (d : decode cc pc = .ok (.arraylength, 1)) (kk : Wa X w (pc + 1) lv (.int 64 :: rest)) : Wa X w pc lv (.ref (Ad X 37) :: rest) := wa_alenG h 37 rfl 64 rfl d kk
theorem ct_model_scene (E : ET) (w : Wd) (f : Nat → Int32) : (cellsOf E w).set 38 (E.2.1 38, .inl (E.2.2 0, 6, .inl f)) = cellsOf E (wR w 38 f) := by rfl
theorem wl_model_scene (h : Cx X cc own nl fr lo) {i : Int32} (hg : gd i 6 = true) (d : decode cc pc = .ok (.iaload, 1)) (kk : Wa X w (pc + 1) lv (.int (w.2.1 38 i.toNatClampNeg) :: rest)) : Wa X w pc lv (.int i :: .ref (Ad X 38) :: rest) := wa_ialdG h 38 rfl hg d kk
theorem ws_model_scene (h : Cx X cc own nl fr lo) {i v : Int32} (hg : gd i 6 = true) (d : decode cc pc = .ok (.iastore, 1)) (kk : Wa X (wA w 38 i v) (pc + 1) lv rest) : Wa X w pc lv (.int v :: .int i :: .ref (Ad X 38) :: rest) := wa_iastG h 38 rfl hg (wA w 38 i v) (ct_model_scene _ _ _) d kk
theorem wn_model_scene (h : Cx X cc own nl fr lo) (d : decode cc pc = .ok (.arraylength, 1)) (kk : Wa X w (pc + 1) lv (.int 6 :: rest)) : Wa X w pc lv (.ref (Ad X 38) :: rest) := wa_alenG h 38 rfl 6 rfl d kk
theorem ct_model_sightLine (E : ET) (w : Wd) (f : Nat → Int32) : (cellsOf E w).set 39 (E.2.1 39, .inl (E.2.2 0, 6, .inl f)) = cellsOf E (wR w 39 f) := by rfl
theorem wl_model_sightLine (h : Cx X cc own nl fr lo) {i : Int32} (hg : gd i 6 = true) (d : decode cc pc = .ok (.iaload, 1)) (kk : Wa X w (pc + 1) lv (.int (w.2.1 39 i.toNatClampNeg) :: rest)) : Wa X w pc lv (.int i :: .ref (Ad X 39) :: rest) := wa_ialdG h 39 rfl hg d kk
theorem ws_model_sightLine (h : Cx X cc own nl fr lo) {i v : Int32} (hg : gd i 6 = true) (d : decode cc pc = .ok (.iastore, 1)) (kk : Wa X (wA w 39 i v) (pc + 1) lv rest) : Wa X w pc lv (.int v :: .int i :: .ref (Ad X 39) :: rest) := wa_iastG h 39 rfl hg (wA w 39 i v) (ct_model_sightLine _ _ _) d kk
theorem wn_model_sightLine (h : Cx X cc own nl fr lo) (d : decode cc pc = .ok (.arraylength, 1)) (kk : Wa X w (pc + 1) lv (.int 6 :: rest)) : Wa X w pc lv (.ref (Ad X 39) :: rest) := wa_alenG h 39 rfl 6 rfl d kk
theorem ct_model_sightMany (E : ET) (w : Wd) (f : Nat → Int32) : (cellsOf E w).set 40 (E.2.1 40, .inl (E.2.2 0, 6, .inl f)) = cellsOf E (wR w 40 f) := by rfl
theorem wl_model_sightMany (h : Cx X cc own nl fr lo) {i : Int32} (hg : gd i 6 = true) (d : decode cc pc = .ok (.iaload, 1)) (kk : Wa X w (pc + 1) lv (.int (w.2.1 40 i.toNatClampNeg) :: rest)) : Wa X w pc lv (.int i :: .ref (Ad X 40) :: rest) := wa_ialdG h 40 rfl hg d kk
theorem ws_model_sightMany (h : Cx X cc own nl fr lo) {i v : Int32} (hg : gd i 6 = true) (d : decode cc pc = .ok (.iastore, 1)) (kk : Wa X (wA w 40 i v) (pc + 1) lv rest) : Wa X w pc lv (.int v :: .int i :: .ref (Ad X 40) :: rest) := wa_iastG h 40 rfl hg (wA w 40 i v) (ct_model_sightMany _ _ _) d kk
theorem wn_model_sightMany (h : Cx X cc own nl fr lo) (d : decode cc pc = .ok (.arraylength, 1)) (kk : Wa X w (pc + 1) lv (.int 6 :: rest)) : Wa X w pc lv (.ref (Ad X 40) :: rest) := wa_alenG h 40 rfl 6 rfl d kk
theorem ct_model_pad (E : ET) (w : Wd) (f : Nat → Int32) : (cellsOf E w).set 41 (E.2.1 41, .inl (E.2.2 0, 40, .inl f)) = cellsOf E (wR w 41 f) := by rfl
theorem wl_model_pad (h : Cx X cc own nl fr lo) {i : Int32} (hg : gd i 40 = true) (d : decode cc pc = .ok (.iaload, 1)) (kk : Wa X w (pc + 1) lv (.int (w.2.1 41 i.toNatClampNeg) :: rest)) : Wa X w pc lv (.int i :: .ref (Ad X 41) :: rest) := wa_ialdG h 41 rfl hg d kk
theorem ws_model_pad (h : Cx X cc own nl fr lo) {i v : Int32} (hg : gd i 40 = true) (d : decode cc pc = .ok (.iastore, 1)) (kk : Wa X (wA w 41 i v) (pc + 1) lv rest) : Wa X w pc lv (.int v :: .int i :: .ref (Ad X 41) :: rest) := wa_iastG h 41 rfl hg (wA w 41 i v) (ct_model_pad _ _ _) d kk
theorem wn_model_pad (h : Cx X cc own nl fr lo) (d : decode cc pc = .ok (.arraylength, 1)) (kk : Wa X w (pc + 1) lv (.int 40 :: rest)) : Wa X w pc lv (.ref (Ad X 41) :: rest) := wa_alenG h 41 rfl 40 rfl d kk
theorem ct_model_event (E : ET) (w : Wd) (f : Nat → Int32) : (cellsOf E w).set 42 (E.2.1 42, .inl (E.2.2 0, 40, .inl f)) = cellsOf E (wR w 42 f) := by rfl
theorem wl_model_event (h : Cx X cc own nl fr lo) {i : Int32} (hg : gd i 40 = true) (d : decode cc pc = .ok (.iaload, 1)) (kk : Wa X w (pc + 1) lv (.int (w.2.1 42 i.toNatClampNeg) :: rest)) : Wa X w pc lv (.int i :: .ref (Ad X 42) :: rest) := wa_ialdG h 42 rfl hg d kk
theorem ws_model_event (h : Cx X cc own nl fr lo) {i v : Int32} (hg : gd i 40 = true) (d : decode cc pc = .ok (.iastore, 1)) (kk : Wa X (wA w 42 i v) (pc + 1) lv rest) : Wa X w pc lv (.int v :: .int i :: .ref (Ad X 42) :: rest) := wa_iastG h 42 rfl hg (wA w 42 i v) (ct_model_event _ _ _) d kk
theorem wn_model_event (h : Cx X cc own nl fr lo) (d : decode cc pc = .ok (.arraylength, 1)) (kk : Wa X w (pc + 1) lv (.int 40 :: rest)) : Wa X w pc lv (.ref (Ad X 42) :: rest) := wa_alenG h 42 rfl 40 rfl d kk
theorem ct_model_on (E : ET) (w : Wd) (f : Nat → Int32) : (cellsOf E w).set 43 (E.2.1 43, .inl (E.2.2 0, 40, .inl f)) = cellsOf E (wR w 43 f) := by rfl
theorem wl_model_on (h : Cx X cc own nl fr lo) {i : Int32} (hg : gd i 40 = true) (d : decode cc pc = .ok (.iaload, 1)) (kk : Wa X w (pc + 1) lv (.int (w.2.1 43 i.toNatClampNeg) :: rest)) : Wa X w pc lv (.int i :: .ref (Ad X 43) :: rest) := wa_ialdG h 43 rfl hg d kk
theorem ws_model_on (h : Cx X cc own nl fr lo) {i v : Int32} (hg : gd i 40 = true) (d : decode cc pc = .ok (.iastore, 1)) (kk : Wa X (wA w 43 i v) (pc + 1) lv rest) : Wa X w pc lv (.int v :: .int i :: .ref (Ad X 43) :: rest) := wa_iastG h 43 rfl hg (wA w 43 i v) (ct_model_on _ _ _) d kk
theorem wn_model_on (h : Cx X cc own nl fr lo) (d : decode cc pc = .ok (.arraylength, 1)) (kk : Wa X w (pc + 1) lv (.int 40 :: rest)) : Wa X w pc lv (.ref (Ad X 43) :: rest) := wa_alenG h 43 rfl 40 rfl d kk
theorem ct_model_stay (E : ET) (w : Wd) (f : Nat → Int32) : (cellsOf E w).set 44 (E.2.1 44, .inl (E.2.2 0, 40, .inl f)) = cellsOf E (wR w 44 f) := by rfl
theorem wl_model_stay (h : Cx X cc own nl fr lo) {i : Int32} (hg : gd i 40 = true) (d : decode cc pc = .ok (.iaload, 1)) (kk : Wa X w (pc + 1) lv (.int (w.2.1 44 i.toNatClampNeg) :: rest)) : Wa X w pc lv (.int i :: .ref (Ad X 44) :: rest) := wa_ialdG h 44 rfl hg d kk
theorem ws_model_stay (h : Cx X cc own nl fr lo) {i v : Int32} (hg : gd i 40 = true) (d : decode cc pc = .ok (.iastore, 1)) (kk : Wa X (wA w 44 i v) (pc + 1) lv rest) : Wa X w pc lv (.int v :: .int i :: .ref (Ad X 44) :: rest) := wa_iastG h 44 rfl hg (wA w 44 i v) (ct_model_stay _ _ _) d kk
theorem wn_model_stay (h : Cx X cc own nl fr lo) (d : decode cc pc = .ok (.arraylength, 1)) (kk : Wa X w (pc + 1) lv (.int 40 :: rest)) : Wa X w pc lv (.ref (Ad X 44) :: rest) := wa_alenG h 44 rfl 40 rfl d kk
theorem ct_model_player (E : ET) (w : Wd) (f : Nat → Int32) : (cellsOf E w).set 45 (E.2.1 45, .inl (E.2.2 0, 8, .inl f)) = cellsOf E (wR w 45 f) := by rfl
theorem wl_model_player (h : Cx X cc own nl fr lo) {i : Int32} (hg : gd i 8 = true) (d : decode cc pc = .ok (.iaload, 1)) (kk : Wa X w (pc + 1) lv (.int (w.2.1 45 i.toNatClampNeg) :: rest)) : Wa X w pc lv (.int i :: .ref (Ad X 45) :: rest) := wa_ialdG h 45 rfl hg d kk
theorem ws_model_player (h : Cx X cc own nl fr lo) {i v : Int32} (hg : gd i 8 = true) (d : decode cc pc = .ok (.iastore, 1)) (kk : Wa X (wA w 45 i v) (pc + 1) lv rest) : Wa X w pc lv (.int v :: .int i :: .ref (Ad X 45) :: rest) := wa_iastG h 45 rfl hg (wA w 45 i v) (ct_model_player _ _ _) d kk
theorem wn_model_player (h : Cx X cc own nl fr lo) (d : decode cc pc = .ok (.arraylength, 1)) (kk : Wa X w (pc + 1) lv (.int 8 :: rest)) : Wa X w pc lv (.ref (Ad X 45) :: rest) := wa_alenG h 45 rfl 8 rfl d kk
theorem ct_model_bestPlayer (E : ET) (w : Wd) (f : Nat → Int32) : (cellsOf E w).set 46 (E.2.1 46, .inl (E.2.2 0, 8, .inl f)) = cellsOf E (wR w 46 f) := by rfl
theorem wl_model_bestPlayer (h : Cx X cc own nl fr lo) {i : Int32} (hg : gd i 8 = true) (d : decode cc pc = .ok (.iaload, 1)) (kk : Wa X w (pc + 1) lv (.int (w.2.1 46 i.toNatClampNeg) :: rest)) : Wa X w pc lv (.int i :: .ref (Ad X 46) :: rest) := wa_ialdG h 46 rfl hg d kk
theorem ws_model_bestPlayer (h : Cx X cc own nl fr lo) {i v : Int32} (hg : gd i 8 = true) (d : decode cc pc = .ok (.iastore, 1)) (kk : Wa X (wA w 46 i v) (pc + 1) lv rest) : Wa X w pc lv (.int v :: .int i :: .ref (Ad X 46) :: rest) := wa_iastG h 46 rfl hg (wA w 46 i v) (ct_model_bestPlayer _ _ _) d kk
theorem wn_model_bestPlayer (h : Cx X cc own nl fr lo) (d : decode cc pc = .ok (.arraylength, 1)) (kk : Wa X w (pc + 1) lv (.int 8 :: rest)) : Wa X w pc lv (.ref (Ad X 46) :: rest) := wa_alenG h 46 rfl 8 rfl d kk
theorem ct_model_row (E : ET) (w : Wd) (f : Nat → Int32) : (cellsOf E w).set 47 (E.2.1 47, .inl (E.2.2 0, 6, .inl f)) = cellsOf E (wR w 47 f) := by rfl
theorem wl_model_row (h : Cx X cc own nl fr lo) {i : Int32} (hg : gd i 6 = true) (d : decode cc pc = .ok (.iaload, 1)) (kk : Wa X w (pc + 1) lv (.int (w.2.1 47 i.toNatClampNeg) :: rest)) : Wa X w pc lv (.int i :: .ref (Ad X 47) :: rest) := wa_ialdG h 47 rfl hg d kk
theorem ws_model_row (h : Cx X cc own nl fr lo) {i v : Int32} (hg : gd i 6 = true) (d : decode cc pc = .ok (.iastore, 1)) (kk : Wa X (wA w 47 i v) (pc + 1) lv rest) : Wa X w pc lv (.int v :: .int i :: .ref (Ad X 47) :: rest) := wa_iastG h 47 rfl hg (wA w 47 i v) (ct_model_row _ _ _) d kk
theorem wn_model_row (h : Cx X cc own nl fr lo) (d : decode cc pc = .ok (.arraylength, 1)) (kk : Wa X w (pc + 1) lv (.int 6 :: rest)) : Wa X w pc lv (.ref (Ad X 47) :: rest) := wa_alenG h 47 rfl 6 rfl d kk
theorem ct_model_bestRow (E : ET) (w : Wd) (f : Nat → Int32) : (cellsOf E w).set 48 (E.2.1 48, .inl (E.2.2 0, 6, .inl f)) = cellsOf E (wR w 48 f) := by rfl
theorem wl_model_bestRow (h : Cx X cc own nl fr lo) {i : Int32} (hg : gd i 6 = true) (d : decode cc pc = .ok (.iaload, 1)) (kk : Wa X w (pc + 1) lv (.int (w.2.1 48 i.toNatClampNeg) :: rest)) : Wa X w pc lv (.int i :: .ref (Ad X 48) :: rest) := wa_ialdG h 48 rfl hg d kk
theorem ws_model_bestRow (h : Cx X cc own nl fr lo) {i v : Int32} (hg : gd i 6 = true) (d : decode cc pc = .ok (.iastore, 1)) (kk : Wa X (wA w 48 i v) (pc + 1) lv rest) : Wa X w pc lv (.int v :: .int i :: .ref (Ad X 48) :: rest) := wa_iastG h 48 rfl hg (wA w 48 i v) (ct_model_bestRow _ _ _) d kk
theorem wn_model_bestRow (h : Cx X cc own nl fr lo) (d : decode cc pc = .ok (.arraylength, 1)) (kk : Wa X w (pc + 1) lv (.int 6 :: rest)) : Wa X w pc lv (.ref (Ad X 48) :: rest) := wa_alenG h 48 rfl 6 rfl d kk
theorem ct_model_filler (E : ET) (w : Wd) (f : Nat → Int32) : (cellsOf E w).set 49 (E.2.1 49, .inl (E.2.2 0, 3, .inl f)) = cellsOf E (wR w 49 f) := by rfl
theorem wl_model_filler (h : Cx X cc own nl fr lo) {i : Int32} (hg : gd i 3 = true) (d : decode cc pc = .ok (.iaload, 1)) (kk : Wa X w (pc + 1) lv (.int (w.2.1 49 i.toNatClampNeg) :: rest)) : Wa X w pc lv (.int i :: .ref (Ad X 49) :: rest) := wa_ialdG h 49 rfl hg d kk
theorem ws_model_filler (h : Cx X cc own nl fr lo) {i v : Int32} (hg : gd i 3 = true) (d : decode cc pc = .ok (.iastore, 1)) (kk : Wa X (wA w 49 i v) (pc + 1) lv rest) : Wa X w pc lv (.int v :: .int i :: .ref (Ad X 49) :: rest) := wa_iastG h 49 rfl hg (wA w 49 i v) (ct_model_filler _ _ _) d kk
theorem wn_model_filler (h : Cx X cc own nl fr lo) (d : decode cc pc = .ok (.arraylength, 1)) (kk : Wa X w (pc + 1) lv (.int 3 :: rest)) : Wa X w pc lv (.ref (Ad X 49) :: rest) := wa_alenG h 49 rfl 3 rfl d kk
theorem ct_model_kept (E : ET) (w : Wd) (f : Nat → Int32) : (cellsOf E w).set 50 (E.2.1 50, .inl (E.2.2 0, 200, .inl f)) = cellsOf E (wR w 50 f) := by rfl
theorem wl_model_kept (h : Cx X cc own nl fr lo) {i : Int32} (hg : gd i 200 = true) (d : decode cc pc = .ok (.iaload, 1)) (kk : Wa X w (pc + 1) lv (.int (w.2.1 50 i.toNatClampNeg) :: rest)) : Wa X w pc lv (.int i :: .ref (Ad X 50) :: rest) := wa_ialdG h 50 rfl hg d kk
theorem ws_model_kept (h : Cx X cc own nl fr lo) {i v : Int32} (hg : gd i 200 = true) (d : decode cc pc = .ok (.iastore, 1)) (kk : Wa X (wA w 50 i v) (pc + 1) lv rest) : Wa X w pc lv (.int v :: .int i :: .ref (Ad X 50) :: rest) := wa_iastG h 50 rfl hg (wA w 50 i v) (ct_model_kept _ _ _) d kk
theorem wn_model_kept (h : Cx X cc own nl fr lo) (d : decode cc pc = .ok (.arraylength, 1)) (kk : Wa X w (pc + 1) lv (.int 200 :: rest)) : Wa X w pc lv (.ref (Ad X 50) :: rest) := wa_alenG h 50 rfl 200 rfl d kk
theorem ct_model_isKept (E : ET) (w : Wd) (f : Nat → Int32) : (cellsOf E w).set 51 (E.2.1 51, .inl (E.2.2 2, 2, .inl f)) = cellsOf E (wR w 51 f) := by rfl
theorem wl_model_isKept (h : Cx X cc own nl fr lo) {i : Int32} (hg : gd i 2 = true) (d : decode cc pc = .ok (.baload, 1)) (kk : Wa X w (pc + 1) lv (.int (w.2.1 51 i.toNatClampNeg) :: rest)) : Wa X w pc lv (.int i :: .ref (Ad X 51) :: rest) := wa_zaldG h 51 rfl hg d kk
theorem ws_model_isKept (h : Cx X cc own nl fr lo) {i v : Int32} (hg : gd i 2 = true) (hv : v = 0 ∨ v = 1) (d : decode cc pc = .ok (.bastore, 1)) (kk : Wa X (wA w 51 i v) (pc + 1) lv rest) : Wa X w pc lv (.int v :: .int i :: .ref (Ad X 51) :: rest) := wa_zastG h 51 rfl hg (nar_vb hv) (wA w 51 i v) (ct_model_isKept _ _ _) d kk
end MR
theorem cx_X0_choose : CV yX0_choose cX0_choose 5 none 2 := ⟨⟨cd_X0_choose, in_X0, by decide +kernel, by decide +kernel, by decide +kernel⟩, im_X0_choose, sl_X0_choose⟩
theorem cx_X0_clashesOf : CV yX0_clashesOf cX0_clashesOf 7 (some .int) 1 := ⟨⟨cd_X0_clashesOf, in_X0, by decide +kernel, by decide +kernel, by decide +kernel⟩, im_X0_clashesOf, sl_X0_clashesOf⟩
theorem cx_X0_isCast : CS yX0_isCast cX0_isCast 4 (some .boolean) 3 := ⟨⟨cd_X0_isCast, in_X0, by decide +kernel, by decide +kernel, by decide +kernel⟩, st_X0_isCast⟩
theorem cx_X0_partsOf : CV yX0_partsOf cX0_partsOf 4 (some .int) 1 := ⟨⟨cd_X0_partsOf, in_X0, by decide +kernel, by decide +kernel, by decide +kernel⟩, im_X0_partsOf, sl_X0_partsOf⟩
theorem cx_X0_notTakenOver : CV yX0_notTakenOver cX0_notTakenOver 7 (some .int) 2 := ⟨⟨cd_X0_notTakenOver, in_X0, by decide +kernel, by decide +kernel, by decide +kernel⟩, im_X0_notTakenOver, sl_X0_notTakenOver⟩
theorem cx_X0_canTakeOver : CV yX0_canTakeOver cX0_canTakeOver 6 (some .boolean) 2 := ⟨⟨cd_X0_canTakeOver, in_X0, by decide +kernel, by decide +kernel, by decide +kernel⟩, im_X0_canTakeOver, sl_X0_canTakeOver⟩
theorem cx_X1_tryAll : CV yX1_tryAll cX1_tryAll 5 none 2 := ⟨⟨cd_X1_tryAll, in_X1, by decide +kernel, by decide +kernel, by decide +kernel⟩, im_X1_tryAll, sl_X1_tryAll⟩
theorem cx_X1_keep : CV yX1_keep cX1_keep 4 none 2 := ⟨⟨cd_X1_keep, in_X1, by decide +kernel, by decide +kernel, by decide +kernel⟩, im_X1_keep, sl_X1_keep⟩
theorem cx_X2_add : CV yX2_add cX2_add 2 (some .int) 1 := ⟨⟨cd_X2_add, in_X2, by decide +kernel, by decide +kernel, by decide +kernel⟩, im_X2_add, sl_X2_add⟩
theorem cx_X2_isComing : CS yX2_isComing cX2_isComing 1 (some .boolean) 1 := ⟨⟨cd_X2_isComing, in_X2, by decide +kernel, by decide +kernel, by decide +kernel⟩, st_X2_isComing⟩
theorem cx_X2_isGoing : CS yX2_isGoing cX2_isGoing 1 (some .boolean) 1 := ⟨⟨cd_X2_isGoing, in_X2, by decide +kernel, by decide +kernel, by decide +kernel⟩, st_X2_isGoing⟩
theorem cx_X2_survey : CV yX2_survey cX2_survey 4 none 0 := ⟨⟨cd_X2_survey, in_X2, by decide +kernel, by decide +kernel, by decide +kernel⟩, im_X2_survey, sl_X2_survey⟩
theorem cx_X2_guessed : CV yX2_guessed cX2_guessed 3 (some .int) 2 := ⟨⟨cd_X2_guessed, in_X2, by decide +kernel, by decide +kernel, by decide +kernel⟩, im_X2_guessed, sl_X2_guessed⟩
theorem cx_X2_perform : CV yX2_perform cX2_perform 7 none 1 := ⟨⟨cd_X2_perform, in_X2, by decide +kernel, by decide +kernel, by decide +kernel⟩, im_X2_perform, sl_X2_perform⟩
theorem cx_X2_comer : CV yX2_comer cX2_comer 3 (some .int) 2 := ⟨⟨cd_X2_comer, in_X2, by decide +kernel, by decide +kernel, by decide +kernel⟩, im_X2_comer, sl_X2_comer⟩
theorem cx_X2_refuseUnless : CV yX2_refuseUnless cX2_refuseUnless 4 none 3 := ⟨⟨cd_X2_refuseUnless, in_X2, by decide +kernel, by decide +kernel, by decide +kernel⟩, im_X2_refuseUnless, sl_X2_refuseUnless⟩
theorem cx_X2_linesOf : CV yX2_linesOf cX2_linesOf 5 (some .long) 1 := ⟨⟨cd_X2_linesOf, in_X2, by decide +kernel, by decide +kernel, by decide +kernel⟩, im_X2_linesOf, sl_X2_linesOf⟩
theorem cx_X3_become : CV yX3_become cX3_become 2 none 1 := ⟨⟨cd_X3_become, in_X3, by decide +kernel, by decide +kernel, by decide +kernel⟩, im_X3_become, sl_X3_become⟩
theorem cx_X3_holds : CV yX3_holds cX3_holds 3 (some .boolean) 2 := ⟨⟨cd_X3_holds, in_X3, by decide +kernel, by decide +kernel, by decide +kernel⟩, im_X3_holds, sl_X3_holds⟩
theorem cx_X3_firstAgainstLaw : CV yX3_firstAgainstLaw cX3_firstAgainstLaw 5 (some .int) 1 := ⟨⟨cd_X3_firstAgainstLaw, in_X3, by decide +kernel, by decide +kernel, by decide +kernel⟩, im_X3_firstAgainstLaw, sl_X3_firstAgainstLaw⟩
theorem cx_X3_setTogether : CV yX3_setTogether cX3_setTogether 5 (some .int) 3 := ⟨⟨cd_X3_setTogether, in_X3, by decide +kernel, by decide +kernel, by decide +kernel⟩, im_X3_setTogether, sl_X3_setTogether⟩
theorem cx_X3_setPair : CS yX3_setPair cX3_setPair 6 none 4 := ⟨⟨cd_X3_setPair, in_X3, by decide +kernel, by decide +kernel, by decide +kernel⟩, st_X3_setPair⟩
theorem cx_X3_firstAgainstMay : CV yX3_firstAgainstMay cX3_firstAgainstMay 3 (some .int) 1 := ⟨⟨cd_X3_firstAgainstMay, in_X3, by decide +kernel, by decide +kernel, by decide +kernel⟩, im_X3_firstAgainstMay, sl_X3_firstAgainstMay⟩
theorem cx_X3_breaksMay : CV yX3_breaksMay cX3_breaksMay 4 (some .boolean) 1 := ⟨⟨cd_X3_breaksMay, in_X3, by decide +kernel, by decide +kernel, by decide +kernel⟩, im_X3_breaksMay, sl_X3_breaksMay⟩
theorem cx_X3_addScene : CV yX3_addScene cX3_addScene 2 (some .int) 1 := ⟨⟨cd_X3_addScene, in_X3, by decide +kernel, by decide +kernel, by decide +kernel⟩, im_X3_addScene, sl_X3_addScene⟩
theorem cx_X3_addSight : CV yX3_addSight cX3_addSight 3 (some .int) 2 := ⟨⟨cd_X3_addSight, in_X3, by decide +kernel, by decide +kernel, by decide +kernel⟩, im_X3_addSight, sl_X3_addSight⟩
theorem cx_X3_sightsHold : CV yX3_sightsHold cX3_sightsHold 4 (some .boolean) 1 := ⟨⟨cd_X3_sightsHold, in_X3, by decide +kernel, by decide +kernel, by decide +kernel⟩, im_X3_sightsHold, sl_X3_sightsHold⟩
theorem cx_X4_choose : CV yX4_choose cX4_choose 4 none 1 := ⟨⟨cd_X4_choose, in_X4, by decide +kernel, by decide +kernel, by decide +kernel⟩, im_X4_choose, sl_X4_choose⟩
theorem cx_X4_fewestBy : CV yX4_fewestBy cX4_fewestBy 4 (some .int) 3 := ⟨⟨cd_X4_fewestBy, in_X4, by decide +kernel, by decide +kernel, by decide +kernel⟩, im_X4_fewestBy, sl_X4_fewestBy⟩
theorem cx_X4_fewestFrom : CV yX4_fewestFrom cX4_fewestFrom 5 (some .int) 2 := ⟨⟨cd_X4_fewestFrom, in_X4, by decide +kernel, by decide +kernel, by decide +kernel⟩, im_X4_fewestFrom, sl_X4_fewestFrom⟩
theorem cx_X4_fillRow : CV yX4_fillRow cX4_fillRow 5 none 0 := ⟨⟨cd_X4_fillRow, in_X4, by decide +kernel, by decide +kernel, by decide +kernel⟩, im_X4_fillRow, sl_X4_fillRow⟩
theorem cx_X4_firstBest : CV yX4_firstBest cX4_firstBest 5 (some .int) 2 := ⟨⟨cd_X4_firstBest, in_X4, by decide +kernel, by decide +kernel, by decide +kernel⟩, im_X4_firstBest, sl_X4_firstBest⟩
theorem cx_X5_set : CV yX5_set cX5_set 4 (some .int) 2 := ⟨⟨cd_X5_set, in_X5, by decide +kernel, by decide +kernel, by decide +kernel⟩, im_X5_set, sl_X5_set⟩
theorem cx_X5_say : CV yX5_say cX5_say 2 (some .int) 1 := ⟨⟨cd_X5_say, in_X5, by decide +kernel, by decide +kernel, by decide +kernel⟩, im_X5_say, sl_X5_say⟩
theorem cx_X5_wipe : CV yX5_wipe cX5_wipe 2 (some .int) 0 := ⟨⟨cd_X5_wipe, in_X5, by decide +kernel, by decide +kernel, by decide +kernel⟩, im_X5_wipe, sl_X5_wipe⟩
theorem cx_X5_fault : CV yX5_fault cX5_fault 1 (some .int) 0 := ⟨⟨cd_X5_fault, in_X5, by decide +kernel, by decide +kernel, by decide +kernel⟩, im_X5_fault, sl_X5_fault⟩
theorem cx_X5_judge : CV yX5_judge cX5_judge 3 (some .int) 1 := ⟨⟨cd_X5_judge, in_X5, by decide +kernel, by decide +kernel, by decide +kernel⟩, im_X5_judge, sl_X5_judge⟩
theorem cx_X5_on : CV yX5_on cX5_on 3 (some .int) 1 := ⟨⟨cd_X5_on, in_X5, by decide +kernel, by decide +kernel, by decide +kernel⟩, im_X5_on, sl_X5_on⟩
theorem cx_X5_lines : CV yX5_lines cX5_lines 3 (some .int) 1 := ⟨⟨cd_X5_lines, in_X5, by decide +kernel, by decide +kernel, by decide +kernel⟩, im_X5_lines, sl_X5_lines⟩
theorem cx_X5_may : CV yX5_may cX5_may 4 (some .int) 3 := ⟨⟨cd_X5_may, in_X5, by decide +kernel, by decide +kernel, by decide +kernel⟩, im_X5_may, sl_X5_may⟩
theorem cx_X5_broken : CV yX5_broken cX5_broken 2 (some .int) 0 := ⟨⟨cd_X5_broken, in_X5, by decide +kernel, by decide +kernel, by decide +kernel⟩, im_X5_broken, sl_X5_broken⟩
theorem cx_X5_strangers : CV yX5_strangers cX5_strangers 5 (some .int) 1 := ⟨⟨cd_X5_strangers, in_X5, by decide +kernel, by decide +kernel, by decide +kernel⟩, im_X5_strangers, sl_X5_strangers⟩
theorem cx_X5_cuts : CV yX5_cuts cX5_cuts 3 (some .int) 0 := ⟨⟨cd_X5_cuts, in_X5, by decide +kernel, by decide +kernel, by decide +kernel⟩, im_X5_cuts, sl_X5_cuts⟩
theorem cx_X5_cast : CV yX5_cast cX5_cast 3 (some .int) 1 := ⟨⟨cd_X5_cast, in_X5, by decide +kernel, by decide +kernel, by decide +kernel⟩, im_X5_cast, sl_X5_cast⟩
theorem cx_X5_ill : CV yX5_ill cX5_ill 4 (some .int) 2 := ⟨⟨cd_X5_ill, in_X5, by decide +kernel, by decide +kernel, by decide +kernel⟩, im_X5_ill, sl_X5_ill⟩
theorem cx_X5_scene : CV yX5_scene cX5_scene 2 (some .int) 1 := ⟨⟨cd_X5_scene, in_X5, by decide +kernel, by decide +kernel, by decide +kernel⟩, im_X5_scene, sl_X5_scene⟩
theorem cx_X5_strike : CV yX5_strike cX5_strike 2 (some .int) 0 := ⟨⟨cd_X5_strike, in_X5, by decide +kernel, by decide +kernel, by decide +kernel⟩, im_X5_strike, sl_X5_strike⟩
theorem cx_X5_order : CV yX5_order cX5_order 2 (some .int) 1 := ⟨⟨cd_X5_order, in_X5, by decide +kernel, by decide +kernel, by decide +kernel⟩, im_X5_order, sl_X5_order⟩
theorem cx_X5_seen : CV yX5_seen cX5_seen 3 (some .int) 2 := ⟨⟨cd_X5_seen, in_X5, by decide +kernel, by decide +kernel, by decide +kernel⟩, im_X5_seen, sl_X5_seen⟩
theorem cx_X5_forget : CV yX5_forget cX5_forget 2 (some .int) 0 := ⟨⟨cd_X5_forget, in_X5, by decide +kernel, by decide +kernel, by decide +kernel⟩, im_X5_forget, sl_X5_forget⟩
theorem cx_X5_fits : CV yX5_fits cX5_fits 2 (some .int) 1 := ⟨⟨cd_X5_fits, in_X5, by decide +kernel, by decide +kernel, by decide +kernel⟩, im_X5_fits, sl_X5_fits⟩
theorem cx_X5_could : CV yX5_could cX5_could 2 (some .int) 1 := ⟨⟨cd_X5_could, in_X5, by decide +kernel, by decide +kernel, by decide +kernel⟩, im_X5_could, sl_X5_could⟩
theorem cx_X5_evening : CV yX5_evening cX5_evening 11 (some .int) 3 := ⟨⟨cd_X5_evening, in_X5, by decide +kernel, by decide +kernel, by decide +kernel⟩, im_X5_evening, sl_X5_evening⟩
theorem cx_X5_image : CV yX5_image cX5_image 2 (some .int) 1 := ⟨⟨cd_X5_image, in_X5, by decide +kernel, by decide +kernel, by decide +kernel⟩, im_X5_image, sl_X5_image⟩
theorem cx_X5_restore : CV yX5_restore cX5_restore 2 (some .int) 1 := ⟨⟨cd_X5_restore, in_X5, by decide +kernel, by decide +kernel, by decide +kernel⟩, im_X5_restore, sl_X5_restore⟩
theorem cx_X5_told : CV yX5_told cX5_told 2 (some .int) 1 := ⟨⟨cd_X5_told, in_X5, by decide +kernel, by decide +kernel, by decide +kernel⟩, im_X5_told, sl_X5_told⟩
theorem cx_X5_isWithin : CS yX5_isWithin cX5_isWithin 2 (some .boolean) 2 := ⟨⟨cd_X5_isWithin, in_X5, by decide +kernel, by decide +kernel, by decide +kernel⟩, st_X5_isWithin⟩
theorem cx_X5_isPart : CS yX5_isPart cX5_isPart 1 (some .boolean) 1 := ⟨⟨cd_X5_isPart, in_X5, by decide +kernel, by decide +kernel, by decide +kernel⟩, st_X5_isPart⟩
theorem cx_X5_isLine : CV yX5_isLine cX5_isLine 2 (some .boolean) 1 := ⟨⟨cd_X5_isLine, in_X5, by decide +kernel, by decide +kernel, by decide +kernel⟩, im_X5_isLine, sl_X5_isLine⟩
theorem cx_X5_refusalOfEvents : CV yX5_refusalOfEvents cX5_refusalOfEvents 1 (some .int) 0 := ⟨⟨cd_X5_refusalOfEvents, in_X5, by decide +kernel, by decide +kernel, by decide +kernel⟩, im_X5_refusalOfEvents, sl_X5_refusalOfEvents⟩
theorem cx_X5_refusalOfLines : CV yX5_refusalOfLines cX5_refusalOfLines 2 (some .int) 0 := ⟨⟨cd_X5_refusalOfLines, in_X5, by decide +kernel, by decide +kernel, by decide +kernel⟩, im_X5_refusalOfLines, sl_X5_refusalOfLines⟩
theorem cx_X5_strangersAt : CV yX5_strangersAt cX5_strangersAt 2 (some .int) 1 := ⟨⟨cd_X5_strangersAt, in_X5, by decide +kernel, by decide +kernel, by decide +kernel⟩, im_X5_strangersAt, sl_X5_strangersAt⟩
theorem cx_X5_bar : CV yX5_bar cX5_bar 2 (some .int) 0 := ⟨⟨cd_X5_bar, in_X5, by decide +kernel, by decide +kernel, by decide +kernel⟩, im_X5_bar, sl_X5_bar⟩
theorem cx_X5_strangersComings : CV yX5_strangersComings cX5_strangersComings 4 (some .int) 0 := ⟨⟨cd_X5_strangersComings, in_X5, by decide +kernel, by decide +kernel, by decide +kernel⟩, im_X5_strangersComings, sl_X5_strangersComings⟩
theorem cx_X5_mostStrangers : CV yX5_mostStrangers cX5_mostStrangers 3 (some .int) 0 := ⟨⟨cd_X5_mostStrangers, in_X5, by decide +kernel, by decide +kernel, by decide +kernel⟩, im_X5_mostStrangers, sl_X5_mostStrangers⟩
theorem cx_X5_linesInLaw : CV yX5_linesInLaw cX5_linesInLaw 3 (some .int) 0 := ⟨⟨cd_X5_linesInLaw, in_X5, by decide +kernel, by decide +kernel, by decide +kernel⟩, im_X5_linesInLaw, sl_X5_linesInLaw⟩
theorem cx_X5_longestRising : CV yX5_longestRising cX5_longestRising 6 (some .int) 0 := ⟨⟨cd_X5_longestRising, in_X5, by decide +kernel, by decide +kernel, by decide +kernel⟩, im_X5_longestRising, sl_X5_longestRising⟩
theorem cx_X6_in : CS yX6_in cX6_in 6 (some .boolean) 3 := ⟨⟨cd_X6_in, in_X6, by decide +kernel, by decide +kernel, by decide +kernel⟩, st_X6_in⟩
theorem cx_X6_ones : CS yX6_ones cX6_ones 3 (some .int) 1 := ⟨⟨cd_X6_ones, in_X6, by decide +kernel, by decide +kernel, by decide +kernel⟩, st_X6_ones⟩
theorem cx_X6_isPart : CS yX6_isPart cX6_isPart 1 (some .boolean) 1 := ⟨⟨cd_X6_isPart, in_X6, by decide +kernel, by decide +kernel, by decide +kernel⟩, st_X6_isPart⟩
theorem cx_X6_set : CV yX6_set cX6_set 4 (some .int) 2 := ⟨⟨cd_X6_set, in_X6, by decide +kernel, by decide +kernel, by decide +kernel⟩, im_X6_set, sl_X6_set⟩
theorem cx_X6_say : CV yX6_say cX6_say 2 (some .int) 1 := ⟨⟨cd_X6_say, in_X6, by decide +kernel, by decide +kernel, by decide +kernel⟩, im_X6_say, sl_X6_say⟩
theorem cx_X6_wipe : CV yX6_wipe cX6_wipe 2 (some .int) 0 := ⟨⟨cd_X6_wipe, in_X6, by decide +kernel, by decide +kernel, by decide +kernel⟩, im_X6_wipe, sl_X6_wipe⟩
theorem cx_X6_marks : CV yX6_marks cX6_marks 3 (some .int) 0 := ⟨⟨cd_X6_marks, in_X6, by decide +kernel, by decide +kernel, by decide +kernel⟩, im_X6_marks, sl_X6_marks⟩
theorem cx_X6_fault : CV yX6_fault cX6_fault 5 (some .int) 0 := ⟨⟨cd_X6_fault, in_X6, by decide +kernel, by decide +kernel, by decide +kernel⟩, im_X6_fault, sl_X6_fault⟩
theorem cx_X6_layEvents : CV yX6_layEvents cX6_layEvents 3 none 0 := ⟨⟨cd_X6_layEvents, in_X6, by decide +kernel, by decide +kernel, by decide +kernel⟩, im_X6_layEvents, sl_X6_layEvents⟩
theorem cx_X6_go : CV yX6_go cX6_go 7 (some .boolean) 0 := ⟨⟨cd_X6_go, in_X6, by decide +kernel, by decide +kernel, by decide +kernel⟩, im_X6_go, sl_X6_go⟩
theorem cx_X6_refusal : CV yX6_refusal cX6_refusal 1 (some .int) 0 := ⟨⟨cd_X6_refusal, in_X6, by decide +kernel, by decide +kernel, by decide +kernel⟩, im_X6_refusal, sl_X6_refusal⟩
theorem cx_X6_holds : CV yX6_holds cX6_holds 3 (some .boolean) 2 := ⟨⟨cd_X6_holds, in_X6, by decide +kernel, by decide +kernel, by decide +kernel⟩, im_X6_holds, sl_X6_holds⟩
theorem cx_X6_breaking : CV yX6_breaking cX6_breaking 2 (some .int) 0 := ⟨⟨cd_X6_breaking, in_X6, by decide +kernel, by decide +kernel, by decide +kernel⟩, im_X6_breaking, sl_X6_breaking⟩
theorem cx_X6_judge : CV yX6_judge cX6_judge 3 (some .int) 1 := ⟨⟨cd_X6_judge, in_X6, by decide +kernel, by decide +kernel, by decide +kernel⟩, im_X6_judge, sl_X6_judge⟩
theorem cx_X6_on : CV yX6_on cX6_on 3 (some .int) 1 := ⟨⟨cd_X6_on, in_X6, by decide +kernel, by decide +kernel, by decide +kernel⟩, im_X6_on, sl_X6_on⟩
theorem cx_X6_linesOf : CV yX6_linesOf cX6_linesOf 4 (some .int) 1 := ⟨⟨cd_X6_linesOf, in_X6, by decide +kernel, by decide +kernel, by decide +kernel⟩, im_X6_linesOf, sl_X6_linesOf⟩
theorem cx_X6_lines : CV yX6_lines cX6_lines 3 (some .int) 1 := ⟨⟨cd_X6_lines, in_X6, by decide +kernel, by decide +kernel, by decide +kernel⟩, im_X6_lines, sl_X6_lines⟩
theorem cx_X6_may : CV yX6_may cX6_may 5 (some .int) 3 := ⟨⟨cd_X6_may, in_X6, by decide +kernel, by decide +kernel, by decide +kernel⟩, im_X6_may, sl_X6_may⟩
theorem cx_X6_mayBe : CV yX6_mayBe cX6_mayBe 7 (some .boolean) 1 := ⟨⟨cd_X6_mayBe, in_X6, by decide +kernel, by decide +kernel, by decide +kernel⟩, im_X6_mayBe, sl_X6_mayBe⟩
theorem cx_X6_broken : CV yX6_broken cX6_broken 3 (some .int) 0 := ⟨⟨cd_X6_broken, in_X6, by decide +kernel, by decide +kernel, by decide +kernel⟩, im_X6_broken, sl_X6_broken⟩
theorem cx_X6_bar : CV yX6_bar cX6_bar 2 (some .int) 0 := ⟨⟨cd_X6_bar, in_X6, by decide +kernel, by decide +kernel, by decide +kernel⟩, im_X6_bar, sl_X6_bar⟩
theorem cx_X6_strangers : CV yX6_strangers cX6_strangers 9 (some .int) 1 := ⟨⟨cd_X6_strangers, in_X6, by decide +kernel, by decide +kernel, by decide +kernel⟩, im_X6_strangers, sl_X6_strangers⟩
theorem cx_X6_mostStay : CV yX6_mostStay cX6_mostStay 6 (some .int) 0 := ⟨⟨cd_X6_mostStay, in_X6, by decide +kernel, by decide +kernel, by decide +kernel⟩, im_X6_mostStay, sl_X6_mostStay⟩
theorem cx_X6_cuts : CV yX6_cuts cX6_cuts 4 (some .int) 0 := ⟨⟨cd_X6_cuts, in_X6, by decide +kernel, by decide +kernel, by decide +kernel⟩, im_X6_cuts, sl_X6_cuts⟩
theorem cx_X6_canBoth : CV yX6_canBoth cX6_canBoth 9 (some .boolean) 3 := ⟨⟨cd_X6_canBoth, in_X6, by decide +kernel, by decide +kernel, by decide +kernel⟩, im_X6_canBoth, sl_X6_canBoth⟩
theorem cx_X6_canBe : CV yX6_canBe cX6_canBe 4 (some .boolean) 1 := ⟨⟨cd_X6_canBe, in_X6, by decide +kernel, by decide +kernel, by decide +kernel⟩, im_X6_canBe, sl_X6_canBe⟩
theorem cx_X6_highest : CV yX6_highest cX6_highest 4 (some .int) 1 := ⟨⟨cd_X6_highest, in_X6, by decide +kernel, by decide +kernel, by decide +kernel⟩, im_X6_highest, sl_X6_highest⟩
theorem cx_X6_castWith : CV yX6_castWith cX6_castWith 6 (some .boolean) 1 := ⟨⟨cd_X6_castWith, in_X6, by decide +kernel, by decide +kernel, by decide +kernel⟩, im_X6_castWith, sl_X6_castWith⟩
theorem cx_X6_castAll : CV yX6_castAll cX6_castAll 5 (some .int) 0 := ⟨⟨cd_X6_castAll, in_X6, by decide +kernel, by decide +kernel, by decide +kernel⟩, im_X6_castAll, sl_X6_castAll⟩
theorem cx_X6_cast : CV yX6_cast cX6_cast 4 (some .int) 1 := ⟨⟨cd_X6_cast, in_X6, by decide +kernel, by decide +kernel, by decide +kernel⟩, im_X6_cast, sl_X6_cast⟩
theorem cx_X6_hasFrom : CV yX6_hasFrom cX6_hasFrom 5 (some .boolean) 2 := ⟨⟨cd_X6_hasFrom, in_X6, by decide +kernel, by decide +kernel, by decide +kernel⟩, im_X6_hasFrom, sl_X6_hasFrom⟩
theorem cx_X6_isTaken : CV yX6_isTaken cX6_isTaken 7 (some .boolean) 3 := ⟨⟨cd_X6_isTaken, in_X6, by decide +kernel, by decide +kernel, by decide +kernel⟩, im_X6_isTaken, sl_X6_isTaken⟩
theorem cx_X6_ill : CV yX6_ill cX6_ill 9 (some .int) 2 := ⟨⟨cd_X6_ill, in_X6, by decide +kernel, by decide +kernel, by decide +kernel⟩, im_X6_ill, sl_X6_ill⟩
theorem cx_X6_scene : CV yX6_scene cX6_scene 2 (some .int) 1 := ⟨⟨cd_X6_scene, in_X6, by decide +kernel, by decide +kernel, by decide +kernel⟩, im_X6_scene, sl_X6_scene⟩
theorem cx_X6_strike : CV yX6_strike cX6_strike 2 (some .int) 0 := ⟨⟨cd_X6_strike, in_X6, by decide +kernel, by decide +kernel, by decide +kernel⟩, im_X6_strike, sl_X6_strike⟩
theorem cx_X6_layRow : CV yX6_layRow cX6_layRow 5 (some .boolean) 1 := ⟨⟨cd_X6_layRow, in_X6, by decide +kernel, by decide +kernel, by decide +kernel⟩, im_X6_layRow, sl_X6_layRow⟩
theorem cx_X6_movesOfRow : CV yX6_movesOfRow cX6_movesOfRow 4 (some .int) 0 := ⟨⟨cd_X6_movesOfRow, in_X6, by decide +kernel, by decide +kernel, by decide +kernel⟩, im_X6_movesOfRow, sl_X6_movesOfRow⟩
theorem cx_X6_order : CV yX6_order cX6_order 7 (some .int) 1 := ⟨⟨cd_X6_order, in_X6, by decide +kernel, by decide +kernel, by decide +kernel⟩, im_X6_order, sl_X6_order⟩
theorem cx_X6_seen : CV yX6_seen cX6_seen 3 (some .int) 2 := ⟨⟨cd_X6_seen, in_X6, by decide +kernel, by decide +kernel, by decide +kernel⟩, im_X6_seen, sl_X6_seen⟩
theorem cx_X6_forget : CV yX6_forget cX6_forget 2 (some .int) 0 := ⟨⟨cd_X6_forget, in_X6, by decide +kernel, by decide +kernel, by decide +kernel⟩, im_X6_forget, sl_X6_forget⟩
theorem cx_X6_fills : CV yX6_fills cX6_fills 6 (some .boolean) 1 := ⟨⟨cd_X6_fills, in_X6, by decide +kernel, by decide +kernel, by decide +kernel⟩, im_X6_fills, sl_X6_fills⟩
theorem cx_X6_ways : CV yX6_ways cX6_ways 1 (some .int) 0 := ⟨⟨cd_X6_ways, in_X6, by decide +kernel, by decide +kernel, by decide +kernel⟩, im_X6_ways, sl_X6_ways⟩
theorem cx_X6_fits : CV yX6_fits cX6_fits 5 (some .int) 1 := ⟨⟨cd_X6_fits, in_X6, by decide +kernel, by decide +kernel, by decide +kernel⟩, im_X6_fits, sl_X6_fits⟩
theorem cx_X6_could : CV yX6_could cX6_could 5 (some .int) 1 := ⟨⟨cd_X6_could, in_X6, by decide +kernel, by decide +kernel, by decide +kernel⟩, im_X6_could, sl_X6_could⟩
theorem cx_X6_evening : CV yX6_evening cX6_evening 11 (some .int) 3 := ⟨⟨cd_X6_evening, in_X6, by decide +kernel, by decide +kernel, by decide +kernel⟩, im_X6_evening, sl_X6_evening⟩
theorem cx_X6_pass : CV yX6_pass cX6_pass 3 (some .int) 1 := ⟨⟨cd_X6_pass, in_X6, by decide +kernel, by decide +kernel, by decide +kernel⟩, im_X6_pass, sl_X6_pass⟩
theorem cx_X6_passAll : CV yX6_passAll cX6_passAll 2 none 0 := ⟨⟨cd_X6_passAll, in_X6, by decide +kernel, by decide +kernel, by decide +kernel⟩, im_X6_passAll, sl_X6_passAll⟩
theorem cx_X6_image : CV yX6_image cX6_image 2 (some .int) 1 := ⟨⟨cd_X6_image, in_X6, by decide +kernel, by decide +kernel, by decide +kernel⟩, im_X6_image, sl_X6_image⟩
theorem cx_X6_restore : CV yX6_restore cX6_restore 2 (some .int) 1 := ⟨⟨cd_X6_restore, in_X6, by decide +kernel, by decide +kernel, by decide +kernel⟩, im_X6_restore, sl_X6_restore⟩
theorem cx_X6_told : CV yX6_told cX6_told 2 (some .int) 1 := ⟨⟨cd_X6_told, in_X6, by decide +kernel, by decide +kernel, by decide +kernel⟩, im_X6_told, sl_X6_told⟩
theorem cx_J6_bitCount_0f7a4 : CS yJ6_bitCount_0f7a4 cJ6_bitCount_0f7a4 1 (some .int) 1 := ⟨⟨cd_J6_bitCount_0f7a4, in_J6, by decide +kernel, by decide +kernel, by decide +kernel⟩, st_J6_bitCount_0f7a4⟩
theorem cx_J13_bitCount_95d88 : CS yJ13_bitCount_95d88 cJ13_bitCount_95d88 2 (some .int) 1 := ⟨⟨cd_J13_bitCount_95d88, in_J13, by decide +kernel, by decide +kernel, by decide +kernel⟩, st_J13_bitCount_95d88⟩
theorem cx_J7_fill_53178 : CS yJ7_fill_53178 cJ7_fill_53178 4 none 2 := ⟨⟨cd_J7_fill_53178, in_J7, by decide +kernel, by decide +kernel, by decide +kernel⟩, st_J7_fill_53178⟩
end
