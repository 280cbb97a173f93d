section
-- ===== PART A: goes FIRST, ahead of the names: the tables' words, and 'selects' of the private methods out of them =====
/-- a private method of a class that the tables say can be made, by its rows of tables_1 -/
def lw_okq (q : MethodName × Nat) : Prop := (q.1.cls ≠ "java/lang/invoke/MethodHandle" ∧ q.1.cls ≠ "java/lang/invoke/VarHandle") ∧ Cond.instantiable q.1.cls q.2 ∈ tables_1 ∧ Cond.privateMethod q.1 ∈ tables_1 ∧ Cond.instanceMethod q.1 ∈ tables_1
theorem lw_p0 : lw_okq (⟨"VotesOnTree$Reader", "next", "()V"⟩, 9) := ⟨⟨by decide +kernel, by decide +kernel⟩, List.mem_of_getElem? (i := 85) (by decide +kernel), List.mem_of_getElem? (i := 261) (by decide +kernel), List.mem_of_getElem? (i := 262) (by decide +kernel)⟩
theorem lw_p1 : lw_okq (⟨"VotesOnTree$Reader", "word", "()I"⟩, 9) := ⟨⟨by decide +kernel, by decide +kernel⟩, List.mem_of_getElem? (i := 85) (by decide +kernel), List.mem_of_getElem? (i := 268) (by decide +kernel), List.mem_of_getElem? (i := 269) (by decide +kernel)⟩
theorem lw_p2 : lw_okq (⟨"VotesOnTree$Reader", "spells", "(Ljava/lang/String;)Z"⟩, 9) := ⟨⟨by decide +kernel, by decide +kernel⟩, List.mem_of_getElem? (i := 85) (by decide +kernel), List.mem_of_getElem? (i := 273) (by decide +kernel), List.mem_of_getElem? (i := 274) (by decide +kernel)⟩
theorem lw_p3 : lw_okq (⟨"VotesOnTree$Reader", "figure", "()I"⟩, 9) := ⟨⟨by decide +kernel, by decide +kernel⟩, List.mem_of_getElem? (i := 85) (by decide +kernel), List.mem_of_getElem? (i := 293) (by decide +kernel), List.mem_of_getElem? (i := 294) (by decide +kernel)⟩
theorem lw_p4 : lw_okq (⟨"VotesOnTree$Reader", "readsPart", "(II)Z"⟩, 9) := ⟨⟨by decide +kernel, by decide +kernel⟩, List.mem_of_getElem? (i := 85) (by decide +kernel), List.mem_of_getElem? (i := 300) (by decide +kernel), List.mem_of_getElem? (i := 301) (by decide +kernel)⟩
theorem lw_p5 : lw_okq (⟨"VotesOnTree$Reader", "takes", "(I)Z"⟩, 9) := ⟨⟨by decide +kernel, by decide +kernel⟩, List.mem_of_getElem? (i := 85) (by decide +kernel), List.mem_of_getElem? (i := 304) (by decide +kernel), List.mem_of_getElem? (i := 305) (by decide +kernel)⟩
theorem lw_p6 : lw_okq (⟨"VotesOnTree$Reader", "readsE", "()Z"⟩, 9) := ⟨⟨by decide +kernel, by decide +kernel⟩, List.mem_of_getElem? (i := 85) (by decide +kernel), List.mem_of_getElem? (i := 308) (by decide +kernel), List.mem_of_getElem? (i := 309) (by decide +kernel)⟩
theorem lw_p7 : lw_okq (⟨"VotesOnTree$Reader", "readsAnd", "()Z"⟩, 9) := ⟨⟨by decide +kernel, by decide +kernel⟩, List.mem_of_getElem? (i := 85) (by decide +kernel), List.mem_of_getElem? (i := 312) (by decide +kernel), List.mem_of_getElem? (i := 313) (by decide +kernel)⟩
theorem lw_p8 : lw_okq (⟨"VotesOnTree$Reader", "readsNot", "()Z"⟩, 9) := ⟨⟨by decide +kernel, by decide +kernel⟩, List.mem_of_getElem? (i := 85) (by decide +kernel), List.mem_of_getElem? (i := 316) (by decide +kernel), List.mem_of_getElem? (i := 317) (by decide +kernel)⟩
theorem lw_p9 : lw_okq (⟨"VotesOnTree$Reader", "opensAll", "(I)I"⟩, 9) := ⟨⟨by decide +kernel, by decide +kernel⟩, List.mem_of_getElem? (i := 85) (by decide +kernel), List.mem_of_getElem? (i := 320) (by decide +kernel), List.mem_of_getElem? (i := 321) (by decide +kernel)⟩
theorem lw_p10 : lw_okq (⟨"VotesOnTree$Reader", "readsComparison", "()Z"⟩, 9) := ⟨⟨by decide +kernel, by decide +kernel⟩, List.mem_of_getElem? (i := 85) (by decide +kernel), List.mem_of_getElem? (i := 324) (by decide +kernel), List.mem_of_getElem? (i := 325) (by decide +kernel)⟩
theorem lw_p11 : lw_okq (⟨"VotesOnTree$Reader", "readsSum", "()Z"⟩, 9) := ⟨⟨by decide +kernel, by decide +kernel⟩, List.mem_of_getElem? (i := 85) (by decide +kernel), List.mem_of_getElem? (i := 328) (by decide +kernel), List.mem_of_getElem? (i := 329) (by decide +kernel)⟩
theorem lw_p12 : lw_okq (⟨"VotesOnTree$Reader", "readsTerm", "()Z"⟩, 9) := ⟨⟨by decide +kernel, by decide +kernel⟩, List.mem_of_getElem? (i := 85) (by decide +kernel), List.mem_of_getElem? (i := 332) (by decide +kernel), List.mem_of_getElem? (i := 333) (by decide +kernel)⟩
theorem lw_p13 : lw_okq (⟨"VotesOnTree$Reader", "readsOne", "()Z"⟩, 9) := ⟨⟨by decide +kernel, by decide +kernel⟩, List.mem_of_getElem? (i := 85) (by decide +kernel), List.mem_of_getElem? (i := 336) (by decide +kernel), List.mem_of_getElem? (i := 337) (by decide +kernel)⟩
theorem lw_p14 : lw_okq (⟨"VotesOnTree$Reader", "readsPlainOne", "()Z"⟩, 9) := ⟨⟨by decide +kernel, by decide +kernel⟩, List.mem_of_getElem? (i := 85) (by decide +kernel), List.mem_of_getElem? (i := 340) (by decide +kernel), List.mem_of_getElem? (i := 341) (by decide +kernel)⟩
theorem lw_p15 : lw_okq (⟨"VotesOnTree$Reader", "make", "(I)V"⟩, 9) := ⟨⟨by decide +kernel, by decide +kernel⟩, List.mem_of_getElem? (i := 85) (by decide +kernel), List.mem_of_getElem? (i := 344) (by decide +kernel), List.mem_of_getElem? (i := 345) (by decide +kernel)⟩
def lw_privs_1 : List (MethodName × Nat) := [(⟨"VotesOnTree$Reader", "next", "()V"⟩, 9), (⟨"VotesOnTree$Reader", "word", "()I"⟩, 9), (⟨"VotesOnTree$Reader", "spells", "(Ljava/lang/String;)Z"⟩, 9), (⟨"VotesOnTree$Reader", "figure", "()I"⟩, 9), (⟨"VotesOnTree$Reader", "readsPart", "(II)Z"⟩, 9), (⟨"VotesOnTree$Reader", "takes", "(I)Z"⟩, 9), (⟨"VotesOnTree$Reader", "readsE", "()Z"⟩, 9), (⟨"VotesOnTree$Reader", "readsAnd", "()Z"⟩, 9), (⟨"VotesOnTree$Reader", "readsNot", "()Z"⟩, 9), (⟨"VotesOnTree$Reader", "opensAll", "(I)I"⟩, 9), (⟨"VotesOnTree$Reader", "readsComparison", "()Z"⟩, 9), (⟨"VotesOnTree$Reader", "readsSum", "()Z"⟩, 9), (⟨"VotesOnTree$Reader", "readsTerm", "()Z"⟩, 9), (⟨"VotesOnTree$Reader", "readsOne", "()Z"⟩, 9), (⟨"VotesOnTree$Reader", "readsPlainOne", "()Z"⟩, 9), (⟨"VotesOnTree$Reader", "make", "(I)V"⟩, 9)]
theorem lw_r1 : ∀ q ∈ lw_privs_1, lw_okq q := List.forall_mem_cons.mpr ⟨lw_p0, List.forall_mem_cons.mpr ⟨lw_p1, List.forall_mem_cons.mpr ⟨lw_p2, List.forall_mem_cons.mpr ⟨lw_p3, List.forall_mem_cons.mpr ⟨lw_p4, List.forall_mem_cons.mpr ⟨lw_p5, List.forall_mem_cons.mpr ⟨lw_p6, List.forall_mem_cons.mpr ⟨lw_p7, List.forall_mem_cons.mpr ⟨lw_p8, List.forall_mem_cons.mpr ⟨lw_p9, List.forall_mem_cons.mpr ⟨lw_p10, List.forall_mem_cons.mpr ⟨lw_p11, List.forall_mem_cons.mpr ⟨lw_p12, List.forall_mem_cons.mpr ⟨lw_p13, List.forall_mem_cons.mpr ⟨lw_p14, List.forall_mem_cons.mpr ⟨lw_p15, fun _ h => absurd h List.not_mem_nil⟩⟩⟩⟩⟩⟩⟩⟩⟩⟩⟩⟩⟩⟩⟩⟩
theorem lw_p16 : lw_okq (⟨"VotesOnTree$Reader", "closes", "(II)Z"⟩, 9) := ⟨⟨by decide +kernel, by decide +kernel⟩, List.mem_of_getElem? (i := 85) (by decide +kernel), List.mem_of_getElem? (i := 348) (by decide +kernel), List.mem_of_getElem? (i := 349) (by decide +kernel)⟩
theorem lw_p17 : lw_okq (⟨"VotesOnTree", "putYear", "(I)I"⟩, 9) := ⟨⟨by decide +kernel, by decide +kernel⟩, List.mem_of_getElem? (i := 17) (by decide +kernel), List.mem_of_getElem? (i := 422) (by decide +kernel), List.mem_of_getElem? (i := 423) (by decide +kernel)⟩
theorem lw_p18 : lw_okq (⟨"VotesOnTree$Oak", "goesByKids", "(I)I"⟩, 12) := ⟨⟨by decide +kernel, by decide +kernel⟩, List.mem_of_getElem? (i := 25) (by decide +kernel), List.mem_of_getElem? (i := 446) (by decide +kernel), List.mem_of_getElem? (i := 447) (by decide +kernel)⟩
theorem lw_p19 : lw_okq (⟨"VotesOnTree$Oak", "whenEven", "(I)I"⟩, 12) := ⟨⟨by decide +kernel, by decide +kernel⟩, List.mem_of_getElem? (i := 25) (by decide +kernel), List.mem_of_getElem? (i := 450) (by decide +kernel), List.mem_of_getElem? (i := 451) (by decide +kernel)⟩
theorem lw_p20 : lw_okq (⟨"VotesOnTree", "priceOf", "(III)I"⟩, 9) := ⟨⟨by decide +kernel, by decide +kernel⟩, List.mem_of_getElem? (i := 17) (by decide +kernel), List.mem_of_getElem? (i := 477) (by decide +kernel), List.mem_of_getElem? (i := 478) (by decide +kernel)⟩
theorem lw_p21 : lw_okq (⟨"VotesOnTree", "lawNow", "()I"⟩, 9) := ⟨⟨by decide +kernel, by decide +kernel⟩, List.mem_of_getElem? (i := 17) (by decide +kernel), List.mem_of_getElem? (i := 519) (by decide +kernel), List.mem_of_getElem? (i := 520) (by decide +kernel)⟩
theorem lw_p22 : lw_okq (⟨"VotesOnTree", "leastSet", "(ZIII)I"⟩, 9) := ⟨⟨by decide +kernel, by decide +kernel⟩, List.mem_of_getElem? (i := 17) (by decide +kernel), List.mem_of_getElem? (i := 540) (by decide +kernel), List.mem_of_getElem? (i := 541) (by decide +kernel)⟩
theorem lw_p23 : lw_okq (⟨"VotesOnTree", "keepPrices", "(III)V"⟩, 9) := ⟨⟨by decide +kernel, by decide +kernel⟩, List.mem_of_getElem? (i := 17) (by decide +kernel), List.mem_of_getElem? (i := 544) (by decide +kernel), List.mem_of_getElem? (i := 545) (by decide +kernel)⟩
theorem lw_p24 : lw_okq (⟨"VotesOnTree", "priceOfSet", "(I)I"⟩, 9) := ⟨⟨by decide +kernel, by decide +kernel⟩, List.mem_of_getElem? (i := 17) (by decide +kernel), List.mem_of_getElem? (i := 551) (by decide +kernel), List.mem_of_getElem? (i := 552) (by decide +kernel)⟩
theorem lw_p25 : lw_okq (⟨"VotesOnTree", "brings", "(ZIII)Z"⟩, 9) := ⟨⟨by decide +kernel, by decide +kernel⟩, List.mem_of_getElem? (i := 17) (by decide +kernel), List.mem_of_getElem? (i := 555) (by decide +kernel), List.mem_of_getElem? (i := 556) (by decide +kernel)⟩
theorem lw_p26 : lw_okq (⟨"VotesOnTree", "lawIfCut", "(I)I"⟩, 9) := ⟨⟨by decide +kernel, by decide +kernel⟩, List.mem_of_getElem? (i := 17) (by decide +kernel), List.mem_of_getElem? (i := 563) (by decide +kernel), List.mem_of_getElem? (i := 564) (by decide +kernel)⟩
theorem lw_p27 : lw_okq (⟨"VotesOnTree", "keepLaws", "(I)V"⟩, 9) := ⟨⟨by decide +kernel, by decide +kernel⟩, List.mem_of_getElem? (i := 17) (by decide +kernel), List.mem_of_getElem? (i := 582) (by decide +kernel), List.mem_of_getElem? (i := 583) (by decide +kernel)⟩
theorem lw_p28 : lw_okq (⟨"VotesOnTree", "isFair", "(I)I"⟩, 9) := ⟨⟨by decide +kernel, by decide +kernel⟩, List.mem_of_getElem? (i := 17) (by decide +kernel), List.mem_of_getElem? (i := 587) (by decide +kernel), List.mem_of_getElem? (i := 588) (by decide +kernel)⟩
theorem lw_p29 : lw_okq (⟨"VotesOnTree", "swings", "(II)I"⟩, 9) := ⟨⟨by decide +kernel, by decide +kernel⟩, List.mem_of_getElem? (i := 17) (by decide +kernel), List.mem_of_getElem? (i := 591) (by decide +kernel), List.mem_of_getElem? (i := 592) (by decide +kernel)⟩
theorem lw_p30 : lw_okq (⟨"VotesOnTree", "mindOdds", "(II)J"⟩, 9) := ⟨⟨by decide +kernel, by decide +kernel⟩, List.mem_of_getElem? (i := 17) (by decide +kernel), List.mem_of_getElem? (i := 601) (by decide +kernel), List.mem_of_getElem? (i := 602) (by decide +kernel)⟩
theorem lw_p31 : lw_okq (⟨"VotesOnTree", "stormOdds", "(II)J"⟩, 9) := ⟨⟨by decide +kernel, by decide +kernel⟩, List.mem_of_getElem? (i := 17) (by decide +kernel), List.mem_of_getElem? (i := 618) (by decide +kernel), List.mem_of_getElem? (i := 619) (by decide +kernel)⟩
def lw_privs_2 : List (MethodName × Nat) := [(⟨"VotesOnTree$Reader", "closes", "(II)Z"⟩, 9), (⟨"VotesOnTree", "putYear", "(I)I"⟩, 9), (⟨"VotesOnTree$Oak", "goesByKids", "(I)I"⟩, 12), (⟨"VotesOnTree$Oak", "whenEven", "(I)I"⟩, 12), (⟨"VotesOnTree", "priceOf", "(III)I"⟩, 9), (⟨"VotesOnTree", "lawNow", "()I"⟩, 9), (⟨"VotesOnTree", "leastSet", "(ZIII)I"⟩, 9), (⟨"VotesOnTree", "keepPrices", "(III)V"⟩, 9), (⟨"VotesOnTree", "priceOfSet", "(I)I"⟩, 9), (⟨"VotesOnTree", "brings", "(ZIII)Z"⟩, 9), (⟨"VotesOnTree", "lawIfCut", "(I)I"⟩, 9), (⟨"VotesOnTree", "keepLaws", "(I)V"⟩, 9), (⟨"VotesOnTree", "isFair", "(I)I"⟩, 9), (⟨"VotesOnTree", "swings", "(II)I"⟩, 9), (⟨"VotesOnTree", "mindOdds", "(II)J"⟩, 9), (⟨"VotesOnTree", "stormOdds", "(II)J"⟩, 9)]
theorem lw_r2 : ∀ q ∈ lw_privs_2, lw_okq q := List.forall_mem_cons.mpr ⟨lw_p16, List.forall_mem_cons.mpr ⟨lw_p17, List.forall_mem_cons.mpr ⟨lw_p18, List.forall_mem_cons.mpr ⟨lw_p19, List.forall_mem_cons.mpr ⟨lw_p20, List.forall_mem_cons.mpr ⟨lw_p21, List.forall_mem_cons.mpr ⟨lw_p22, List.forall_mem_cons.mpr ⟨lw_p23, List.forall_mem_cons.mpr ⟨lw_p24, List.forall_mem_cons.mpr ⟨lw_p25, List.forall_mem_cons.mpr ⟨lw_p26, List.forall_mem_cons.mpr ⟨lw_p27, List.forall_mem_cons.mpr ⟨lw_p28, List.forall_mem_cons.mpr ⟨lw_p29, List.forall_mem_cons.mpr ⟨lw_p30, List.forall_mem_cons.mpr ⟨lw_p31, fun _ h => absurd h List.not_mem_nil⟩⟩⟩⟩⟩⟩⟩⟩⟩⟩⟩⟩⟩⟩⟩⟩
theorem lw_p32 : lw_okq (⟨"VotesOnTree", "readsClues", "(I)Z"⟩, 9) := ⟨⟨by decide +kernel, by decide +kernel⟩, List.mem_of_getElem? (i := 17) (by decide +kernel), List.mem_of_getElem? (i := 637) (by decide +kernel), List.mem_of_getElem? (i := 638) (by decide +kernel)⟩
theorem lw_p33 : lw_okq (⟨"VotesOnTree", "fitsClues", "(I)Z"⟩, 9) := ⟨⟨by decide +kernel, by decide +kernel⟩, List.mem_of_getElem? (i := 17) (by decide +kernel), List.mem_of_getElem? (i := 645) (by decide +kernel), List.mem_of_getElem? (i := 646) (by decide +kernel)⟩
theorem lw_p34 : lw_okq (⟨"VotesOnTree", "lawByLot", "(III)I"⟩, 9) := ⟨⟨by decide +kernel, by decide +kernel⟩, List.mem_of_getElem? (i := 17) (by decide +kernel), List.mem_of_getElem? (i := 653) (by decide +kernel), List.mem_of_getElem? (i := 654) (by decide +kernel)⟩
theorem lw_p35 : lw_okq (⟨"VotesOnTreeModel", "spell", "(IIIIIIIII)V"⟩, 46) := ⟨⟨by decide +kernel, by decide +kernel⟩, List.mem_of_getElem? (i := 723) (by decide +kernel), List.mem_of_getElem? (i := 729) (by decide +kernel), List.mem_of_getElem? (i := 730) (by decide +kernel)⟩
theorem lw_p36 : lw_okq (⟨"VotesOnTreeModel", "lawOf", "(II)I"⟩, 46) := ⟨⟨by decide +kernel, by decide +kernel⟩, List.mem_of_getElem? (i := 723) (by decide +kernel), List.mem_of_getElem? (i := 876) (by decide +kernel), List.mem_of_getElem? (i := 877) (by decide +kernel)⟩
theorem lw_p37 : lw_okq (⟨"VotesOnTreeModel", "standing", "(I)I"⟩, 46) := ⟨⟨by decide +kernel, by decide +kernel⟩, List.mem_of_getElem? (i := 723) (by decide +kernel), List.mem_of_getElem? (i := 880) (by decide +kernel), List.mem_of_getElem? (i := 881) (by decide +kernel)⟩
theorem lw_p38 : lw_okq (⟨"VotesOnTreeModel", "goes", "(II)I"⟩, 46) := ⟨⟨by decide +kernel, by decide +kernel⟩, List.mem_of_getElem? (i := 723) (by decide +kernel), List.mem_of_getElem? (i := 884) (by decide +kernel), List.mem_of_getElem? (i := 885) (by decide +kernel)⟩
theorem lw_p39 : lw_okq (⟨"VotesOnTreeModel", "isTwig", "(II)Z"⟩, 46) := ⟨⟨by decide +kernel, by decide +kernel⟩, List.mem_of_getElem? (i := 723) (by decide +kernel), List.mem_of_getElem? (i := 888) (by decide +kernel), List.mem_of_getElem? (i := 889) (by decide +kernel)⟩
theorem lw_p40 : lw_okq (⟨"VotesOnTreeModel", "kidsOf", "(II)I"⟩, 46) := ⟨⟨by decide +kernel, by decide +kernel⟩, List.mem_of_getElem? (i := 723) (by decide +kernel), List.mem_of_getElem? (i := 892) (by decide +kernel), List.mem_of_getElem? (i := 893) (by decide +kernel)⟩
theorem lw_p41 : lw_okq (⟨"VotesOnTreeModel", "even", "(I)I"⟩, 46) := ⟨⟨by decide +kernel, by decide +kernel⟩, List.mem_of_getElem? (i := 723) (by decide +kernel), List.mem_of_getElem? (i := 896) (by decide +kernel), List.mem_of_getElem? (i := 897) (by decide +kernel)⟩
theorem lw_p42 : lw_okq (⟨"VotesOnTreeModel", "weighs", "(II)I"⟩, 46) := ⟨⟨by decide +kernel, by decide +kernel⟩, List.mem_of_getElem? (i := 723) (by decide +kernel), List.mem_of_getElem? (i := 900) (by decide +kernel), List.mem_of_getElem? (i := 901) (by decide +kernel)⟩
theorem lw_p43 : lw_okq (⟨"VotesOnTreeModel", "isNode", "(I)Z"⟩, 46) := ⟨⟨by decide +kernel, by decide +kernel⟩, List.mem_of_getElem? (i := 723) (by decide +kernel), List.mem_of_getElem? (i := 908) (by decide +kernel), List.mem_of_getElem? (i := 909) (by decide +kernel)⟩
theorem lw_p44 : lw_okq (⟨"VotesOnTreeModel", "read", "(II)I"⟩, 46) := ⟨⟨by decide +kernel, by decide +kernel⟩, List.mem_of_getElem? (i := 723) (by decide +kernel), List.mem_of_getElem? (i := 938) (by decide +kernel), List.mem_of_getElem? (i := 939) (by decide +kernel)⟩
theorem lw_p45 : lw_okq (⟨"VotesOnTreeModel", "next", "()V"⟩, 46) := ⟨⟨by decide +kernel, by decide +kernel⟩, List.mem_of_getElem? (i := 723) (by decide +kernel), List.mem_of_getElem? (i := 942) (by decide +kernel), List.mem_of_getElem? (i := 943) (by decide +kernel)⟩
theorem lw_p46 : lw_okq (⟨"VotesOnTreeModel", "byteAt", "(I)I"⟩, 46) := ⟨⟨by decide +kernel, by decide +kernel⟩, List.mem_of_getElem? (i := 723) (by decide +kernel), List.mem_of_getElem? (i := 946) (by decide +kernel), List.mem_of_getElem? (i := 947) (by decide +kernel)⟩
theorem lw_p47 : lw_okq (⟨"VotesOnTreeModel", "isWord", "(IIIIIIII)Z"⟩, 46) := ⟨⟨by decide +kernel, by decide +kernel⟩, List.mem_of_getElem? (i := 723) (by decide +kernel), List.mem_of_getElem? (i := 955) (by decide +kernel), List.mem_of_getElem? (i := 956) (by decide +kernel)⟩
def lw_privs_3 : List (MethodName × Nat) := [(⟨"VotesOnTree", "readsClues", "(I)Z"⟩, 9), (⟨"VotesOnTree", "fitsClues", "(I)Z"⟩, 9), (⟨"VotesOnTree", "lawByLot", "(III)I"⟩, 9), (⟨"VotesOnTreeModel", "spell", "(IIIIIIIII)V"⟩, 46), (⟨"VotesOnTreeModel", "lawOf", "(II)I"⟩, 46), (⟨"VotesOnTreeModel", "standing", "(I)I"⟩, 46), (⟨"VotesOnTreeModel", "goes", "(II)I"⟩, 46), (⟨"VotesOnTreeModel", "isTwig", "(II)Z"⟩, 46), (⟨"VotesOnTreeModel", "kidsOf", "(II)I"⟩, 46), (⟨"VotesOnTreeModel", "even", "(I)I"⟩, 46), (⟨"VotesOnTreeModel", "weighs", "(II)I"⟩, 46), (⟨"VotesOnTreeModel", "isNode", "(I)Z"⟩, 46), (⟨"VotesOnTreeModel", "read", "(II)I"⟩, 46), (⟨"VotesOnTreeModel", "next", "()V"⟩, 46), (⟨"VotesOnTreeModel", "byteAt", "(I)I"⟩, 46), (⟨"VotesOnTreeModel", "isWord", "(IIIIIIII)Z"⟩, 46)]
theorem lw_r3 : ∀ q ∈ lw_privs_3, lw_okq q := List.forall_mem_cons.mpr ⟨lw_p32, List.forall_mem_cons.mpr ⟨lw_p33, List.forall_mem_cons.mpr ⟨lw_p34, List.forall_mem_cons.mpr ⟨lw_p35, List.forall_mem_cons.mpr ⟨lw_p36, List.forall_mem_cons.mpr ⟨lw_p37, List.forall_mem_cons.mpr ⟨lw_p38, List.forall_mem_cons.mpr ⟨lw_p39, List.forall_mem_cons.mpr ⟨lw_p40, List.forall_mem_cons.mpr ⟨lw_p41, List.forall_mem_cons.mpr ⟨lw_p42, List.forall_mem_cons.mpr ⟨lw_p43, List.forall_mem_cons.mpr ⟨lw_p44, List.forall_mem_cons.mpr ⟨lw_p45, List.forall_mem_cons.mpr ⟨lw_p46, List.forall_mem_cons.mpr ⟨lw_p47, fun _ h => absurd h List.not_mem_nil⟩⟩⟩⟩⟩⟩⟩⟩⟩⟩⟩⟩⟩⟩⟩⟩
theorem lw_p48 : lw_okq (⟨"VotesOnTreeModel", "isLetter", "(II)Z"⟩, 46) := ⟨⟨by decide +kernel, by decide +kernel⟩, List.mem_of_getElem? (i := 723) (by decide +kernel), List.mem_of_getElem? (i := 959) (by decide +kernel), List.mem_of_getElem? (i := 960) (by decide +kernel)⟩
theorem lw_p49 : lw_okq (⟨"VotesOnTreeModel", "part", "(Z)I"⟩, 46) := ⟨⟨by decide +kernel, by decide +kernel⟩, List.mem_of_getElem? (i := 723) (by decide +kernel), List.mem_of_getElem? (i := 963) (by decide +kernel), List.mem_of_getElem? (i := 964) (by decide +kernel)⟩
theorem lw_p50 : lw_okq (⟨"VotesOnTreeModel", "fail", "()V"⟩, 46) := ⟨⟨by decide +kernel, by decide +kernel⟩, List.mem_of_getElem? (i := 723) (by decide +kernel), List.mem_of_getElem? (i := 967) (by decide +kernel), List.mem_of_getElem? (i := 968) (by decide +kernel)⟩
theorem lw_p51 : lw_okq (⟨"VotesOnTreeModel", "either", "()I"⟩, 46) := ⟨⟨by decide +kernel, by decide +kernel⟩, List.mem_of_getElem? (i := 723) (by decide +kernel), List.mem_of_getElem? (i := 971) (by decide +kernel), List.mem_of_getElem? (i := 972) (by decide +kernel)⟩
theorem lw_p52 : lw_okq (⟨"VotesOnTreeModel", "both", "()I"⟩, 46) := ⟨⟨by decide +kernel, by decide +kernel⟩, List.mem_of_getElem? (i := 723) (by decide +kernel), List.mem_of_getElem? (i := 975) (by decide +kernel), List.mem_of_getElem? (i := 976) (by decide +kernel)⟩
theorem lw_p53 : lw_okq (⟨"VotesOnTreeModel", "not", "()I"⟩, 46) := ⟨⟨by decide +kernel, by decide +kernel⟩, List.mem_of_getElem? (i := 723) (by decide +kernel), List.mem_of_getElem? (i := 979) (by decide +kernel), List.mem_of_getElem? (i := 980) (by decide +kernel)⟩
theorem lw_p54 : lw_okq (⟨"VotesOnTreeModel", "opens", "()Z"⟩, 46) := ⟨⟨by decide +kernel, by decide +kernel⟩, List.mem_of_getElem? (i := 723) (by decide +kernel), List.mem_of_getElem? (i := 983) (by decide +kernel), List.mem_of_getElem? (i := 984) (by decide +kernel)⟩
theorem lw_p55 : lw_okq (⟨"VotesOnTreeModel", "added", "()I"⟩, 46) := ⟨⟨by decide +kernel, by decide +kernel⟩, List.mem_of_getElem? (i := 723) (by decide +kernel), List.mem_of_getElem? (i := 987) (by decide +kernel), List.mem_of_getElem? (i := 988) (by decide +kernel)⟩
theorem lw_p56 : lw_okq (⟨"VotesOnTreeModel", "term", "()I"⟩, 46) := ⟨⟨by decide +kernel, by decide +kernel⟩, List.mem_of_getElem? (i := 723) (by decide +kernel), List.mem_of_getElem? (i := 991) (by decide +kernel), List.mem_of_getElem? (i := 992) (by decide +kernel)⟩
theorem lw_p57 : lw_okq (⟨"VotesOnTreeModel", "atom", "()I"⟩, 46) := ⟨⟨by decide +kernel, by decide +kernel⟩, List.mem_of_getElem? (i := 723) (by decide +kernel), List.mem_of_getElem? (i := 995) (by decide +kernel), List.mem_of_getElem? (i := 996) (by decide +kernel)⟩
theorem lw_p58 : lw_okq (⟨"VotesOnTreeModel", "isSign", "(I)Z"⟩, 46) := ⟨⟨by decide +kernel, by decide +kernel⟩, List.mem_of_getElem? (i := 723) (by decide +kernel), List.mem_of_getElem? (i := 999) (by decide +kernel), List.mem_of_getElem? (i := 1000) (by decide +kernel)⟩
theorem lw_p59 : lw_okq (⟨"VotesOnTreeModel", "name", "()I"⟩, 46) := ⟨⟨by decide +kernel, by decide +kernel⟩, List.mem_of_getElem? (i := 723) (by decide +kernel), List.mem_of_getElem? (i := 1003) (by decide +kernel), List.mem_of_getElem? (i := 1004) (by decide +kernel)⟩
theorem lw_p60 : lw_okq (⟨"VotesOnTreeModel", "says", "(II)I"⟩, 46) := ⟨⟨by decide +kernel, by decide +kernel⟩, List.mem_of_getElem? (i := 723) (by decide +kernel), List.mem_of_getElem? (i := 1018) (by decide +kernel), List.mem_of_getElem? (i := 1019) (by decide +kernel)⟩
theorem lw_p61 : lw_okq (⟨"VotesOnTreeModel", "growsFrom", "(II)Z"⟩, 46) := ⟨⟨by decide +kernel, by decide +kernel⟩, List.mem_of_getElem? (i := 723) (by decide +kernel), List.mem_of_getElem? (i := 1022) (by decide +kernel), List.mem_of_getElem? (i := 1023) (by decide +kernel)⟩
theorem lw_p62 : lw_okq (⟨"VotesOnTreeModel", "twigs", "(I)I"⟩, 46) := ⟨⟨by decide +kernel, by decide +kernel⟩, List.mem_of_getElem? (i := 723) (by decide +kernel), List.mem_of_getElem? (i := 1048) (by decide +kernel), List.mem_of_getElem? (i := 1049) (by decide +kernel)⟩
theorem lw_p63 : lw_okq (⟨"VotesOnTreeModel", "gathers", "(II)V"⟩, 46) := ⟨⟨by decide +kernel, by decide +kernel⟩, List.mem_of_getElem? (i := 723) (by decide +kernel), List.mem_of_getElem? (i := 1052) (by decide +kernel), List.mem_of_getElem? (i := 1053) (by decide +kernel)⟩
def lw_privs_4 : List (MethodName × Nat) := [(⟨"VotesOnTreeModel", "isLetter", "(II)Z"⟩, 46), (⟨"VotesOnTreeModel", "part", "(Z)I"⟩, 46), (⟨"VotesOnTreeModel", "fail", "()V"⟩, 46), (⟨"VotesOnTreeModel", "either", "()I"⟩, 46), (⟨"VotesOnTreeModel", "both", "()I"⟩, 46), (⟨"VotesOnTreeModel", "not", "()I"⟩, 46), (⟨"VotesOnTreeModel", "opens", "()Z"⟩, 46), (⟨"VotesOnTreeModel", "added", "()I"⟩, 46), (⟨"VotesOnTreeModel", "term", "()I"⟩, 46), (⟨"VotesOnTreeModel", "atom", "()I"⟩, 46), (⟨"VotesOnTreeModel", "isSign", "(I)Z"⟩, 46), (⟨"VotesOnTreeModel", "name", "()I"⟩, 46), (⟨"VotesOnTreeModel", "says", "(II)I"⟩, 46), (⟨"VotesOnTreeModel", "growsFrom", "(II)Z"⟩, 46), (⟨"VotesOnTreeModel", "twigs", "(I)I"⟩, 46), (⟨"VotesOnTreeModel", "gathers", "(II)V"⟩, 46)]
theorem lw_r4 : ∀ q ∈ lw_privs_4, lw_okq q := List.forall_mem_cons.mpr ⟨lw_p48, List.forall_mem_cons.mpr ⟨lw_p49, List.forall_mem_cons.mpr ⟨lw_p50, List.forall_mem_cons.mpr ⟨lw_p51, List.forall_mem_cons.mpr ⟨lw_p52, List.forall_mem_cons.mpr ⟨lw_p53, List.forall_mem_cons.mpr ⟨lw_p54, List.forall_mem_cons.mpr ⟨lw_p55, List.forall_mem_cons.mpr ⟨lw_p56, List.forall_mem_cons.mpr ⟨lw_p57, List.forall_mem_cons.mpr ⟨lw_p58, List.forall_mem_cons.mpr ⟨lw_p59, List.forall_mem_cons.mpr ⟨lw_p60, List.forall_mem_cons.mpr ⟨lw_p61, List.forall_mem_cons.mpr ⟨lw_p62, List.forall_mem_cons.mpr ⟨lw_p63, fun _ h => absurd h List.not_mem_nil⟩⟩⟩⟩⟩⟩⟩⟩⟩⟩⟩⟩⟩⟩⟩⟩
theorem lw_p64 : lw_okq (⟨"VotesOnTreeModel", "priceOf", "(I)I"⟩, 46) := ⟨⟨by decide +kernel, by decide +kernel⟩, List.mem_of_getElem? (i := 723) (by decide +kernel), List.mem_of_getElem? (i := 1056) (by decide +kernel), List.mem_of_getElem? (i := 1057) (by decide +kernel)⟩
theorem lw_p65 : lw_okq (⟨"VotesOnTreeModel", "areApart", "(I)Z"⟩, 46) := ⟨⟨by decide +kernel, by decide +kernel⟩, List.mem_of_getElem? (i := 723) (by decide +kernel), List.mem_of_getElem? (i := 1064) (by decide +kernel), List.mem_of_getElem? (i := 1065) (by decide +kernel)⟩
theorem lw_p66 : lw_okq (⟨"VotesOnTreeModel", "countOf", "(III)I"⟩, 46) := ⟨⟨by decide +kernel, by decide +kernel⟩, List.mem_of_getElem? (i := 723) (by decide +kernel), List.mem_of_getElem? (i := 1076) (by decide +kernel), List.mem_of_getElem? (i := 1077) (by decide +kernel)⟩
theorem lw_p67 : lw_okq (⟨"VotesOnTreeModel", "boughs", "()I"⟩, 46) := ⟨⟨by decide +kernel, by decide +kernel⟩, List.mem_of_getElem? (i := 723) (by decide +kernel), List.mem_of_getElem? (i := 1085) (by decide +kernel), List.mem_of_getElem? (i := 1086) (by decide +kernel)⟩
theorem lw_p68 : lw_okq (⟨"VotesOnTreeModel", "allBy", "(IZI)J"⟩, 46) := ⟨⟨by decide +kernel, by decide +kernel⟩, List.mem_of_getElem? (i := 723) (by decide +kernel), List.mem_of_getElem? (i := 1089) (by decide +kernel), List.mem_of_getElem? (i := 1090) (by decide +kernel)⟩
theorem lw_p69 : lw_okq (⟨"VotesOnTreeModel", "value", "(III)I"⟩, 46) := ⟨⟨by decide +kernel, by decide +kernel⟩, List.mem_of_getElem? (i := 723) (by decide +kernel), List.mem_of_getElem? (i := 1108) (by decide +kernel), List.mem_of_getElem? (i := 1109) (by decide +kernel)⟩
theorem lw_p70 : lw_okq (⟨"VotesOnTreeModel", "isSo", "(II)Z"⟩, 46) := ⟨⟨by decide +kernel, by decide +kernel⟩, List.mem_of_getElem? (i := 723) (by decide +kernel), List.mem_of_getElem? (i := 1120) (by decide +kernel), List.mem_of_getElem? (i := 1121) (by decide +kernel)⟩
def lw_privs_5 : List (MethodName × Nat) := [(⟨"VotesOnTreeModel", "priceOf", "(I)I"⟩, 46), (⟨"VotesOnTreeModel", "areApart", "(I)Z"⟩, 46), (⟨"VotesOnTreeModel", "countOf", "(III)I"⟩, 46), (⟨"VotesOnTreeModel", "boughs", "()I"⟩, 46), (⟨"VotesOnTreeModel", "allBy", "(IZI)J"⟩, 46), (⟨"VotesOnTreeModel", "value", "(III)I"⟩, 46), (⟨"VotesOnTreeModel", "isSo", "(II)Z"⟩, 46)]
theorem lw_r5 : ∀ q ∈ lw_privs_5, lw_okq q := List.forall_mem_cons.mpr ⟨lw_p64, List.forall_mem_cons.mpr ⟨lw_p65, List.forall_mem_cons.mpr ⟨lw_p66, List.forall_mem_cons.mpr ⟨lw_p67, List.forall_mem_cons.mpr ⟨lw_p68, List.forall_mem_cons.mpr ⟨lw_p69, List.forall_mem_cons.mpr ⟨lw_p70, fun _ h => absurd h List.not_mem_nil⟩⟩⟩⟩⟩⟩⟩
def lw_privs : List (MethodName × Nat) := lw_privs_1 ++ (lw_privs_2 ++ (lw_privs_3 ++ (lw_privs_4 ++ (lw_privs_5))))
def lw_tbl : List Cond := k2_sels lw_privs ++ tables_1
theorem lw_privs_ok : ∀ q ∈ lw_privs, lw_okq q := by
  show ∀ q ∈ lw_privs_1 ++ (lw_privs_2 ++ (lw_privs_3 ++ (lw_privs_4 ++ (lw_privs_5)))), lw_okq q
  exact List.forall_mem_append.mpr ⟨lw_r1, List.forall_mem_append.mpr ⟨lw_r2, List.forall_mem_append.mpr ⟨lw_r3, List.forall_mem_append.mpr ⟨lw_r4, lw_r5⟩⟩⟩⟩
-- ===== end of PART A; then your names; then what follows =====
/-- the words that a method's contract may carry -/
def xt_tbl : List Cond := lw_tbl.filter goodWord
theorem xt_tbl_sub {w : Cond} (h : w ∈ xt_tbl) : w ∈ lw_tbl := (List.mem_filter.mp h).1
theorem xt_tbl_good {w : Cond} (h : w ∈ xt_tbl) : (w.onTables && w.keeps) = true ∨ ∃ ty, w = .arrayClass ty := good_of_word (List.mem_filter.mp h).2
theorem xt_tbl_of {w : Cond} (h : w ∈ lw_tbl) (hg : goodWord w = true) : w ∈ xt_tbl := List.mem_filter.mpr ⟨h, hg⟩
end
section
def RX0 : String := "VotesOnTree$Image"
def TX0 : u_T := fun k => match k with
  | 0 => ("VotesOnTree$Image", "there", "Z", false)
  | 1 => ("VotesOnTree$Image", "rule", "I", false)
  | 2 => ("VotesOnTree$Image", "size", "I", false)
  | 3 => ("VotesOnTree$Image", "year", "I", false)
  | 4 => ("VotesOnTree$Image", "gone", "I", false)
  | 5 => ("VotesOnTree$Image", "minds", "I", false)
  | 6 => ("VotesOnTree$Image", "lasts", "I", false)
  | 7 => ("VotesOnTree$Image", "number", "[I", true)
  | _ => ("VotesOnTree$Image", "odds", "[I", true)
def tyX0 : Nat → FieldType := fun k => match k with
  | 0 => .boolean
  | 1 => .int
  | 2 => .int
  | 3 => .int
  | 4 => .int
  | 5 => .int
  | 6 => .int
  | 7 => .array .int
  | _ => .array .int
abbrev wsX00 : List Cond := u_ws RX0 TX0 9
theorem nmX0 : ∀ a, a < 9 → ∀ b, b < 9 → a ≠ b → (TX0 a).2.1 ≠ (TX0 b).2.1 := by decide +kernel
theorem tyX0_ok : ∀ k, k < 9 → parseFieldDescriptor (TX0 k).2.2.1 = some (tyX0 k) := by decide +kernel
abbrev cX0_init : ByteArray := prog_2_method_1_code
def yX0_init : MethodName := ⟨RX0, "<init>", "()V"⟩
abbrev cX0_keep : ByteArray := prog_2_method_2_code
def yX0_keep : MethodName := ⟨RX0, "keep", "(LVotesOnTree$Oak;I)V"⟩
abbrev cX0_layBack : ByteArray := prog_2_method_3_code
def yX0_layBack : MethodName := ⟨RX0, "layBack", "(LVotesOnTree$Oak;)V"⟩
def RX1 : String := "VotesOnTree$Oak"
def TX1 : u_T := fun k => match k with
  | 0 => ("VotesOnTree$Oak", "size", "I", false)
  | 1 => ("VotesOnTree$Oak", "year", "I", false)
  | 2 => ("VotesOnTree$Oak", "gone", "I", false)
  | 3 => ("VotesOnTree$Oak", "minds", "I", false)
  | 4 => ("VotesOnTree$Oak", "lasts", "I", false)
  | 5 => ("VotesOnTree$Oak", "parent", "[I", true)
  | 6 => ("VotesOnTree$Oak", "kind", "[I", true)
  | 7 => ("VotesOnTree$Oak", "number", "[I", true)
  | 8 => ("VotesOnTree$Oak", "odds", "[I", true)
  | 9 => ("VotesOnTree$Oak", "above", "[I", true)
  | 10 => ("VotesOnTree$Oak", "kidCount", "[I", true)
  | _ => ("VotesOnTree$Oak", "lead", "[I", true)
def tyX1 : Nat → FieldType := fun k => match k with
  | 0 => .int
  | 1 => .int
  | 2 => .int
  | 3 => .int
  | 4 => .int
  | 5 => .array .int
  | 6 => .array .int
  | 7 => .array .int
  | 8 => .array .int
  | 9 => .array .int
  | 10 => .array .int
  | _ => .array .int
abbrev wsX10 : List Cond := u_ws RX1 TX1 12
theorem nmX1 : ∀ a, a < 12 → ∀ b, b < 12 → a ≠ b → (TX1 a).2.1 ≠ (TX1 b).2.1 := by decide +kernel
theorem tyX1_ok : ∀ k, k < 12 → parseFieldDescriptor (TX1 k).2.2.1 = some (tyX1 k) := by decide +kernel
abbrev cX1_init : ByteArray := prog_3_method_1_code
def yX1_init : MethodName := ⟨RX1, "<init>", "()V"⟩
abbrev cX1_has : ByteArray := prog_3_method_2_code
def yX1_has : MethodName := ⟨RX1, "has", "(I)Z"⟩
abbrev cX1_sprout : ByteArray := prog_3_method_3_code
def yX1_sprout : MethodName := ⟨RX1, "sprout", "(III)I"⟩
abbrev cX1_standing : ByteArray := prog_3_method_4_code
def yX1_standing : MethodName := ⟨RX1, "standing", "(I)I"⟩
abbrev cX1_twigsOf : ByteArray := prog_3_method_5_code
def yX1_twigsOf : MethodName := ⟨RX1, "twigsOf", "(I)I"⟩
abbrev cX1_kidSet : ByteArray := prog_3_method_6_code
def yX1_kidSet : MethodName := ⟨RX1, "kidSet", "(II)I"⟩
abbrev cX1_kidsOf : ByteArray := prog_3_method_7_code
def yX1_kidsOf : MethodName := ⟨RX1, "kidsOf", "(II)I"⟩
abbrev cX1_isNested : ByteArray := prog_3_method_8_code
def yX1_isNested : MethodName := ⟨RX1, "isNested", "(I)Z"⟩
abbrev cX1_vote : ByteArray := prog_3_method_9_code
def yX1_vote : MethodName := ⟨RX1, "vote", "(II)I"⟩
abbrev cX1_goesByKids : ByteArray := prog_3_method_10_code
def yX1_goesByKids : MethodName := ⟨RX1, "goesByKids", "(I)I"⟩
abbrev cX1_whenEven : ByteArray := prog_3_method_11_code
def yX1_whenEven : MethodName := ⟨RX1, "whenEven", "(I)I"⟩
abbrev cX1_weight : ByteArray := prog_3_method_12_code
def yX1_weight : MethodName := ⟨RX1, "weight", "(II)I"⟩
abbrev cX1_tellFacts : ByteArray := prog_3_method_13_code
def yX1_tellFacts : MethodName := ⟨RX1, "tellFacts", "(II[I)V"⟩
def RX2 : String := "VotesOnTree$Reader"
def TX2 : u_T := fun k => match k with
  | 0 => ("VotesOnTree$Reader", "size", "I", false)
  | 1 => ("VotesOnTree$Reader", "tape", "[I", true)
  | 2 => ("VotesOnTree$Reader", "token", "I", false)
  | 3 => ("VotesOnTree$Reader", "place", "I", false)
  | 4 => ("VotesOnTree$Reader", "at", "I", false)
  | 5 => ("VotesOnTree$Reader", "open", "I", false)
  | 6 => ("VotesOnTree$Reader", "made", "I", false)
  | 7 => ("VotesOnTree$Reader", "steps", "[I", true)
  | _ => ("VotesOnTree$Reader", "ends", "[I", true)
def tyX2 : Nat → FieldType := fun k => match k with
  | 0 => .int
  | 1 => .array .int
  | 2 => .int
  | 3 => .int
  | 4 => .int
  | 5 => .int
  | 6 => .int
  | 7 => .array .int
  | _ => .array .int
abbrev wsX20 : List Cond := u_ws RX2 TX2 9
theorem nmX2 : ∀ a, a < 9 → ∀ b, b < 9 → a ≠ b → (TX2 a).2.1 ≠ (TX2 b).2.1 := by decide +kernel
theorem tyX2_ok : ∀ k, k < 9 → parseFieldDescriptor (TX2 k).2.2.1 = some (tyX2 k) := by decide +kernel
abbrev cX2_init : ByteArray := prog_4_method_1_code
def yX2_init : MethodName := ⟨RX2, "<init>", "()V"⟩
abbrev cX2_put : ByteArray := prog_4_method_2_code
def yX2_put : MethodName := ⟨RX2, "put", "(I)Z"⟩
abbrev cX2_empty : ByteArray := prog_4_method_3_code
def yX2_empty : MethodName := ⟨RX2, "empty", "()V"⟩
abbrev cX2_isText : ByteArray := prog_4_method_4_code
def yX2_isText : MethodName := ⟨RX2, "isText", "()Z"⟩
abbrev cX2_readsPart : ByteArray := prog_4_method_5_code
def yX2_readsPart : MethodName := ⟨RX2, "readsPart", "(II)Z"⟩
abbrev cX2_readsE : ByteArray := prog_4_method_6_code
def yX2_readsE : MethodName := ⟨RX2, "readsE", "()Z"⟩
abbrev cX2_readsAnd : ByteArray := prog_4_method_7_code
def yX2_readsAnd : MethodName := ⟨RX2, "readsAnd", "()Z"⟩
abbrev cX2_readsNot : ByteArray := prog_4_method_8_code
def yX2_readsNot : MethodName := ⟨RX2, "readsNot", "()Z"⟩
abbrev cX2_readsComparison : ByteArray := prog_4_method_9_code
def yX2_readsComparison : MethodName := ⟨RX2, "readsComparison", "()Z"⟩
abbrev cX2_readsSum : ByteArray := prog_4_method_10_code
def yX2_readsSum : MethodName := ⟨RX2, "readsSum", "()Z"⟩
abbrev cX2_readsTerm : ByteArray := prog_4_method_11_code
def yX2_readsTerm : MethodName := ⟨RX2, "readsTerm", "()Z"⟩
abbrev cX2_readsOne : ByteArray := prog_4_method_12_code
def yX2_readsOne : MethodName := ⟨RX2, "readsOne", "()Z"⟩
abbrev cX2_readsPlainOne : ByteArray := prog_4_method_13_code
def yX2_readsPlainOne : MethodName := ⟨RX2, "readsPlainOne", "()Z"⟩
abbrev cX2_opensAll : ByteArray := prog_4_method_14_code
def yX2_opensAll : MethodName := ⟨RX2, "opensAll", "(I)I"⟩
abbrev cX2_closes : ByteArray := prog_4_method_15_code
def yX2_closes : MethodName := ⟨RX2, "closes", "(II)Z"⟩
abbrev cX2_takes : ByteArray := prog_4_method_16_code
def yX2_takes : MethodName := ⟨RX2, "takes", "(I)Z"⟩
abbrev cX2_make : ByteArray := prog_4_method_17_code
def yX2_make : MethodName := ⟨RX2, "make", "(I)V"⟩
abbrev cX2_next : ByteArray := prog_4_method_18_code
def yX2_next : MethodName := ⟨RX2, "next", "()V"⟩
abbrev cX2_isLetter : ByteArray := prog_4_method_19_code
def yX2_isLetter : MethodName := ⟨RX2, "isLetter", "(I)Z"⟩
abbrev cX2_isDigit : ByteArray := prog_4_method_20_code
def yX2_isDigit : MethodName := ⟨RX2, "isDigit", "(I)Z"⟩
abbrev cX2_figure : ByteArray := prog_4_method_21_code
def yX2_figure : MethodName := ⟨RX2, "figure", "()I"⟩
abbrev cX2_sign : ByteArray := prog_4_method_22_code
def yX2_sign : MethodName := ⟨RX2, "sign", "(I)I"⟩
abbrev cX2_word : ByteArray := prog_4_method_23_code
def yX2_word : MethodName := ⟨RX2, "word", "()I"⟩
abbrev cX2_spells : ByteArray := prog_4_method_24_code
def yX2_spells : MethodName := ⟨RX2, "spells", "(Ljava/lang/String;)Z"⟩
def RX3 : String := "VotesOnTree$Sheets"
def TX3 : u_T := fun k => match k with
  | 0 => ("VotesOnTree$Sheets", "sort", "[I", true)
  | 1 => ("VotesOnTree$Sheets", "size", "[I", true)
  | _ => ("VotesOnTree$Sheets", "items", "[I", true)
def tyX3 : Nat → FieldType := fun k => match k with
  | 0 => .array .int
  | 1 => .array .int
  | _ => .array .int
abbrev wsX30 : List Cond := u_ws RX3 TX3 3
theorem nmX3 : ∀ a, a < 3 → ∀ b, b < 3 → a ≠ b → (TX3 a).2.1 ≠ (TX3 b).2.1 := by decide +kernel
theorem tyX3_ok : ∀ k, k < 3 → parseFieldDescriptor (TX3 k).2.2.1 = some (tyX3 k) := by decide +kernel
abbrev cX3_init : ByteArray := prog_5_method_1_code
def yX3_init : MethodName := ⟨RX3, "<init>", "()V"⟩
abbrev cX3_lay : ByteArray := prog_5_method_2_code
def yX3_lay : MethodName := ⟨RX3, "lay", "(III)V"⟩
abbrev cX3_holds : ByteArray := prog_5_method_3_code
def yX3_holds : MethodName := ⟨RX3, "holds", "(III)Z"⟩
abbrev cX3_read : ByteArray := prog_5_method_4_code
def yX3_read : MethodName := ⟨RX3, "read", "(II)I"⟩
abbrev cX3_write : ByteArray := prog_5_method_5_code
def yX3_write : MethodName := ⟨RX3, "write", "(III)V"⟩
abbrev cX3_move : ByteArray := prog_5_method_6_code
def yX3_move : MethodName := ⟨RX3, "move", "(IIIII)V"⟩
def RX4 : String := "VotesOnTree$Texts"
def TX4 : u_T := fun k => match k with
  | 0 => ("VotesOnTree$Texts", "size", "I", false)
  | 1 => ("VotesOnTree$Texts", "rule", "I", false)
  | 2 => ("VotesOnTree$Texts", "steps", "[I", true)
  | 3 => ("VotesOnTree$Texts", "ends", "[I", true)
  | _ => ("VotesOnTree$Texts", "stack", "[I", true)
def tyX4 : Nat → FieldType := fun k => match k with
  | 0 => .int
  | 1 => .int
  | 2 => .array .int
  | 3 => .array .int
  | _ => .array .int
abbrev wsX40 : List Cond := u_ws RX4 TX4 5
theorem nmX4 : ∀ a, a < 5 → ∀ b, b < 5 → a ≠ b → (TX4 a).2.1 ≠ (TX4 b).2.1 := by decide +kernel
theorem tyX4_ok : ∀ k, k < 5 → parseFieldDescriptor (TX4 k).2.2.1 = some (tyX4 k) := by decide +kernel
abbrev cX4_init : ByteArray := prog_6_method_1_code
def yX4_init : MethodName := ⟨RX4, "<init>", "()V"⟩
abbrev cX4_add : ByteArray := prog_6_method_2_code
def yX4_add : MethodName := ⟨RX4, "add", "(LVotesOnTree$Reader;)I"⟩
abbrev cX4_value : ByteArray := prog_6_method_3_code
def yX4_value : MethodName := ⟨RX4, "value", "(I[I)I"⟩
abbrev cX4_truth : ByteArray := prog_6_method_4_code
def yX4_truth : MethodName := ⟨RX4, "truth", "(Z)I"⟩
abbrev cX4_joined : ByteArray := prog_6_method_5_code
def yX4_joined : MethodName := ⟨RX4, "joined", "(III)I"⟩
def RX5 : String := "VotesOnTree"
def TX5 : u_T := fun k => match k with
  | 0 => ("VotesOnTree", "oak", "LVotesOnTree$Oak;", true)
  | 1 => ("VotesOnTree", "reader", "LVotesOnTree$Reader;", true)
  | 2 => ("VotesOnTree", "texts", "LVotesOnTree$Texts;", true)
  | 3 => ("VotesOnTree", "sheets", "LVotesOnTree$Sheets;", true)
  | 4 => ("VotesOnTree", "kept", "LVotesOnTree$Image;", true)
  | 5 => ("VotesOnTree", "prices", "[I", true)
  | 6 => ("VotesOnTree", "facts", "[I", true)
  | 7 => ("VotesOnTree", "laws", "[I", true)
  | _ => ("VotesOnTree", "clues", "[I", true)
def tyX5 : Nat → FieldType := fun k => match k with
  | 0 => .object "VotesOnTree$Oak"
  | 1 => .object "VotesOnTree$Reader"
  | 2 => .object "VotesOnTree$Texts"
  | 3 => .object "VotesOnTree$Sheets"
  | 4 => .object "VotesOnTree$Image"
  | 5 => .array .int
  | 6 => .array .int
  | 7 => .array .int
  | _ => .array .int
abbrev wsX50 : List Cond := u_ws RX5 TX5 9
theorem nmX5 : ∀ a, a < 9 → ∀ b, b < 9 → a ≠ b → (TX5 a).2.1 ≠ (TX5 b).2.1 := by decide +kernel
theorem tyX5_ok : ∀ k, k < 9 → parseFieldDescriptor (TX5 k).2.2.1 = some (tyX5 k) := by decide +kernel
abbrev cX5_init : ByteArray := prog_1_method_1_code
def yX5_init : MethodName := ⟨RX5, "<init>", "()V"⟩
abbrev cX5_grow : ByteArray := prog_1_method_2_code
def yX5_grow : MethodName := ⟨RX5, "grow", "(III)I"⟩
abbrev cX5_set : ByteArray := prog_1_method_3_code
def yX5_set : MethodName := ⟨RX5, "set", "(III)I"⟩
abbrev cX5_putYear : ByteArray := prog_1_method_4_code
def yX5_putYear : MethodName := ⟨RX5, "putYear", "(I)I"⟩
abbrev cX5_mostOf : ByteArray := prog_1_method_5_code
def yX5_mostOf : MethodName := ⟨RX5, "mostOf", "(I)I"⟩
abbrev cX5_told : ByteArray := prog_1_method_6_code
def yX5_told : MethodName := ⟨RX5, "told", "(II)I"⟩
abbrev cX5_asks : ByteArray := prog_1_method_7_code
def yX5_asks : MethodName := ⟨RX5, "asks", "(II)I"⟩
abbrev cX5_feed : ByteArray := prog_1_method_8_code
def yX5_feed : MethodName := ⟨RX5, "feed", "(I)I"⟩
abbrev cX5_text : ByteArray := prog_1_method_9_code
def yX5_text : MethodName := ⟨RX5, "text", "()I"⟩
abbrev cX5_force : ByteArray := prog_1_method_10_code
def yX5_force : MethodName := ⟨RX5, "force", "(I)I"⟩
abbrev cX5_law : ByteArray := prog_1_method_11_code
def yX5_law : MethodName := ⟨RX5, "law", "()I"⟩
abbrev cX5_pass : ByteArray := prog_1_method_12_code
def yX5_pass : MethodName := ⟨RX5, "pass", "()I"⟩
abbrev cX5_cut : ByteArray := prog_1_method_13_code
def yX5_cut : MethodName := ⟨RX5, "cut", "(I)I"⟩
abbrev cX5_graft : ByteArray := prog_1_method_14_code
def yX5_graft : MethodName := ⟨RX5, "graft", "(I)I"⟩
abbrev cX5_minds : ByteArray := prog_1_method_15_code
def yX5_minds : MethodName := ⟨RX5, "minds", "(III)I"⟩
abbrev cX5_cuts : ByteArray := prog_1_method_16_code
def yX5_cuts : MethodName := ⟨RX5, "cuts", "(III)I"⟩
abbrev cX5_lopsided : ByteArray := prog_1_method_17_code
def yX5_lopsided : MethodName := ⟨RX5, "lopsided", "(I)I"⟩
abbrev cX5_counts : ByteArray := prog_1_method_18_code
def yX5_counts : MethodName := ⟨RX5, "counts", "(I)I"⟩
abbrev cX5_sure : ByteArray := prog_1_method_19_code
def yX5_sure : MethodName := ⟨RX5, "sure", "(II)J"⟩
abbrev cX5_prop : ByteArray := prog_1_method_20_code
def yX5_prop : MethodName := ⟨RX5, "prop", "()I"⟩
abbrev cX5_turns : ByteArray := prog_1_method_21_code
def yX5_turns : MethodName := ⟨RX5, "turns", "(II)I"⟩
abbrev cX5_whoCut : ByteArray := prog_1_method_22_code
def yX5_whoCut : MethodName := ⟨RX5, "whoCut", "(II)I"⟩
abbrev cX5_drawn : ByteArray := prog_1_method_23_code
def yX5_drawn : MethodName := ⟨RX5, "drawn", "(I)I"⟩
abbrev cX5_chance : ByteArray := prog_1_method_24_code
def yX5_chance : MethodName := ⟨RX5, "chance", "(III)J"⟩
abbrev cX5_image : ByteArray := prog_1_method_25_code
def yX5_image : MethodName := ⟨RX5, "image", "()I"⟩
abbrev cX5_back : ByteArray := prog_1_method_26_code
def yX5_back : MethodName := ⟨RX5, "back", "()I"⟩
abbrev cX5_count : ByteArray := prog_1_method_27_code
def yX5_count : MethodName := ⟨RX5, "count", "(I)I"⟩
abbrev cX5_sheet : ByteArray := prog_1_method_28_code
def yX5_sheet : MethodName := ⟨RX5, "sheet", "(III)I"⟩
abbrev cX5_cell : ByteArray := prog_1_method_29_code
def yX5_cell : MethodName := ⟨RX5, "cell", "(III)I"⟩
abbrev cX5_copy : ByteArray := prog_1_method_30_code
def yX5_copy : MethodName := ⟨RX5, "copy", "(IIIII)I"⟩
abbrev cX5_nodes : ByteArray := prog_1_method_31_code
def yX5_nodes : MethodName := ⟨RX5, "nodes", "(IIII)I"⟩
abbrev cX5_taken : ByteArray := prog_1_method_32_code
def yX5_taken : MethodName := ⟨RX5, "taken", "(II)I"⟩
abbrev cX5_isIn : ByteArray := prog_1_method_33_code
def yX5_isIn : MethodName := ⟨RX5, "isIn", "(III)Z"⟩
abbrev cX5_bit : ByteArray := prog_1_method_34_code
def yX5_bit : MethodName := ⟨RX5, "bit", "(II)I"⟩
abbrev cX5_withBit : ByteArray := prog_1_method_35_code
def yX5_withBit : MethodName := ⟨RX5, "withBit", "(III)I"⟩
abbrev cX5_waysOf : ByteArray := prog_1_method_36_code
def yX5_waysOf : MethodName := ⟨RX5, "waysOf", "(I)I"⟩
abbrev cX5_nextSet : ByteArray := prog_1_method_37_code
def yX5_nextSet : MethodName := ⟨RX5, "nextSet", "(II)I"⟩
abbrev cX5_isUnder : ByteArray := prog_1_method_38_code
def yX5_isUnder : MethodName := ⟨RX5, "isUnder", "(II)Z"⟩
abbrev cX5_lawNow : ByteArray := prog_1_method_39_code
def yX5_lawNow : MethodName := ⟨RX5, "lawNow", "()I"⟩
abbrev cX5_lawIfCut : ByteArray := prog_1_method_40_code
def yX5_lawIfCut : MethodName := ⟨RX5, "lawIfCut", "(I)I"⟩
abbrev cX5_priceOf : ByteArray := prog_1_method_41_code
def yX5_priceOf : MethodName := ⟨RX5, "priceOf", "(III)I"⟩
abbrev cX5_keepPrices : ByteArray := prog_1_method_42_code
def yX5_keepPrices : MethodName := ⟨RX5, "keepPrices", "(III)V"⟩
abbrev cX5_priceOfSet : ByteArray := prog_1_method_43_code
def yX5_priceOfSet : MethodName := ⟨RX5, "priceOfSet", "(I)I"⟩
abbrev cX5_leastSet : ByteArray := prog_1_method_44_code
def yX5_leastSet : MethodName := ⟨RX5, "leastSet", "(ZIII)I"⟩
abbrev cX5_brings : ByteArray := prog_1_method_45_code
def yX5_brings : MethodName := ⟨RX5, "brings", "(ZIII)Z"⟩
abbrev cX5_keepLaws : ByteArray := prog_1_method_46_code
def yX5_keepLaws : MethodName := ⟨RX5, "keepLaws", "(I)V"⟩
abbrev cX5_swings : ByteArray := prog_1_method_47_code
def yX5_swings : MethodName := ⟨RX5, "swings", "(II)I"⟩
abbrev cX5_isFair : ByteArray := prog_1_method_48_code
def yX5_isFair : MethodName := ⟨RX5, "isFair", "(I)I"⟩
abbrev cX5_oddsOf : ByteArray := prog_1_method_49_code
def yX5_oddsOf : MethodName := ⟨RX5, "oddsOf", "(II[I)J"⟩
abbrev cX5_hundreds : ByteArray := prog_1_method_50_code
def yX5_hundreds : MethodName := ⟨RX5, "hundreds", "(I)J"⟩
abbrev cX5_mindOdds : ByteArray := prog_1_method_51_code
def yX5_mindOdds : MethodName := ⟨RX5, "mindOdds", "(II)J"⟩
abbrev cX5_stormOdds : ByteArray := prog_1_method_52_code
def yX5_stormOdds : MethodName := ⟨RX5, "stormOdds", "(II)J"⟩
abbrev cX5_lowest : ByteArray := prog_1_method_53_code
def yX5_lowest : MethodName := ⟨RX5, "lowest", "(JJI)J"⟩
abbrev cX5_divisorOf : ByteArray := prog_1_method_54_code
def yX5_divisorOf : MethodName := ⟨RX5, "divisorOf", "(JJ)J"⟩
abbrev cX5_playedOut : ByteArray := prog_1_method_55_code
def yX5_playedOut : MethodName := ⟨RX5, "playedOut", "(LVotesOnTree$Oak;III)I"⟩
abbrev cX5_readsClues : ByteArray := prog_1_method_56_code
def yX5_readsClues : MethodName := ⟨RX5, "readsClues", "(I)Z"⟩
abbrev cX5_fitsClues : ByteArray := prog_1_method_57_code
def yX5_fitsClues : MethodName := ⟨RX5, "fitsClues", "(I)Z"⟩
abbrev cX5_lawByLot : ByteArray := prog_1_method_58_code
def yX5_lawByLot : MethodName := ⟨RX5, "lawByLot", "(III)I"⟩
def RX6 : String := "VotesOnTreeModel"
def TX6 : u_T := fun k => match k with
  | 0 => ("VotesOnTreeModel", "thrown", "I", false)
  | 1 => ("VotesOnTreeModel", "texts", "[I", true)
  | 2 => ("VotesOnTreeModel", "textSize", "[I", true)
  | 3 => ("VotesOnTreeModel", "textCount", "I", false)
  | 4 => ("VotesOnTreeModel", "rule", "I", false)
  | 5 => ("VotesOnTreeModel", "tape", "[I", true)
  | 6 => ("VotesOnTreeModel", "taped", "I", false)
  | 7 => ("VotesOnTreeModel", "n", "I", false)
  | 8 => ("VotesOnTreeModel", "parents", "[I", true)
  | 9 => ("VotesOnTreeModel", "kinds", "[I", true)
  | 10 => ("VotesOnTreeModel", "numbers", "[I", true)
  | 11 => ("VotesOnTreeModel", "odds", "[I", true)
  | 12 => ("VotesOnTreeModel", "minds", "I", false)
  | 13 => ("VotesOnTreeModel", "lasts", "I", false)
  | 14 => ("VotesOnTreeModel", "cutNow", "I", false)
  | 15 => ("VotesOnTreeModel", "year", "I", false)
  | 16 => ("VotesOnTreeModel", "yes", "[I", true)
  | 17 => ("VotesOnTreeModel", "no", "[I", true)
  | 18 => ("VotesOnTreeModel", "ofNode", "I", false)
  | 19 => ("VotesOnTreeModel", "ofDepth", "I", false)
  | 20 => ("VotesOnTreeModel", "ofKids", "I", false)
  | 21 => ("VotesOnTreeModel", "ofTwigs", "I", false)
  | 22 => ("VotesOnTreeModel", "ofLast", "I", false)
  | 23 => ("VotesOnTreeModel", "ofYear", "I", false)
  | 24 => ("VotesOnTreeModel", "from", "I", false)
  | 25 => ("VotesOnTreeModel", "size", "I", false)
  | 26 => ("VotesOnTreeModel", "here", "I", false)
  | 27 => ("VotesOnTreeModel", "token", "I", false)
  | 28 => ("VotesOnTreeModel", "tokenAt", "I", false)
  | 29 => ("VotesOnTreeModel", "tokenWorth", "J", false)
  | 30 => ("VotesOnTreeModel", "open", "I", false)
  | 31 => ("VotesOnTreeModel", "bad", "Z", false)
  | 32 => ("VotesOnTreeModel", "fault", "I", false)
  | 33 => ("VotesOnTreeModel", "prices", "[I", true)
  | 34 => ("VotesOnTreeModel", "numbersKept", "[I", true)
  | 35 => ("VotesOnTreeModel", "oddsKept", "[I", true)
  | 36 => ("VotesOnTreeModel", "nKept", "I", false)
  | 37 => ("VotesOnTreeModel", "mindsKept", "I", false)
  | 38 => ("VotesOnTreeModel", "lastsKept", "I", false)
  | 39 => ("VotesOnTreeModel", "cutKept", "I", false)
  | 40 => ("VotesOnTreeModel", "yearKept", "I", false)
  | 41 => ("VotesOnTreeModel", "ruleKept", "I", false)
  | 42 => ("VotesOnTreeModel", "isThere", "[Z", true)
  | 43 => ("VotesOnTreeModel", "sorts", "[I", true)
  | 44 => ("VotesOnTreeModel", "sheetSize", "[I", true)
  | _ => ("VotesOnTreeModel", "items", "[I", true)
def tyX6 : Nat → FieldType := fun k => match k with
  | 0 => .int
  | 1 => .array .int
  | 2 => .array .int
  | 3 => .int
  | 4 => .int
  | 5 => .array .int
  | 6 => .int
  | 7 => .int
  | 8 => .array .int
  | 9 => .array .int
  | 10 => .array .int
  | 11 => .array .int
  | 12 => .int
  | 13 => .int
  | 14 => .int
  | 15 => .int
  | 16 => .array .int
  | 17 => .array .int
  | 18 => .int
  | 19 => .int
  | 20 => .int
  | 21 => .int
  | 22 => .int
  | 23 => .int
  | 24 => .int
  | 25 => .int
  | 26 => .int
  | 27 => .int
  | 28 => .int
  | 29 => .long
  | 30 => .int
  | 31 => .boolean
  | 32 => .int
  | 33 => .array .int
  | 34 => .array .int
  | 35 => .array .int
  | 36 => .int
  | 37 => .int
  | 38 => .int
  | 39 => .int
  | 40 => .int
  | 41 => .int
  | 42 => .array .boolean
  | 43 => .array .int
  | 44 => .array .int
  | _ => .array .int
abbrev wsX60 : List Cond := u_ws RX6 TX6 46
theorem nmX6 : ∀ a, a < 46 → ∀ b, b < 46 → a ≠ b → (TX6 a).2.1 ≠ (TX6 b).2.1 := by decide +kernel
theorem tyX6_ok : ∀ k, k < 46 → parseFieldDescriptor (TX6 k).2.2.1 = some (tyX6 k) := by decide +kernel
abbrev cX6_in : ByteArray := prog_8_method_2_code
def yX6_in : MethodName := ⟨RX6, "in", "(JJJ)Z"⟩
abbrev cX6_within : ByteArray := prog_8_method_3_code
def yX6_within : MethodName := ⟨RX6, "within", "(III)I"⟩
abbrev cX6_bitsOf : ByteArray := prog_8_method_4_code
def yX6_bitsOf : MethodName := ⟨RX6, "bitsOf", "(I)I"⟩
abbrev cX6_init : ByteArray := prog_8_method_5_code
def yX6_init : MethodName := ⟨RX6, "<init>", "()V"⟩
abbrev cX6_spell : ByteArray := prog_8_method_6_code
def yX6_spell : MethodName := ⟨RX6, "spell", "(IIIIIIIII)V"⟩
abbrev cX6_isNode : ByteArray := prog_8_method_7_code
def yX6_isNode : MethodName := ⟨RX6, "isNode", "(I)Z"⟩
abbrev cX6_standing : ByteArray := prog_8_method_8_code
def yX6_standing : MethodName := ⟨RX6, "standing", "(I)I"⟩
abbrev cX6_kidsOf : ByteArray := prog_8_method_9_code
def yX6_kidsOf : MethodName := ⟨RX6, "kidsOf", "(II)I"⟩
abbrev cX6_isTwig : ByteArray := prog_8_method_10_code
def yX6_isTwig : MethodName := ⟨RX6, "isTwig", "(II)Z"⟩
abbrev cX6_twigs : ByteArray := prog_8_method_11_code
def yX6_twigs : MethodName := ⟨RX6, "twigs", "(I)I"⟩
abbrev cX6_weighs : ByteArray := prog_8_method_12_code
def yX6_weighs : MethodName := ⟨RX6, "weighs", "(II)I"⟩
abbrev cX6_even : ByteArray := prog_8_method_13_code
def yX6_even : MethodName := ⟨RX6, "even", "(I)I"⟩
abbrev cX6_goes : ByteArray := prog_8_method_14_code
def yX6_goes : MethodName := ⟨RX6, "goes", "(II)I"⟩
abbrev cX6_lawOf : ByteArray := prog_8_method_15_code
def yX6_lawOf : MethodName := ⟨RX6, "lawOf", "(II)I"⟩
abbrev cX6_law : ByteArray := prog_8_method_16_code
def yX6_law : MethodName := ⟨RX6, "law", "()I"⟩
abbrev cX6_grow : ByteArray := prog_8_method_17_code
def yX6_grow : MethodName := ⟨RX6, "grow", "(III)I"⟩
abbrev cX6_set : ByteArray := prog_8_method_18_code
def yX6_set : MethodName := ⟨RX6, "set", "(III)I"⟩
abbrev cX6_told : ByteArray := prog_8_method_19_code
def yX6_told : MethodName := ⟨RX6, "told", "(II)I"⟩
abbrev cX6_feed : ByteArray := prog_8_method_20_code
def yX6_feed : MethodName := ⟨RX6, "feed", "(I)I"⟩
abbrev cX6_byteAt : ByteArray := prog_8_method_21_code
def yX6_byteAt : MethodName := ⟨RX6, "byteAt", "(I)I"⟩
abbrev cX6_next : ByteArray := prog_8_method_22_code
def yX6_next : MethodName := ⟨RX6, "next", "()V"⟩
abbrev cX6_fail : ByteArray := prog_8_method_23_code
def yX6_fail : MethodName := ⟨RX6, "fail", "()V"⟩
abbrev cX6_isLetter : ByteArray := prog_8_method_24_code
def yX6_isLetter : MethodName := ⟨RX6, "isLetter", "(II)Z"⟩
abbrev cX6_isWord : ByteArray := prog_8_method_25_code
def yX6_isWord : MethodName := ⟨RX6, "isWord", "(IIIIIIII)Z"⟩
abbrev cX6_isSign : ByteArray := prog_8_method_26_code
def yX6_isSign : MethodName := ⟨RX6, "isSign", "(I)Z"⟩
abbrev cX6_opens : ByteArray := prog_8_method_27_code
def yX6_opens : MethodName := ⟨RX6, "opens", "()Z"⟩
abbrev cX6_name : ByteArray := prog_8_method_28_code
def yX6_name : MethodName := ⟨RX6, "name", "()I"⟩
abbrev cX6_atom : ByteArray := prog_8_method_29_code
def yX6_atom : MethodName := ⟨RX6, "atom", "()I"⟩
abbrev cX6_term : ByteArray := prog_8_method_30_code
def yX6_term : MethodName := ⟨RX6, "term", "()I"⟩
abbrev cX6_added : ByteArray := prog_8_method_31_code
def yX6_added : MethodName := ⟨RX6, "added", "()I"⟩
abbrev cX6_not : ByteArray := prog_8_method_32_code
def yX6_not : MethodName := ⟨RX6, "not", "()I"⟩
abbrev cX6_both : ByteArray := prog_8_method_33_code
def yX6_both : MethodName := ⟨RX6, "both", "()I"⟩
abbrev cX6_either : ByteArray := prog_8_method_34_code
def yX6_either : MethodName := ⟨RX6, "either", "()I"⟩
abbrev cX6_part : ByteArray := prog_8_method_35_code
def yX6_part : MethodName := ⟨RX6, "part", "(Z)I"⟩
abbrev cX6_read : ByteArray := prog_8_method_36_code
def yX6_read : MethodName := ⟨RX6, "read", "(II)I"⟩
abbrev cX6_text : ByteArray := prog_8_method_37_code
def yX6_text : MethodName := ⟨RX6, "text", "()I"⟩
abbrev cX6_force : ByteArray := prog_8_method_38_code
def yX6_force : MethodName := ⟨RX6, "force", "(I)I"⟩
abbrev cX6_growsFrom : ByteArray := prog_8_method_39_code
def yX6_growsFrom : MethodName := ⟨RX6, "growsFrom", "(II)Z"⟩
abbrev cX6_says : ByteArray := prog_8_method_40_code
def yX6_says : MethodName := ⟨RX6, "says", "(II)I"⟩
abbrev cX6_asks : ByteArray := prog_8_method_41_code
def yX6_asks : MethodName := ⟨RX6, "asks", "(II)I"⟩
abbrev cX6_pass : ByteArray := prog_8_method_42_code
def yX6_pass : MethodName := ⟨RX6, "pass", "()I"⟩
abbrev cX6_cut : ByteArray := prog_8_method_43_code
def yX6_cut : MethodName := ⟨RX6, "cut", "(I)I"⟩
abbrev cX6_graft : ByteArray := prog_8_method_44_code
def yX6_graft : MethodName := ⟨RX6, "graft", "(I)I"⟩
abbrev cX6_priceOf : ByteArray := prog_8_method_45_code
def yX6_priceOf : MethodName := ⟨RX6, "priceOf", "(I)I"⟩
abbrev cX6_gathers : ByteArray := prog_8_method_46_code
def yX6_gathers : MethodName := ⟨RX6, "gathers", "(II)V"⟩
abbrev cX6_minds : ByteArray := prog_8_method_47_code
def yX6_minds : MethodName := ⟨RX6, "minds", "(III)I"⟩
abbrev cX6_areApart : ByteArray := prog_8_method_48_code
def yX6_areApart : MethodName := ⟨RX6, "areApart", "(I)Z"⟩
abbrev cX6_cuts : ByteArray := prog_8_method_49_code
def yX6_cuts : MethodName := ⟨RX6, "cuts", "(III)I"⟩
abbrev cX6_lopsided : ByteArray := prog_8_method_50_code
def yX6_lopsided : MethodName := ⟨RX6, "lopsided", "(I)I"⟩
abbrev cX6_countOf : ByteArray := prog_8_method_51_code
def yX6_countOf : MethodName := ⟨RX6, "countOf", "(III)I"⟩
abbrev cX6_counts : ByteArray := prog_8_method_52_code
def yX6_counts : MethodName := ⟨RX6, "counts", "(I)I"⟩
abbrev cX6_lowest : ByteArray := prog_8_method_53_code
def yX6_lowest : MethodName := ⟨RX6, "lowest", "(JJI)J"⟩
abbrev cX6_allBy : ByteArray := prog_8_method_54_code
def yX6_allBy : MethodName := ⟨RX6, "allBy", "(IZI)J"⟩
abbrev cX6_hundreds : ByteArray := prog_8_method_55_code
def yX6_hundreds : MethodName := ⟨RX6, "hundreds", "(I)J"⟩
abbrev cX6_boughs : ByteArray := prog_8_method_56_code
def yX6_boughs : MethodName := ⟨RX6, "boughs", "()I"⟩
abbrev cX6_sure : ByteArray := prog_8_method_57_code
def yX6_sure : MethodName := ⟨RX6, "sure", "(II)J"⟩
abbrev cX6_prop : ByteArray := prog_8_method_58_code
def yX6_prop : MethodName := ⟨RX6, "prop", "()I"⟩
abbrev cX6_value : ByteArray := prog_8_method_59_code
def yX6_value : MethodName := ⟨RX6, "value", "(III)I"⟩
abbrev cX6_turns : ByteArray := prog_8_method_60_code
def yX6_turns : MethodName := ⟨RX6, "turns", "(II)I"⟩
abbrev cX6_whoCut : ByteArray := prog_8_method_61_code
def yX6_whoCut : MethodName := ⟨RX6, "whoCut", "(II)I"⟩
abbrev cX6_isSo : ByteArray := prog_8_method_62_code
def yX6_isSo : MethodName := ⟨RX6, "isSo", "(II)Z"⟩
abbrev cX6_drawn : ByteArray := prog_8_method_63_code
def yX6_drawn : MethodName := ⟨RX6, "drawn", "(I)I"⟩
abbrev cX6_chance : ByteArray := prog_8_method_64_code
def yX6_chance : MethodName := ⟨RX6, "chance", "(III)J"⟩
abbrev cX6_image : ByteArray := prog_8_method_65_code
def yX6_image : MethodName := ⟨RX6, "image", "()I"⟩
abbrev cX6_back : ByteArray := prog_8_method_66_code
def yX6_back : MethodName := ⟨RX6, "back", "()I"⟩
abbrev cX6_count : ByteArray := prog_8_method_67_code
def yX6_count : MethodName := ⟨RX6, "count", "(I)I"⟩
abbrev cX6_isSheet : ByteArray := prog_8_method_68_code
def yX6_isSheet : MethodName := ⟨RX6, "isSheet", "(I)Z"⟩
abbrev cX6_sheet : ByteArray := prog_8_method_69_code
def yX6_sheet : MethodName := ⟨RX6, "sheet", "(III)I"⟩
abbrev cX6_cell : ByteArray := prog_8_method_70_code
def yX6_cell : MethodName := ⟨RX6, "cell", "(III)I"⟩
abbrev cX6_copy : ByteArray := prog_8_method_71_code
def yX6_copy : MethodName := ⟨RX6, "copy", "(IIIII)I"⟩
abbrev cX6_nodes : ByteArray := prog_8_method_72_code
def yX6_nodes : MethodName := ⟨RX6, "nodes", "(IIII)I"⟩
abbrev cX6_over : ByteArray := prog_8_method_73_code
def yX6_over : MethodName := ⟨RX6, "over", "(I)I"⟩
abbrev cX6_taken : ByteArray := prog_8_method_74_code
def yX6_taken : MethodName := ⟨RX6, "taken", "(II)I"⟩
def RJ6 : String := "java/lang/Integer"
def TJ6 : u_T := fun k => match k with
  | _ => ("", "", "", false)
def tyJ6 : Nat → FieldType := fun k => match k with
  | _ => .int
abbrev wsJ60 : List Cond := u_ws RJ6 TJ6 0
theorem nmJ6 : ∀ a, a < 0 → ∀ b, b < 0 → a ≠ b → (TJ6 a).2.1 ≠ (TJ6 b).2.1 := by decide +kernel
theorem tyJ6_ok : ∀ k, k < 0 → parseFieldDescriptor (TJ6 k).2.2.1 = some (tyJ6 k) := by decide +kernel
abbrev cJ6_bitCount_0f7a4 : ByteArray := prog_9_method_49_code
def yJ6_bitCount_0f7a4 : MethodName := ⟨RJ6, "bitCount", "(I)I"⟩
def RJ9 : String := "java/lang/Math"
def TJ9 : u_T := fun k => match k with
  | _ => ("", "", "", false)
def tyJ9 : Nat → FieldType := fun k => match k with
  | _ => .int
abbrev wsJ90 : List Cond := u_ws RJ9 TJ9 0
theorem nmJ9 : ∀ a, a < 0 → ∀ b, b < 0 → a ≠ b → (TJ9 a).2.1 ≠ (TJ9 b).2.1 := by decide +kernel
theorem tyJ9_ok : ∀ k, k < 0 → parseFieldDescriptor (TJ9 k).2.2.1 = some (tyJ9 k) := by decide +kernel
abbrev cJ9_max_7cf53 : ByteArray := prog_10_method_65_code
def yJ9_max_7cf53 : MethodName := ⟨RJ9, "max", "(II)I"⟩
abbrev cJ9_min_7cf53 : ByteArray := prog_10_method_69_code
def yJ9_min_7cf53 : MethodName := ⟨RJ9, "min", "(II)I"⟩
def RJ0 : String := "java/lang/String"
def TJ0 : u_T := fun k => match k with
  | _ => ("", "", "", false)
def tyJ0 : Nat → FieldType := fun k => match k with
  | _ => .int
abbrev wsJ00 : List Cond := u_ws RJ0 TJ0 0
theorem nmJ0 : ∀ a, a < 0 → ∀ b, b < 0 → a ≠ b → (TJ0 a).2.1 ≠ (TJ0 b).2.1 := by decide +kernel
theorem tyJ0_ok : ∀ k, k < 0 → parseFieldDescriptor (TJ0 k).2.2.1 = some (tyJ0 k) := by decide +kernel
abbrev cJ0_length_8abf5 : ByteArray := prog_11_method_54_code
def yJ0_length_8abf5 : MethodName := ⟨RJ0, "length", "()I"⟩
abbrev cJ0_charAt_5068e : ByteArray := prog_11_method_56_code
def yJ0_charAt_5068e : MethodName := ⟨RJ0, "charAt", "(I)C"⟩
abbrev cJ0_coder_7d493 : ByteArray := prog_11_method_152_code
def yJ0_coder_7d493 : MethodName := ⟨RJ0, "coder", "()B"⟩
abbrev cJ0_isLatin1_aae02 : ByteArray := prog_11_method_154_code
def yJ0_isLatin1_aae02 : MethodName := ⟨RJ0, "isLatin1", "()Z"⟩
abbrev cJ0_checkIndex_df160 : ByteArray := prog_11_method_155_code
def yJ0_checkIndex_df160 : MethodName := ⟨RJ0, "checkIndex", "(II)V"⟩
def RJ1 : String := "java/lang/StringLatin1"
def TJ1 : u_T := fun k => match k with
  | _ => ("", "", "", false)
def tyJ1 : Nat → FieldType := fun k => match k with
  | _ => .int
abbrev wsJ10 : List Cond := u_ws RJ1 TJ1 0
theorem nmJ1 : ∀ a, a < 0 → ∀ b, b < 0 → a ≠ b → (TJ1 a).2.1 ≠ (TJ1 b).2.1 := by decide +kernel
theorem tyJ1_ok : ∀ k, k < 0 → parseFieldDescriptor (TJ1 k).2.2.1 = some (tyJ1 k) := by decide +kernel
abbrev cJ1_charAt_3b067 : ByteArray := prog_12_method_2_code
def yJ1_charAt_3b067 : MethodName := ⟨RJ1, "charAt", "([BI)C"⟩
def RJ2 : String := "java/lang/StringUTF16"
def TJ2 : u_T := fun k => match k with
  | _ => ("", "", "", false)
def tyJ2 : Nat → FieldType := fun k => match k with
  | _ => .int
abbrev wsJ20 : List Cond := u_ws RJ2 TJ2 0
theorem nmJ2 : ∀ a, a < 0 → ∀ b, b < 0 → a ≠ b → (TJ2 a).2.1 ≠ (TJ2 b).2.1 := by decide +kernel
theorem tyJ2_ok : ∀ k, k < 0 → parseFieldDescriptor (TJ2 k).2.2.1 = some (tyJ2 k) := by decide +kernel
abbrev cJ2_getChar_3b067 : ByteArray := prog_13_method_5_code
def yJ2_getChar_3b067 : MethodName := ⟨RJ2, "getChar", "([BI)C"⟩
abbrev cJ2_length_9d52b : ByteArray := prog_13_method_6_code
def yJ2_length_9d52b : MethodName := ⟨RJ2, "length", "([B)I"⟩
abbrev cJ2_charAt_3b067 : ByteArray := prog_13_method_83_code
def yJ2_charAt_3b067 : MethodName := ⟨RJ2, "charAt", "([BI)C"⟩
abbrev cJ2_checkIndex_2214a : ByteArray := prog_13_method_91_code
def yJ2_checkIndex_2214a : MethodName := ⟨RJ2, "checkIndex", "(I[B)V"⟩
def RJ10 : String := "java/lang/System"
def TJ10 : u_T := fun k => match k with
  | _ => ("", "", "", false)
def tyJ10 : Nat → FieldType := fun k => match k with
  | _ => .int
abbrev wsJ100 : List Cond := u_ws RJ10 TJ10 0
theorem nmJ10 : ∀ a, a < 0 → ∀ b, b < 0 → a ≠ b → (TJ10 a).2.1 ≠ (TJ10 b).2.1 := by decide +kernel
theorem tyJ10_ok : ∀ k, k < 0 → parseFieldDescriptor (TJ10 k).2.2.1 = some (tyJ10 k) := by decide +kernel
def RJ7 : String := "java/util/Arrays"
def TJ7 : u_T := fun k => match k with
  | _ => ("", "", "", false)
def tyJ7 : Nat → FieldType := fun k => match k with
  | _ => .int
abbrev wsJ70 : List Cond := u_ws RJ7 TJ7 0
theorem nmJ7 : ∀ a, a < 0 → ∀ b, b < 0 → a ≠ b → (TJ7 a).2.1 ≠ (TJ7 b).2.1 := by decide +kernel
theorem tyJ7_ok : ∀ k, k < 0 → parseFieldDescriptor (TJ7 k).2.2.1 = some (tyJ7 k) := by decide +kernel
abbrev cJ7_fill_53178 : ByteArray := prog_15_method_103_code
def yJ7_fill_53178 : MethodName := ⟨RJ7, "fill", "([II)V"⟩
def RJ3 : String := "jdk/internal/util/Preconditions"
def TJ3 : u_T := fun k => match k with
  | _ => ("", "", "", false)
def tyJ3 : Nat → FieldType := fun k => match k with
  | _ => .int
abbrev wsJ30 : List Cond := u_ws RJ3 TJ3 0
theorem nmJ3 : ∀ a, a < 0 → ∀ b, b < 0 → a ≠ b → (TJ3 a).2.1 ≠ (TJ3 b).2.1 := by decide +kernel
theorem tyJ3_ok : ∀ k, k < 0 → parseFieldDescriptor (TJ3 k).2.2.1 = some (tyJ3 k) := by decide +kernel
abbrev cJ3_checkIndex_8e157 : ByteArray := prog_16_method_11_code
def yJ3_checkIndex_8e157 : MethodName := ⟨RJ3, "checkIndex", "(IILjava/util/function/BiFunction;)I"⟩
def RL : String := "VotesOnTreeLaw"
abbrev cL_law : ByteArray := code
def yL_law : MethodName := ⟨RL, "law", "([I)Z"⟩
abbrev vwCl : List vw_C := [(RX0, TX0, 9), (RX1, TX1, 12), (RX2, TX2, 9), (RX3, TX3, 3), (RX4, TX4, 5), (RX5, TX5, 9), (RX6, TX6, 46)]
theorem inX0 : ∀ w ∈ u_ws RX0 TX0 9, w ∈ xt_tbl := by decide +kernel
theorem inX1 : ∀ w ∈ u_ws RX1 TX1 12, w ∈ xt_tbl := by decide +kernel
theorem inX2 : ∀ w ∈ u_ws RX2 TX2 9, w ∈ xt_tbl := by decide +kernel
theorem inX3 : ∀ w ∈ u_ws RX3 TX3 3, w ∈ xt_tbl := by decide +kernel
theorem inX4 : ∀ w ∈ u_ws RX4 TX4 5, w ∈ xt_tbl := by decide +kernel
theorem inX5 : ∀ w ∈ u_ws RX5 TX5 9, w ∈ xt_tbl := by decide +kernel
theorem inX6 : ∀ w ∈ u_ws RX6 TX6 46, w ∈ xt_tbl := by decide +kernel
end
section
/-! a light logic over the kit's W: worlds are lists of cells by their places; a reference is a place -/
abbrev xt_E : Type := (Nat × Nat × (Nat → Int32)) ⊕ (Nat × List Value)
abbrev xt_G : Type := (Nat → Nat) × (Nat → ClassId) × Value
def xt_v (g : xt_G) : Value → Value
  | .ref k => .ref (g.1 k)
  | .retAddr _ => g.2.2
  | v => v
def xt_e (g : xt_G) : xt_E → va_E
  | .inl (t, n, f) => .inl (g.2.1 t, n, .inl f)
  | .inr (ci, fs) => .inr (ci, fs.map (xt_v g))
def xt_c (g : xt_G) (w : List xt_E) : va_W := w.mapIdx (fun k e => (g.1 k, xt_e g e))
theorem xt_c_get {g : xt_G} {w : List xt_E} {q : Nat} {e : xt_E} (h : w[q]? = some e) : (xt_c g w)[q]? = some (g.1 q, xt_e g e) := by
  simp [xt_c, h]
theorem xt_c_set {g : xt_G} {w : List xt_E} {q : Nat} {e : xt_E} : (xt_c g w).set q (g.1 q, xt_e g e) = xt_c g (w.set q e) := by
  apply List.ext_getElem?
  intro i
  simp only [xt_c, List.getElem?_set, List.getElem?_mapIdx, List.length_mapIdx]
  by_cases h : q = i
  · subst h
    by_cases h2 : q < w.length
    · simp [h2]
    · simp [h2]
  · simp [h]
def xt_tys (g : xt_G) : List (ClassId × FieldType) := [(g.2.1 0, .int), (g.2.1 1, .boolean)]
def xt_strs : List (String × Nat × String) := [("VotesOnTree$Reader", 103, "node"), ("VotesOnTree$Reader", 109, "depth"), ("VotesOnTree$Reader", 111, "kids"), ("VotesOnTree$Reader", 113, "twigs"), ("VotesOnTree$Reader", 115, "last"), ("VotesOnTree$Reader", 117, "year"), ("VotesOnTree$Reader", 119, "costs"), ("VotesOnTree$Reader", 121, "falls"), ("VotesOnTree$Reader", 123, "worth"), ("VotesOnTree$Reader", 125, "or"), ("VotesOnTree$Reader", 127, "and"), ("VotesOnTree$Reader", 129, "not"), ("VotesOnTree", 57, "costs twigs * 3 + 1 ; falls depth * 5 ; worth 1 ;")]
def xt_len : List Nat := [4, 5, 4, 5, 4, 4, 5, 5, 5, 2, 3, 3, 49]
def xt_byt : List (List Int32) := [[110, 111, 100, 101], [100, 101, 112, 116, 104], [107, 105, 100, 115], [116, 119, 105, 103, 115], [108, 97, 115, 116], [121, 101, 97, 114], [99, 111, 115, 116, 115], [102, 97, 108, 108, 115], [119, 111, 114, 116, 104], [111, 114], [97, 110, 100], [110, 111, 116], [99, 111, 115, 116, 115, 32, 116, 119, 105, 103, 115, 32, 42, 32, 51, 32, 43, 32, 49, 32, 59, 32, 102, 97, 108, 108, 115, 32, 100, 101, 112, 116, 104, 32, 42, 32, 53, 32, 59, 32, 119, 111, 114, 116, 104, 32, 49, 32, 59]]
def xt_nest : List (String × Nat × MethodName × String) := [(RX1, 53, yX5_isIn, RX5), (RX1, 61, yX5_bit, RX5), (RX1, 65, yX5_withBit, RX5), (RX5, 18, yX2_init, RX5), (RX5, 25, yX4_init, RX5), (RX5, 39, yX0_init, RX5)]
/-- what lies outside the worlds: String constants, links of nest mates, two statics -/
def xt_Z (g : xt_G) (A : Nat → Prop) (U : State) : Prop :=
  vk_S 13 xt_len xt_byt (fun i => g.1 (1000 + i)) (fun i => g.1 (2000 + i)) A U U.heap ∧ (∀ (i : Nat) (t : String × Nat × String), xt_strs[i]? = some t → vk_R t.1 t.2.1 t.2.2 (g.1 (1000 + i)) U) ∧
  (∀ t ∈ xt_nest, va_Nw (.methodLinkNest t.1 t.2.1 t.2.2.1 t.2.2.2) U) ∧ va_Z "java/lang/String" "COMPACT_STRINGS" "Z" (.int 1) A U U.heap ∧ va_Z "jdk/internal/util/Preconditions" "SIOOBE_FORMATTER" "Ljava/util/function/BiFunction;" g.2.2 A U U.heap ∧ g.2.2.category = 1
theorem xt_Z.go {g : xt_G} {A B : Nat → Prop} {s U : State} {locs : List Loc} (h : xt_Z g A s) (hW : s.WarmedH U.vm) (hS : va_S A s.heap U.heap locs) (hAB : ∀ q, B q → A q) : xt_Z g B U := by
  obtain ⟨h1, h2, h3, h4, h5, h6⟩ := h
  have hk : ∀ a : Nat, a < s.heap.size → ¬ A a → U.heap[a]? = s.heap[a]? := hS.2.1
  exact ⟨((h1.kept hk).narrow hAB).moved hW.alike, fun i t ht => (h2 i t ht).warm hW, fun t ht => (h3 t ht).warmM hW, ((h4.kept hk).narrow hAB).moved hW.alike, ((h5.kept hk).narrow hAB).moved hW.alike, h6⟩
theorem xt_Z.calling {g : xt_G} {A : Nat → Prop} {U : State} (h : xt_Z g A U) (f : JFrame) (mk : MethodId) (a : Array Value) : xt_Z g A (U.calling f mk a) := by
  obtain ⟨h1, h2, h3, h4, h5, h6⟩ := h
  exact ⟨h1.moved (Vm.Alike.refl U.vm), fun i t ht => (h2 i t ht).same rfl, fun t ht => (h3 t ht).same rfl rfl, h4.moved (Vm.Alike.refl U.vm), h5.moved (Vm.Alike.refl U.vm), h6⟩
/-- locals, by their places -/
def xt_as (g : xt_G) : Nat → List (Option Value) → List (Nat × Value)
  | _, [] => []
  | i, none :: r => xt_as g (i + 1) r
  | i, some v :: r => (i, xt_v g v) :: xt_as g (i + 1) r
theorem xt_as_mem {g : xt_G} {lv : List (Option Value)} : ∀ {i j : Nat} {u : Value}, (j, u) ∈ xt_as g i lv ↔ ∃ (k : Nat) (v : Value), lv[k]? = some (some v) ∧ j = i + k ∧ u = xt_v g v := by
  induction lv with
  | nil => intro i j u; simp [xt_as]
  | cons a r ih =>
    intro i j u
    cases a with
    | none =>
      simp only [xt_as]
      rw [ih]
      constructor
      · rintro ⟨k, v, h1, h2, h3⟩
        exact ⟨k + 1, v, by simpa using h1, by omega, h3⟩
      · rintro ⟨k, v, h1, h2, h3⟩
        cases k with
        | zero => simp at h1
        | succ k => exact ⟨k, v, by simpa using h1, by omega, h3⟩
    | some x =>
      simp only [xt_as, List.mem_cons]
      rw [ih]
      constructor
      · rintro (h | ⟨k, v, h1, h2, h3⟩)
        · obtain ⟨rfl, rfl⟩ := Prod.mk.inj h
          exact ⟨0, x, by simp, by omega, rfl⟩
        · exact ⟨k + 1, v, by simpa using h1, by omega, h3⟩
      · rintro ⟨k, v, h1, h2, h3⟩
        cases k with
        | zero =>
          left
          simp at h1
          subst h1
          rw [h2, h3]
          rfl
        | succ k => exact Or.inr ⟨k, v, by simpa using h1, by omega, h3⟩
def xt_L (g : xt_G) (ls : Array Slot) (nL : Nat) (lv : List (Option Value)) : Prop := lv.length ≤ nL ∧ lv_has ls nL (xt_as g 0 lv)
theorem xt_L.at {g : xt_G} {ls : Array Slot} {nL : Nat} {lv : List (Option Value)} (h : xt_L g ls nL lv) {i : Nat} {v : Value} (hi : lv[i]? = some (some v)) : ls[i]? = some (.val (xt_v g v)) := h.2.2.2 (i, xt_v g v) (xt_as_mem.mpr ⟨i, v, hi, by omega, rfl⟩)
def xt_nl (lv : List (Option Value)) (i : Nat) : Bool := match i with
  | 0 => true
  | j + 1 => match lv[j]? with
    | some (some (.long _)) => false
    | some (some (.double _)) => false
    | _ => true
theorem xt_cat {g : xt_G} (hg : g.2.2.category = 1) (v : Value) : (xt_v g v).category = v.category := by
  cases v <;> first | rfl | exact hg
theorem xt_nl_ok {g : xt_G} (hg : g.2.2.category = 1) {lv : List (Option Value)} {i k : Nat} (h : xt_nl lv i = true) (hk : k + 1 = i) {v : Value} (hv : lv[k]? = some (some v)) : ¬ (xt_v g v).category = 2 := by
  subst hk
  rw [xt_cat hg]
  simp only [xt_nl, hv] at h
  cases v <;> simp_all [Value.category]
theorem xt_L.st1 {g : xt_G} (hg : g.2.2.category = 1) {ls ls' : Array Slot} {nL : Nat} {lv : List (Option Value)} {i : Nat} {x : Value} (h : xt_L g ls nL lv) (hn : xt_nl lv i = true)
    (h' : lv_has ls' nL ((i, xt_v g x) :: (xt_as g 0 lv).filter (fun q => !(q.1 == i) && !(q.1 + 1 == i && q.2.category == 2)))) : xt_L g ls' nL (lv.set i (some x)) := by
  refine ⟨by simpa using h.1, h'.1, h'.2.1, ?_⟩
  rintro ⟨j, u⟩ hm
  obtain ⟨k, v, h1, h2, h3⟩ := xt_as_mem.mp hm
  have hj : j = k := by omega
  subst hj
  rw [List.getElem?_set] at h1
  by_cases hik : i = j
  · subst hik
    simp only [if_true] at h1
    split at h1
    · simp at h1
      subst h1
      exact h'.2.2 (i, u) (by rw [h3]; exact List.mem_cons_self)
    · simp at h1
  · simp only [hik, if_false] at h1
    refine h'.2.2 (j, u) (List.mem_cons_of_mem _ (List.mem_filter.mpr ⟨xt_as_mem.mpr ⟨j, v, h1, by omega, h3⟩, ?_⟩))
    have e1 : ¬ j = i := fun h => hik h.symm
    by_cases e2 : j + 1 = i
    · have e3 : ¬ u.category = 2 := by rw [h3]; exact xt_nl_ok hg hn e2 h1
      simp [e1, e3]
    · simp [e1, e2]
theorem xt_L.st2 {g : xt_G} (hg : g.2.2.category = 1) {ls ls' : Array Slot} {nL : Nat} {lv : List (Option Value)} {i : Nat} {x : Value} (h : xt_L g ls nL lv) (hn : xt_nl lv i = true)
    (h' : lv_has ls' nL ((i, xt_v g x) :: (xt_as g 0 lv).filter (fun q => !(q.1 == i) && (!(q.1 == i + 1) && !(q.1 + 1 == i && q.2.category == 2))))) : xt_L g ls' nL ((lv.set i (some x)).set (i + 1) none) := by
  refine ⟨by simpa using h.1, h'.1, h'.2.1, ?_⟩
  rintro ⟨j, u⟩ hm
  obtain ⟨k, v, h1, h2, h3⟩ := xt_as_mem.mp hm
  have hj : j = k := by omega
  subst hj
  rw [List.getElem?_set] at h1
  by_cases hik1 : i + 1 = j
  · subst hik1
    simp only [if_true] at h1
    split at h1 <;> simp at h1
  · simp only [hik1, if_false] at h1
    rw [List.getElem?_set] at h1
    by_cases hik : i = j
    · subst hik
      simp only [if_true] at h1
      split at h1
      · simp at h1
        subst h1
        exact h'.2.2 (i, u) (by rw [h3]; exact List.mem_cons_self)
      · simp at h1
    · simp only [hik, if_false] at h1
      refine h'.2.2 (j, u) (List.mem_cons_of_mem _ (List.mem_filter.mpr ⟨xt_as_mem.mpr ⟨j, v, h1, by omega, h3⟩, ?_⟩))
      have e1 : ¬ j = i := fun h => hik h.symm
      have e4 : ¬ j = i + 1 := fun h => hik1 h.symm
      by_cases e2 : j + 1 = i
      · have e3 : ¬ u.category = 2 := by rw [h3]; exact xt_nl_ok hg hn e2 h1
        simp [e1, e3, e4]
      · simp [e1, e2, e4]
/-- the room of a method that calls d deep -/
def xt_R (d : Nat) : Room := { frames := d, cells := 0, slots := 0, locals := 64 * d }
/-- a method's end: what is answered and the world that is left -/
def xt_Q (D : va_G) (g : xt_G) (Q : Option Value → List xt_E → Prop) (A : Nat → Prop) : Array Value → State → Outcome → State → Prop :=
  fun _ st oc t => (∃ (v : Option Value) (w' : List xt_E), oc = .returned v ∧ Q v w' ∧ va_P D vwCl (xt_c g w') t.heap ∧ va_D A (xt_c g w')) ∧ va_F A st t
/-- what holds all along a method -/
def xt_X (own : String) (cc : ByteArray) (nL : Nat) (ret : Option FieldType) (p : Program) (s : State) (m : MethodId) (args : Array Value) (meth : Method) (c : Code) (D : va_G) (g : xt_G) (A : Nat → Prop) : Prop :=
  p.tables.exec = Jvm.exec ∧ c.code = cc ∧ c.maxLocals = nL ∧ meth.sig.returnType = ret ∧ meth.locks = false ∧ s.vm.findClass own = some m.cls ∧ (∀ w ∈ xt_tbl, w.before args s = true) ∧ va_K D vwCl (xt_tys g) s ∧ xt_Z g A s ∧ ∀ q, s.heap.size ≤ q → A q
def xt_T (own : String) (cc : ByteArray) (nL : Nat) (ret : Option FieldType) (d : Nat) (Q : Option Value → List xt_E → Prop) (pc : Nat) (lv : List (Option Value)) (st : List Value) (w : List xt_E) : Prop :=
  ∀ (p : Program) (l : Launch) (e : Env) (s : State) (m : MethodId) (args : Array Value) (below : List Frame) (meth : Method) (c : Code) (D : va_G) (g : xt_G) (A : Nat → Prop), xt_X own cc nL ret p s m args meth c D g A →
  ∀ (H : Heap) (locs : List Loc) (ls : Array Slot), va_P D vwCl (xt_c g w) H → va_D A (xt_c g w) → va_S A s.heap H locs → xt_L g ls nL lv →
  W p l e (xt_R d) s m args below meth c H locs 0 0 (MQ below (xt_Q D g Q A) args s 0 0 A) (F0 m pc ls (st.map (xt_v g)))
/-- a method's contract -/
def xt_M (y : MethodName) (cc : ByteArray) (nL : Nat) (ret : Option FieldType) (d : Nat) (as : List Value) (w : List xt_E) (K : Option Value → List xt_E → Prop) : Prop :=
  ∀ (l : Launch) (D : va_G) (g : xt_G) (sz : Nat), Met l y (Cond.code y cc nL ret :: xt_tbl) (xt_R d)
    (va_Pc (as.map (xt_v g)) (fun U => U.heap.size = sz ∧ va_P D vwCl (xt_c g w) U.heap ∧ va_K D vwCl (xt_tys g) U ∧ va_D (fun _ => True) (xt_c g w) ∧ xt_Z g (va_A (xt_c g w) sz) U))
    (xt_Q D g K (va_A (xt_c g w) sz)) 0 0 (va_A (xt_c g w) sz)
def xt_lv : List Value → List (Option Value)
  | [] => []
  | v :: r => if v.category = 2 then some v :: none :: xt_lv r else some v :: xt_lv r
theorem xt_lv_as {g : xt_G} (hg : g.2.2.category = 1) (as : List Value) (n : Nat) : ∀ i : Nat, xt_as g i (xt_lv as ++ List.replicate n none) = lv_args i (as.map (xt_v g)) := by
  have hn : ∀ (n i : Nat), xt_as g i (List.replicate n none) = [] := by
    intro n
    induction n with
    | zero => intro i; rfl
    | succ n ih => intro i; simp only [List.replicate_succ, xt_as]; exact ih _
  induction as with
  | nil => intro i; simp only [xt_lv, List.nil_append, List.map_nil, lv_args]; exact hn n i
  | cons v r ih =>
    intro i
    simp only [xt_lv, List.map_cons, lv_args]
    by_cases hc : v.category = 2
    · have hc' : (xt_v g v).category = 2 := by rw [xt_cat hg]; exact hc
      rw [if_pos hc, if_pos hc']
      simp only [List.cons_append, xt_as]
      rw [ih]
    · have hc' : ¬ (xt_v g v).category = 2 := by rw [xt_cat hg]; exact hc
      rw [if_neg hc, if_neg hc']
      simp only [List.cons_append, xt_as]
      rw [ih]
theorem xt_lv_len {g : xt_G} (hg : g.2.2.category = 1) (as : List Value) : (lg_sl (as.map (xt_v g))).length = (xt_lv as).length := by
  induction as with
  | nil => rfl
  | cons v r ih =>
    simp only [lg_sl, List.map_cons, List.flatMap_cons, List.length_append, xt_lv] at ih ⊢
    rw [ih]
    by_cases hc : v.category = 2
    · have hc' : (xt_v g v).category = 2 := by rw [xt_cat hg]; exact hc
      simp [hc, hc']; omega
    · have hc' : ¬ (xt_v g v).category = 2 := by rw [xt_cat hg]; exact hc
      simp [hc, hc']; omega
/-- a contract out of a walk -/
theorem xt_M.of {y : MethodName} {cc : ByteArray} {nL : Nat} {ret : Option FieldType} {d : Nat} {as : List Value} {w : List xt_E} {K : Option Value → List xt_E → Prop} {lv : List (Option Value)} (hy : plainName y.cls = true) (hn : (xt_lv as).length ≤ nL) (hlv : xt_lv as ++ List.replicate (nL - (xt_lv as).length) none = lv)
    (h : xt_T y.cls cc nL ret d K 0 lv [] w) : xt_M y cc nL ret d as w K := by
  intro l D g sz
  refine Met.ofW (cc := cc) (maxL := nL) (ret := ret) hy rfl ?_
  intro p e s m args below meth c s₁ B hml hv
  obtain ⟨rfl, hsz, hP, hK, hD0, hZ⟩ := hv
  have hts := atoms_spec (ws := Cond.code y cc nL ret :: xt_tbl) B.pre
  have hown : s.vm.findClass y.cls = some m.cls := findClass_of_methodNamed B.named
  subst hsz
  have hg : g.2.2.category = 1 := hZ.2.2.2.2.2
  have hl := lv_entry (as.map (xt_v g)) (n := nL) (by rw [xt_lv_len hg]; exact hn)
  rw [lg_entry_eq]
  refine h p l e s m _ below meth c D g (va_A (xt_c g w) s.heap.size) ⟨B.exec, B.bytes, hml, B.returns, B.notSynchronized, hown, fun w hw => hts w (List.mem_cons_of_mem _ hw), hK, hZ, fun q hq => Or.inr hq⟩ s.heap [] _ hP hD0.self va_S.rf ⟨?_, ?_⟩
  · rw [← hlv]; simp; omega
  · rw [← hlv, xt_lv_as hg]; exact hl
end
section
def xr_o (cc : ByteArray) (pc : Nat) (i : Instr) (len pc' : Nat) : Prop := decode cc pc = .ok (i, len) ∧ pc + len = pc'
def xr_k (cc : ByteArray) (pc : Nat) (v : Int32) (pc' : Nat) : Prop := (∃ n : Int, decode cc pc = .ok (.iconst n, 1) ∧ Int32.ofInt n = v ∧ pc + 1 = pc') ∨ (∃ n : Int, decode cc pc = .ok (.bipush n, 2) ∧ (Int8.ofInt n).toInt32 = v ∧ pc + 2 = pc') ∨ (∃ n : Int, decode cc pc = .ok (.sipush n, 3) ∧ (Int16.ofInt n).toInt32 = v ∧ pc + 3 = pc')
def xr_lk (cc : ByteArray) (pc : Nat) (v : Int64) (pc' : Nat) : Prop := ∃ n : Fin 2, decode cc pc = .ok (.lconst n, 1) ∧ Int64.ofNat (n : Nat) = v ∧ pc + 1 = pc'
def xr_inc (cc : ByteArray) (pc i : Nat) (v : Int32) (pc' : Nat) : Prop := ∃ n : Int, decode cc pc = .ok (.iinc i n, 3) ∧ Int32.ofInt n = v ∧ pc + 3 = pc'
def xr_b (cc : ByteArray) (pc : Nat) (f : Int → Instr) (pc' tgt : Nat) : Prop := ∃ off : Int, decode cc pc = .ok (f off, 3) ∧ (pc : Int) + off = (tgt : Int) ∧ pc + 3 = pc'
def xr_g (cc : ByteArray) (pc tgt : Nat) : Prop := ∃ off : Int, decode cc pc = .ok (.goto off, 3) ∧ (pc : Int) + off = (tgt : Int)
def xi_shl (x y : Int32) : Int32 := x <<< (y &&& 31)
def xi_shr (x y : Int32) : Int32 := x >>> (y &&& 31)
def xi_ushr (x y : Int32) : Int32 := (x.toUInt32 >>> (y.toUInt32 &&& Int32.toUInt32 31)).toInt32
def xi_rem (x y : Int32) : Int32 := x - x / y * y
def xl_rem (x y : Int64) : Int64 := x - x / y * y
def xr_ild (cc : ByteArray) (pc i pc' : Nat) : Prop := (∃ k : Fin 4, decode cc pc = .ok (.iload_n k, 1) ∧ (k : Nat) = i ∧ pc + 1 = pc') ∨ (decode cc pc = .ok (.iload i, 2) ∧ pc + 2 = pc')
def xr_ald (cc : ByteArray) (pc i pc' : Nat) : Prop := (∃ k : Fin 4, decode cc pc = .ok (.aload_n k, 1) ∧ (k : Nat) = i ∧ pc + 1 = pc') ∨ (decode cc pc = .ok (.aload i, 2) ∧ pc + 2 = pc')
def xr_lld (cc : ByteArray) (pc i pc' : Nat) : Prop := (∃ k : Fin 4, decode cc pc = .ok (.lload_n k, 1) ∧ (k : Nat) = i ∧ pc + 1 = pc') ∨ (decode cc pc = .ok (.lload i, 2) ∧ pc + 2 = pc')
def xr_ist (cc : ByteArray) (pc i pc' : Nat) : Prop := (∃ k : Fin 4, decode cc pc = .ok (.istore_n k, 1) ∧ (k : Nat) = i ∧ pc + 1 = pc') ∨ (decode cc pc = .ok (.istore i, 2) ∧ pc + 2 = pc')
def xr_ast (cc : ByteArray) (pc i pc' : Nat) : Prop := (∃ k : Fin 4, decode cc pc = .ok (.astore_n k, 1) ∧ (k : Nat) = i ∧ pc + 1 = pc') ∨ (decode cc pc = .ok (.astore i, 2) ∧ pc + 2 = pc')
def xr_lst (cc : ByteArray) (pc i pc' : Nat) : Prop := (∃ k : Fin 4, decode cc pc = .ok (.lstore_n k, 1) ∧ (k : Nat) = i ∧ pc + 1 = pc') ∨ (decode cc pc = .ok (.lstore i, 2) ∧ pc + 2 = pc')
theorem x_k {own : String} {cc : ByteArray} {nL : Nat} {ret : Option FieldType} {d : Nat} {Q : Option Value → List xt_E → Prop} {pc pc' : Nat} {lv : List (Option Value)} {st : List Value} {w : List xt_E} {v : Int32} (hd : xr_k cc pc v pc') (k : xt_T own cc nL ret d Q pc' lv (.int v :: st) w) : xt_T own cc nL ret d Q pc lv st w := by
  intro p l e s m args below meth c D g A hX H locs ls hP hD hS hL
  rcases hd with ⟨n, hd, hv, rfl⟩ | ⟨n, hd, hv, rfl⟩ | ⟨n, hd, hv, rfl⟩
  · exact lv_iconst hX.1 hX.2.1 hd hv (k p l e s m args below meth c D g A hX H locs ls hP hD hS hL)
  · exact lv_bipush hX.1 hX.2.1 hd hv (k p l e s m args below meth c D g A hX H locs ls hP hD hS hL)
  · exact lv_sipush hX.1 hX.2.1 hd hv (k p l e s m args below meth c D g A hX H locs ls hP hD hS hL)
theorem x_lk {own : String} {cc : ByteArray} {nL : Nat} {ret : Option FieldType} {d : Nat} {Q : Option Value → List xt_E → Prop} {pc pc' : Nat} {lv : List (Option Value)} {st : List Value} {w : List xt_E} {v : Int64} (hd : xr_lk cc pc v pc') (k : xt_T own cc nL ret d Q pc' lv (.long v :: st) w) : xt_T own cc nL ret d Q pc lv st w := by
  intro p l e s m args below meth c D g A hX H locs ls hP hD hS hL
  obtain ⟨n, hd, hv, rfl⟩ := hd
  exact lv_lconst hX.1 hX.2.1 hd hv (k p l e s m args below meth c D g A hX H locs ls hP hD hS hL)
theorem x_iadd {own : String} {cc : ByteArray} {nL : Nat} {ret : Option FieldType} {d : Nat} {Q : Option Value → List xt_E → Prop} {pc pc' : Nat} {lv : List (Option Value)} {st : List Value} {w : List xt_E} {x y : Int32} (hd : xr_o cc pc .iadd 1 pc') (k : xt_T own cc nL ret d Q pc' lv (.int (x + y) :: st) w) : xt_T own cc nL ret d Q pc lv (.int y :: .int x :: st) w := by
  intro p l e s m args below meth c D g A hX H locs ls hP hD hS hL
  obtain ⟨hd, rfl⟩ := hd
  exact lv_iadd hX.1 hX.2.1 hd (k p l e s m args below meth c D g A hX H locs ls hP hD hS hL)
theorem x_isub {own : String} {cc : ByteArray} {nL : Nat} {ret : Option FieldType} {d : Nat} {Q : Option Value → List xt_E → Prop} {pc pc' : Nat} {lv : List (Option Value)} {st : List Value} {w : List xt_E} {x y : Int32} (hd : xr_o cc pc .isub 1 pc') (k : xt_T own cc nL ret d Q pc' lv (.int (x - y) :: st) w) : xt_T own cc nL ret d Q pc lv (.int y :: .int x :: st) w := by
  intro p l e s m args below meth c D g A hX H locs ls hP hD hS hL
  obtain ⟨hd, rfl⟩ := hd
  exact lv_isub hX.1 hX.2.1 hd (k p l e s m args below meth c D g A hX H locs ls hP hD hS hL)
theorem x_imul {own : String} {cc : ByteArray} {nL : Nat} {ret : Option FieldType} {d : Nat} {Q : Option Value → List xt_E → Prop} {pc pc' : Nat} {lv : List (Option Value)} {st : List Value} {w : List xt_E} {x y : Int32} (hd : xr_o cc pc .imul 1 pc') (k : xt_T own cc nL ret d Q pc' lv (.int (x * y) :: st) w) : xt_T own cc nL ret d Q pc lv (.int y :: .int x :: st) w := by
  intro p l e s m args below meth c D g A hX H locs ls hP hD hS hL
  obtain ⟨hd, rfl⟩ := hd
  exact lv_imul hX.1 hX.2.1 hd (k p l e s m args below meth c D g A hX H locs ls hP hD hS hL)
theorem x_iand {own : String} {cc : ByteArray} {nL : Nat} {ret : Option FieldType} {d : Nat} {Q : Option Value → List xt_E → Prop} {pc pc' : Nat} {lv : List (Option Value)} {st : List Value} {w : List xt_E} {x y : Int32} (hd : xr_o cc pc .iand 1 pc') (k : xt_T own cc nL ret d Q pc' lv (.int (x &&& y) :: st) w) : xt_T own cc nL ret d Q pc lv (.int y :: .int x :: st) w := by
  intro p l e s m args below meth c D g A hX H locs ls hP hD hS hL
  obtain ⟨hd, rfl⟩ := hd
  exact lv_iand hX.1 hX.2.1 hd (k p l e s m args below meth c D g A hX H locs ls hP hD hS hL)
theorem x_ior {own : String} {cc : ByteArray} {nL : Nat} {ret : Option FieldType} {d : Nat} {Q : Option Value → List xt_E → Prop} {pc pc' : Nat} {lv : List (Option Value)} {st : List Value} {w : List xt_E} {x y : Int32} (hd : xr_o cc pc .ior 1 pc') (k : xt_T own cc nL ret d Q pc' lv (.int (x ||| y) :: st) w) : xt_T own cc nL ret d Q pc lv (.int y :: .int x :: st) w := by
  intro p l e s m args below meth c D g A hX H locs ls hP hD hS hL
  obtain ⟨hd, rfl⟩ := hd
  exact lv_ior hX.1 hX.2.1 hd (k p l e s m args below meth c D g A hX H locs ls hP hD hS hL)
theorem x_ixor {own : String} {cc : ByteArray} {nL : Nat} {ret : Option FieldType} {d : Nat} {Q : Option Value → List xt_E → Prop} {pc pc' : Nat} {lv : List (Option Value)} {st : List Value} {w : List xt_E} {x y : Int32} (hd : xr_o cc pc .ixor 1 pc') (k : xt_T own cc nL ret d Q pc' lv (.int (x ^^^ y) :: st) w) : xt_T own cc nL ret d Q pc lv (.int y :: .int x :: st) w := by
  intro p l e s m args below meth c D g A hX H locs ls hP hD hS hL
  obtain ⟨hd, rfl⟩ := hd
  exact lv_ixor hX.1 hX.2.1 hd (k p l e s m args below meth c D g A hX H locs ls hP hD hS hL)
theorem x_ishl {own : String} {cc : ByteArray} {nL : Nat} {ret : Option FieldType} {d : Nat} {Q : Option Value → List xt_E → Prop} {pc pc' : Nat} {lv : List (Option Value)} {st : List Value} {w : List xt_E} {x y : Int32} (hd : xr_o cc pc .ishl 1 pc') (k : xt_T own cc nL ret d Q pc' lv (.int (xi_shl x y) :: st) w) : xt_T own cc nL ret d Q pc lv (.int y :: .int x :: st) w := by
  intro p l e s m args below meth c D g A hX H locs ls hP hD hS hL
  obtain ⟨hd, rfl⟩ := hd
  exact lv_ishl hX.1 hX.2.1 hd (k p l e s m args below meth c D g A hX H locs ls hP hD hS hL)
theorem x_ishr {own : String} {cc : ByteArray} {nL : Nat} {ret : Option FieldType} {d : Nat} {Q : Option Value → List xt_E → Prop} {pc pc' : Nat} {lv : List (Option Value)} {st : List Value} {w : List xt_E} {x y : Int32} (hd : xr_o cc pc .ishr 1 pc') (k : xt_T own cc nL ret d Q pc' lv (.int (xi_shr x y) :: st) w) : xt_T own cc nL ret d Q pc lv (.int y :: .int x :: st) w := by
  intro p l e s m args below meth c D g A hX H locs ls hP hD hS hL
  obtain ⟨hd, rfl⟩ := hd
  exact lv_ishr hX.1 hX.2.1 hd (k p l e s m args below meth c D g A hX H locs ls hP hD hS hL)
theorem x_iushr {own : String} {cc : ByteArray} {nL : Nat} {ret : Option FieldType} {d : Nat} {Q : Option Value → List xt_E → Prop} {pc pc' : Nat} {lv : List (Option Value)} {st : List Value} {w : List xt_E} {x y : Int32} (hd : xr_o cc pc .iushr 1 pc') (k : xt_T own cc nL ret d Q pc' lv (.int (xi_ushr x y) :: st) w) : xt_T own cc nL ret d Q pc lv (.int y :: .int x :: st) w := by
  intro p l e s m args below meth c D g A hX H locs ls hP hD hS hL
  obtain ⟨hd, rfl⟩ := hd
  exact lv_iushr hX.1 hX.2.1 hd rfl (k p l e s m args below meth c D g A hX H locs ls hP hD hS hL)
theorem x_idiv {own : String} {cc : ByteArray} {nL : Nat} {ret : Option FieldType} {d : Nat} {Q : Option Value → List xt_E → Prop} {pc pc' : Nat} {lv : List (Option Value)} {st : List Value} {w : List xt_E} {x y : Int32} (hd : xr_o cc pc .idiv 1 pc') (hne : ¬ y = 0) (k : xt_T own cc nL ret d Q pc' lv (.int (x / y) :: st) w) : xt_T own cc nL ret d Q pc lv (.int y :: .int x :: st) w := by
  intro p l e s m args below meth c D g A hX H locs ls hP hD hS hL
  obtain ⟨hd, rfl⟩ := hd
  exact lv_idiv hX.1 hX.2.1 hd hne (k p l e s m args below meth c D g A hX H locs ls hP hD hS hL)
theorem x_irem {own : String} {cc : ByteArray} {nL : Nat} {ret : Option FieldType} {d : Nat} {Q : Option Value → List xt_E → Prop} {pc pc' : Nat} {lv : List (Option Value)} {st : List Value} {w : List xt_E} {x y : Int32} (hd : xr_o cc pc .irem 1 pc') (hne : ¬ y = 0) (k : xt_T own cc nL ret d Q pc' lv (.int (xi_rem x y) :: st) w) : xt_T own cc nL ret d Q pc lv (.int y :: .int x :: st) w := by
  intro p l e s m args below meth c D g A hX H locs ls hP hD hS hL
  obtain ⟨hd, rfl⟩ := hd
  exact lv_irem hX.1 hX.2.1 hd hne (k p l e s m args below meth c D g A hX H locs ls hP hD hS hL)
theorem x_ladd {own : String} {cc : ByteArray} {nL : Nat} {ret : Option FieldType} {d : Nat} {Q : Option Value → List xt_E → Prop} {pc pc' : Nat} {lv : List (Option Value)} {st : List Value} {w : List xt_E} {x y : Int64} (hd : xr_o cc pc .ladd 1 pc') (k : xt_T own cc nL ret d Q pc' lv (.long (x + y) :: st) w) : xt_T own cc nL ret d Q pc lv (.long y :: .long x :: st) w := by
  intro p l e s m args below meth c D g A hX H locs ls hP hD hS hL
  obtain ⟨hd, rfl⟩ := hd
  exact lv_ladd hX.1 hX.2.1 hd (k p l e s m args below meth c D g A hX H locs ls hP hD hS hL)
theorem x_lsub {own : String} {cc : ByteArray} {nL : Nat} {ret : Option FieldType} {d : Nat} {Q : Option Value → List xt_E → Prop} {pc pc' : Nat} {lv : List (Option Value)} {st : List Value} {w : List xt_E} {x y : Int64} (hd : xr_o cc pc .lsub 1 pc') (k : xt_T own cc nL ret d Q pc' lv (.long (x - y) :: st) w) : xt_T own cc nL ret d Q pc lv (.long y :: .long x :: st) w := by
  intro p l e s m args below meth c D g A hX H locs ls hP hD hS hL
  obtain ⟨hd, rfl⟩ := hd
  exact lv_lsub hX.1 hX.2.1 hd (k p l e s m args below meth c D g A hX H locs ls hP hD hS hL)
theorem x_lmul {own : String} {cc : ByteArray} {nL : Nat} {ret : Option FieldType} {d : Nat} {Q : Option Value → List xt_E → Prop} {pc pc' : Nat} {lv : List (Option Value)} {st : List Value} {w : List xt_E} {x y : Int64} (hd : xr_o cc pc .lmul 1 pc') (k : xt_T own cc nL ret d Q pc' lv (.long (x * y) :: st) w) : xt_T own cc nL ret d Q pc lv (.long y :: .long x :: st) w := by
  intro p l e s m args below meth c D g A hX H locs ls hP hD hS hL
  obtain ⟨hd, rfl⟩ := hd
  exact lv_lmul hX.1 hX.2.1 hd (k p l e s m args below meth c D g A hX H locs ls hP hD hS hL)
theorem x_ldiv {own : String} {cc : ByteArray} {nL : Nat} {ret : Option FieldType} {d : Nat} {Q : Option Value → List xt_E → Prop} {pc pc' : Nat} {lv : List (Option Value)} {st : List Value} {w : List xt_E} {x y : Int64} (hd : xr_o cc pc .ldiv 1 pc') (hne : ¬ y = 0) (k : xt_T own cc nL ret d Q pc' lv (.long (x / y) :: st) w) : xt_T own cc nL ret d Q pc lv (.long y :: .long x :: st) w := by
  intro p l e s m args below meth c D g A hX H locs ls hP hD hS hL
  obtain ⟨hd, rfl⟩ := hd
  exact lv_ldiv hX.1 hX.2.1 hd hne (k p l e s m args below meth c D g A hX H locs ls hP hD hS hL)
theorem x_lrem {own : String} {cc : ByteArray} {nL : Nat} {ret : Option FieldType} {d : Nat} {Q : Option Value → List xt_E → Prop} {pc pc' : Nat} {lv : List (Option Value)} {st : List Value} {w : List xt_E} {x y : Int64} (hd : xr_o cc pc .lrem 1 pc') (hne : ¬ y = 0) (k : xt_T own cc nL ret d Q pc' lv (.long (xl_rem x y) :: st) w) : xt_T own cc nL ret d Q pc lv (.long y :: .long x :: st) w := by
  intro p l e s m args below meth c D g A hX H locs ls hP hD hS hL
  obtain ⟨hd, rfl⟩ := hd
  exact lv_lrem hX.1 hX.2.1 hd hne (k p l e s m args below meth c D g A hX H locs ls hP hD hS hL)
theorem x_lcmp {own : String} {cc : ByteArray} {nL : Nat} {ret : Option FieldType} {d : Nat} {Q : Option Value → List xt_E → Prop} {pc pc' : Nat} {lv : List (Option Value)} {st : List Value} {w : List xt_E} {x y : Int64} (hd : xr_o cc pc .lcmp 1 pc') (k : xt_T own cc nL ret d Q pc' lv (.int (lg_cmp x y) :: st) w) : xt_T own cc nL ret d Q pc lv (.long y :: .long x :: st) w := by
  intro p l e s m args below meth c D g A hX H locs ls hP hD hS hL
  obtain ⟨hd, rfl⟩ := hd
  exact W.lcmp hX.1 hX.2.1 hd (k p l e s m args below meth c D g A hX H locs ls hP hD hS hL)
theorem x_ineg {own : String} {cc : ByteArray} {nL : Nat} {ret : Option FieldType} {d : Nat} {Q : Option Value → List xt_E → Prop} {pc pc' : Nat} {lv : List (Option Value)} {st : List Value} {w : List xt_E} {x : Int32} (hd : xr_o cc pc .ineg 1 pc') (k : xt_T own cc nL ret d Q pc' lv (.int (-x) :: st) w) : xt_T own cc nL ret d Q pc lv (.int x :: st) w := by
  intro p l e s m args below meth c D g A hX H locs ls hP hD hS hL
  obtain ⟨hd, rfl⟩ := hd
  exact lv_ineg hX.1 hX.2.1 hd (k p l e s m args below meth c D g A hX H locs ls hP hD hS hL)
theorem x_i2l {own : String} {cc : ByteArray} {nL : Nat} {ret : Option FieldType} {d : Nat} {Q : Option Value → List xt_E → Prop} {pc pc' : Nat} {lv : List (Option Value)} {st : List Value} {w : List xt_E} {x : Int32} (hd : xr_o cc pc .i2l 1 pc') (k : xt_T own cc nL ret d Q pc' lv (.long x.toInt64 :: st) w) : xt_T own cc nL ret d Q pc lv (.int x :: st) w := by
  intro p l e s m args below meth c D g A hX H locs ls hP hD hS hL
  obtain ⟨hd, rfl⟩ := hd
  exact lv_i2l hX.1 hX.2.1 hd rfl (k p l e s m args below meth c D g A hX H locs ls hP hD hS hL)
theorem x_l2i {own : String} {cc : ByteArray} {nL : Nat} {ret : Option FieldType} {d : Nat} {Q : Option Value → List xt_E → Prop} {pc pc' : Nat} {lv : List (Option Value)} {st : List Value} {w : List xt_E} {x : Int64} (hd : xr_o cc pc .l2i 1 pc') (k : xt_T own cc nL ret d Q pc' lv (.int x.toInt32 :: st) w) : xt_T own cc nL ret d Q pc lv (.long x :: st) w := by
  intro p l e s m args below meth c D g A hX H locs ls hP hD hS hL
  obtain ⟨hd, rfl⟩ := hd
  exact lv_l2i hX.1 hX.2.1 hd rfl (k p l e s m args below meth c D g A hX H locs ls hP hD hS hL)
theorem x_i2b {own : String} {cc : ByteArray} {nL : Nat} {ret : Option FieldType} {d : Nat} {Q : Option Value → List xt_E → Prop} {pc pc' : Nat} {lv : List (Option Value)} {st : List Value} {w : List xt_E} {x : Int32} (hd : xr_o cc pc .i2b 1 pc') (k : xt_T own cc nL ret d Q pc' lv (.int (x.toInt8.toInt32) :: st) w) : xt_T own cc nL ret d Q pc lv (.int x :: st) w := by
  intro p l e s m args below meth c D g A hX H locs ls hP hD hS hL
  obtain ⟨hd, rfl⟩ := hd
  exact lv_i2b hX.1 hX.2.1 hd rfl (k p l e s m args below meth c D g A hX H locs ls hP hD hS hL)
theorem x_i2s {own : String} {cc : ByteArray} {nL : Nat} {ret : Option FieldType} {d : Nat} {Q : Option Value → List xt_E → Prop} {pc pc' : Nat} {lv : List (Option Value)} {st : List Value} {w : List xt_E} {x : Int32} (hd : xr_o cc pc .i2s 1 pc') (k : xt_T own cc nL ret d Q pc' lv (.int (x.toInt16.toInt32) :: st) w) : xt_T own cc nL ret d Q pc lv (.int x :: st) w := by
  intro p l e s m args below meth c D g A hX H locs ls hP hD hS hL
  obtain ⟨hd, rfl⟩ := hd
  exact lv_i2s hX.1 hX.2.1 hd rfl (k p l e s m args below meth c D g A hX H locs ls hP hD hS hL)
theorem x_i2c {own : String} {cc : ByteArray} {nL : Nat} {ret : Option FieldType} {d : Nat} {Q : Option Value → List xt_E → Prop} {pc pc' : Nat} {lv : List (Option Value)} {st : List Value} {w : List xt_E} {x : Int32} (hd : xr_o cc pc .i2c 1 pc') (k : xt_T own cc nL ret d Q pc' lv (.int ((x.toUInt32 % 65536).toInt32) :: st) w) : xt_T own cc nL ret d Q pc lv (.int x :: st) w := by
  intro p l e s m args below meth c D g A hX H locs ls hP hD hS hL
  obtain ⟨hd, rfl⟩ := hd
  exact lv_i2c hX.1 hX.2.1 hd rfl (k p l e s m args below meth c D g A hX H locs ls hP hD hS hL)
theorem x_dup {own : String} {cc : ByteArray} {nL : Nat} {ret : Option FieldType} {d : Nat} {Q : Option Value → List xt_E → Prop} {pc pc' : Nat} {lv : List (Option Value)} {st : List Value} {w : List xt_E} {a : Value} (hd : xr_o cc pc .dup 1 pc') (ha : a.category = 1) (k : xt_T own cc nL ret d Q pc' lv (a :: a :: st) w) : xt_T own cc nL ret d Q pc lv (a :: st) w := by
  intro p l e s m args below meth c D g A hX H locs ls hP hD hS hL
  obtain ⟨hd, rfl⟩ := hd
  exact lv_dup hX.1 hX.2.1 hd (by rw [xt_cat hX.2.2.2.2.2.2.2.2.1.2.2.2.2.2]; exact ha) (k p l e s m args below meth c D g A hX H locs ls hP hD hS hL)
theorem x_pop {own : String} {cc : ByteArray} {nL : Nat} {ret : Option FieldType} {d : Nat} {Q : Option Value → List xt_E → Prop} {pc pc' : Nat} {lv : List (Option Value)} {st : List Value} {w : List xt_E} {a : Value} (hd : xr_o cc pc .pop 1 pc') (ha : a.category = 1) (k : xt_T own cc nL ret d Q pc' lv st w) : xt_T own cc nL ret d Q pc lv (a :: st) w := by
  intro p l e s m args below meth c D g A hX H locs ls hP hD hS hL
  obtain ⟨hd, rfl⟩ := hd
  exact lv_pop hX.1 hX.2.1 hd (by rw [xt_cat hX.2.2.2.2.2.2.2.2.1.2.2.2.2.2]; exact ha) (k p l e s m args below meth c D g A hX H locs ls hP hD hS hL)
theorem x_dup_x1 {own : String} {cc : ByteArray} {nL : Nat} {ret : Option FieldType} {d : Nat} {Q : Option Value → List xt_E → Prop} {pc pc' : Nat} {lv : List (Option Value)} {st : List Value} {w : List xt_E} {a b : Value} (hd : xr_o cc pc .dup_x1 1 pc') (ha : a.category = 1) (hb : b.category = 1) (k : xt_T own cc nL ret d Q pc' lv (a :: b :: a :: st) w) : xt_T own cc nL ret d Q pc lv (a :: b :: st) w := by
  intro p l e s m args below meth c D g A hX H locs ls hP hD hS hL
  obtain ⟨hd, rfl⟩ := hd
  exact lv_dup_x1 hX.1 hX.2.1 hd (by rw [xt_cat hX.2.2.2.2.2.2.2.2.1.2.2.2.2.2]; exact ha) (by rw [xt_cat hX.2.2.2.2.2.2.2.2.1.2.2.2.2.2]; exact hb) (k p l e s m args below meth c D g A hX H locs ls hP hD hS hL)
theorem x_dup_x2 {own : String} {cc : ByteArray} {nL : Nat} {ret : Option FieldType} {d : Nat} {Q : Option Value → List xt_E → Prop} {pc pc' : Nat} {lv : List (Option Value)} {st : List Value} {w : List xt_E} {a b f : Value} (hd : xr_o cc pc .dup_x2 1 pc') (ha : a.category = 1) (hb : b.category = 1) (hf : f.category = 1) (k : xt_T own cc nL ret d Q pc' lv (a :: b :: f :: a :: st) w) : xt_T own cc nL ret d Q pc lv (a :: b :: f :: st) w := by
  intro p l e s m args below meth c D g A hX H locs ls hP hD hS hL
  obtain ⟨hd, rfl⟩ := hd
  exact lv_dup_x2 hX.1 hX.2.1 hd (by rw [xt_cat hX.2.2.2.2.2.2.2.2.1.2.2.2.2.2]; exact ha) (by rw [xt_cat hX.2.2.2.2.2.2.2.2.1.2.2.2.2.2]; exact hb) (by rw [xt_cat hX.2.2.2.2.2.2.2.2.1.2.2.2.2.2]; exact hf) (k p l e s m args below meth c D g A hX H locs ls hP hD hS hL)
theorem x_dup2 {own : String} {cc : ByteArray} {nL : Nat} {ret : Option FieldType} {d : Nat} {Q : Option Value → List xt_E → Prop} {pc pc' : Nat} {lv : List (Option Value)} {st : List Value} {w : List xt_E} {a b : Value} (hd : xr_o cc pc .dup2 1 pc') (ha : a.category = 1) (hb : b.category = 1) (k : xt_T own cc nL ret d Q pc' lv (a :: b :: a :: b :: st) w) : xt_T own cc nL ret d Q pc lv (a :: b :: st) w := by
  intro p l e s m args below meth c D g A hX H locs ls hP hD hS hL
  obtain ⟨hd, rfl⟩ := hd
  exact lv_dup2_11 hX.1 hX.2.1 hd (by rw [xt_cat hX.2.2.2.2.2.2.2.2.1.2.2.2.2.2]; exact ha) (by rw [xt_cat hX.2.2.2.2.2.2.2.2.1.2.2.2.2.2]; exact hb) (k p l e s m args below meth c D g A hX H locs ls hP hD hS hL)
theorem x_dup2l {own : String} {cc : ByteArray} {nL : Nat} {ret : Option FieldType} {d : Nat} {Q : Option Value → List xt_E → Prop} {pc pc' : Nat} {lv : List (Option Value)} {st : List Value} {w : List xt_E} {a : Int64} (hd : xr_o cc pc .dup2 1 pc') (k : xt_T own cc nL ret d Q pc' lv (.long a :: .long a :: st) w) : xt_T own cc nL ret d Q pc lv (.long a :: st) w := by
  intro p l e s m args below meth c D g A hX H locs ls hP hD hS hL
  obtain ⟨hd, rfl⟩ := hd
  exact lv_dup2_2 hX.1 hX.2.1 hd rfl (k p l e s m args below meth c D g A hX H locs ls hP hD hS hL)
theorem x_if_eq {own : String} {cc : ByteArray} {nL : Nat} {ret : Option FieldType} {d : Nat} {Q : Option Value → List xt_E → Prop} {pc pc' : Nat} {lv : List (Option Value)} {st : List Value} {w : List xt_E} {x : Int32} {tgt : Nat} (hd : xr_b cc pc (.ifCond .eq) pc' tgt) (kt : x = 0 → xt_T own cc nL ret d Q tgt lv st w) (kf : ¬ x = 0 → xt_T own cc nL ret d Q pc' lv st w) : xt_T own cc nL ret d Q pc lv (.int x :: st) w := by
  intro p l e s m args below meth c D g A hX H locs ls hP hD hS hL
  obtain ⟨off, hd, ht, rfl⟩ := hd
  exact lv_if_eq hX.1 hX.2.1 hd ht (fun q => kt q p l e s m args below meth c D g A hX H locs ls hP hD hS hL) (fun q => kf q p l e s m args below meth c D g A hX H locs ls hP hD hS hL)
theorem x_if_ne {own : String} {cc : ByteArray} {nL : Nat} {ret : Option FieldType} {d : Nat} {Q : Option Value → List xt_E → Prop} {pc pc' : Nat} {lv : List (Option Value)} {st : List Value} {w : List xt_E} {x : Int32} {tgt : Nat} (hd : xr_b cc pc (.ifCond .ne) pc' tgt) (kt : ¬ x = 0 → xt_T own cc nL ret d Q tgt lv st w) (kf : x = 0 → xt_T own cc nL ret d Q pc' lv st w) : xt_T own cc nL ret d Q pc lv (.int x :: st) w := by
  intro p l e s m args below meth c D g A hX H locs ls hP hD hS hL
  obtain ⟨off, hd, ht, rfl⟩ := hd
  exact lv_if_ne hX.1 hX.2.1 hd ht (fun q => kt q p l e s m args below meth c D g A hX H locs ls hP hD hS hL) (fun q => kf q p l e s m args below meth c D g A hX H locs ls hP hD hS hL)
theorem x_if_lt {own : String} {cc : ByteArray} {nL : Nat} {ret : Option FieldType} {d : Nat} {Q : Option Value → List xt_E → Prop} {pc pc' : Nat} {lv : List (Option Value)} {st : List Value} {w : List xt_E} {x : Int32} {tgt : Nat} (hd : xr_b cc pc (.ifCond .lt) pc' tgt) (kt : x < 0 → xt_T own cc nL ret d Q tgt lv st w) (kf : ¬ x < 0 → xt_T own cc nL ret d Q pc' lv st w) : xt_T own cc nL ret d Q pc lv (.int x :: st) w := by
  intro p l e s m args below meth c D g A hX H locs ls hP hD hS hL
  obtain ⟨off, hd, ht, rfl⟩ := hd
  exact lv_if_lt hX.1 hX.2.1 hd ht (fun q => kt q p l e s m args below meth c D g A hX H locs ls hP hD hS hL) (fun q => kf q p l e s m args below meth c D g A hX H locs ls hP hD hS hL)
theorem x_if_ge {own : String} {cc : ByteArray} {nL : Nat} {ret : Option FieldType} {d : Nat} {Q : Option Value → List xt_E → Prop} {pc pc' : Nat} {lv : List (Option Value)} {st : List Value} {w : List xt_E} {x : Int32} {tgt : Nat} (hd : xr_b cc pc (.ifCond .ge) pc' tgt) (kt : 0 ≤ x → xt_T own cc nL ret d Q tgt lv st w) (kf : ¬ 0 ≤ x → xt_T own cc nL ret d Q pc' lv st w) : xt_T own cc nL ret d Q pc lv (.int x :: st) w := by
  intro p l e s m args below meth c D g A hX H locs ls hP hD hS hL
  obtain ⟨off, hd, ht, rfl⟩ := hd
  exact lv_if_ge hX.1 hX.2.1 hd ht (fun q => kt q p l e s m args below meth c D g A hX H locs ls hP hD hS hL) (fun q => kf q p l e s m args below meth c D g A hX H locs ls hP hD hS hL)
theorem x_if_gt {own : String} {cc : ByteArray} {nL : Nat} {ret : Option FieldType} {d : Nat} {Q : Option Value → List xt_E → Prop} {pc pc' : Nat} {lv : List (Option Value)} {st : List Value} {w : List xt_E} {x : Int32} {tgt : Nat} (hd : xr_b cc pc (.ifCond .gt) pc' tgt) (kt : 0 < x → xt_T own cc nL ret d Q tgt lv st w) (kf : ¬ 0 < x → xt_T own cc nL ret d Q pc' lv st w) : xt_T own cc nL ret d Q pc lv (.int x :: st) w := by
  intro p l e s m args below meth c D g A hX H locs ls hP hD hS hL
  obtain ⟨off, hd, ht, rfl⟩ := hd
  exact lv_if_gt hX.1 hX.2.1 hd ht (fun q => kt q p l e s m args below meth c D g A hX H locs ls hP hD hS hL) (fun q => kf q p l e s m args below meth c D g A hX H locs ls hP hD hS hL)
theorem x_if_le {own : String} {cc : ByteArray} {nL : Nat} {ret : Option FieldType} {d : Nat} {Q : Option Value → List xt_E → Prop} {pc pc' : Nat} {lv : List (Option Value)} {st : List Value} {w : List xt_E} {x : Int32} {tgt : Nat} (hd : xr_b cc pc (.ifCond .le) pc' tgt) (kt : x ≤ 0 → xt_T own cc nL ret d Q tgt lv st w) (kf : ¬ x ≤ 0 → xt_T own cc nL ret d Q pc' lv st w) : xt_T own cc nL ret d Q pc lv (.int x :: st) w := by
  intro p l e s m args below meth c D g A hX H locs ls hP hD hS hL
  obtain ⟨off, hd, ht, rfl⟩ := hd
  exact lv_if_le hX.1 hX.2.1 hd ht (fun q => kt q p l e s m args below meth c D g A hX H locs ls hP hD hS hL) (fun q => kf q p l e s m args below meth c D g A hX H locs ls hP hD hS hL)
theorem x_icmp_eq {own : String} {cc : ByteArray} {nL : Nat} {ret : Option FieldType} {d : Nat} {Q : Option Value → List xt_E → Prop} {pc pc' : Nat} {lv : List (Option Value)} {st : List Value} {w : List xt_E} {x y : Int32} {tgt : Nat} (hd : xr_b cc pc (.if_icmp .eq) pc' tgt) (kt : x = y → xt_T own cc nL ret d Q tgt lv st w) (kf : ¬ x = y → xt_T own cc nL ret d Q pc' lv st w) : xt_T own cc nL ret d Q pc lv (.int y :: .int x :: st) w := by
  intro p l e s m args below meth c D g A hX H locs ls hP hD hS hL
  obtain ⟨off, hd, ht, rfl⟩ := hd
  exact lv_icmp_eq hX.1 hX.2.1 hd ht (fun q => kt q p l e s m args below meth c D g A hX H locs ls hP hD hS hL) (fun q => kf q p l e s m args below meth c D g A hX H locs ls hP hD hS hL)
theorem x_icmp_ne {own : String} {cc : ByteArray} {nL : Nat} {ret : Option FieldType} {d : Nat} {Q : Option Value → List xt_E → Prop} {pc pc' : Nat} {lv : List (Option Value)} {st : List Value} {w : List xt_E} {x y : Int32} {tgt : Nat} (hd : xr_b cc pc (.if_icmp .ne) pc' tgt) (kt : ¬ x = y → xt_T own cc nL ret d Q tgt lv st w) (kf : x = y → xt_T own cc nL ret d Q pc' lv st w) : xt_T own cc nL ret d Q pc lv (.int y :: .int x :: st) w := by
  intro p l e s m args below meth c D g A hX H locs ls hP hD hS hL
  obtain ⟨off, hd, ht, rfl⟩ := hd
  exact lv_icmp_ne hX.1 hX.2.1 hd ht (fun q => kt q p l e s m args below meth c D g A hX H locs ls hP hD hS hL) (fun q => kf q p l e s m args below meth c D g A hX H locs ls hP hD hS hL)
theorem x_icmp_lt {own : String} {cc : ByteArray} {nL : Nat} {ret : Option FieldType} {d : Nat} {Q : Option Value → List xt_E → Prop} {pc pc' : Nat} {lv : List (Option Value)} {st : List Value} {w : List xt_E} {x y : Int32} {tgt : Nat} (hd : xr_b cc pc (.if_icmp .lt) pc' tgt) (kt : x < y → xt_T own cc nL ret d Q tgt lv st w) (kf : ¬ x < y → xt_T own cc nL ret d Q pc' lv st w) : xt_T own cc nL ret d Q pc lv (.int y :: .int x :: st) w := by
  intro p l e s m args below meth c D g A hX H locs ls hP hD hS hL
  obtain ⟨off, hd, ht, rfl⟩ := hd
  exact lv_icmp_lt hX.1 hX.2.1 hd ht (fun q => kt q p l e s m args below meth c D g A hX H locs ls hP hD hS hL) (fun q => kf q p l e s m args below meth c D g A hX H locs ls hP hD hS hL)
theorem x_icmp_ge {own : String} {cc : ByteArray} {nL : Nat} {ret : Option FieldType} {d : Nat} {Q : Option Value → List xt_E → Prop} {pc pc' : Nat} {lv : List (Option Value)} {st : List Value} {w : List xt_E} {x y : Int32} {tgt : Nat} (hd : xr_b cc pc (.if_icmp .ge) pc' tgt) (kt : y ≤ x → xt_T own cc nL ret d Q tgt lv st w) (kf : ¬ y ≤ x → xt_T own cc nL ret d Q pc' lv st w) : xt_T own cc nL ret d Q pc lv (.int y :: .int x :: st) w := by
  intro p l e s m args below meth c D g A hX H locs ls hP hD hS hL
  obtain ⟨off, hd, ht, rfl⟩ := hd
  exact lv_icmp_ge hX.1 hX.2.1 hd ht (fun q => kt q p l e s m args below meth c D g A hX H locs ls hP hD hS hL) (fun q => kf q p l e s m args below meth c D g A hX H locs ls hP hD hS hL)
theorem x_icmp_gt {own : String} {cc : ByteArray} {nL : Nat} {ret : Option FieldType} {d : Nat} {Q : Option Value → List xt_E → Prop} {pc pc' : Nat} {lv : List (Option Value)} {st : List Value} {w : List xt_E} {x y : Int32} {tgt : Nat} (hd : xr_b cc pc (.if_icmp .gt) pc' tgt) (kt : y < x → xt_T own cc nL ret d Q tgt lv st w) (kf : ¬ y < x → xt_T own cc nL ret d Q pc' lv st w) : xt_T own cc nL ret d Q pc lv (.int y :: .int x :: st) w := by
  intro p l e s m args below meth c D g A hX H locs ls hP hD hS hL
  obtain ⟨off, hd, ht, rfl⟩ := hd
  exact lv_icmp_gt hX.1 hX.2.1 hd ht (fun q => kt q p l e s m args below meth c D g A hX H locs ls hP hD hS hL) (fun q => kf q p l e s m args below meth c D g A hX H locs ls hP hD hS hL)
theorem x_icmp_le {own : String} {cc : ByteArray} {nL : Nat} {ret : Option FieldType} {d : Nat} {Q : Option Value → List xt_E → Prop} {pc pc' : Nat} {lv : List (Option Value)} {st : List Value} {w : List xt_E} {x y : Int32} {tgt : Nat} (hd : xr_b cc pc (.if_icmp .le) pc' tgt) (kt : x ≤ y → xt_T own cc nL ret d Q tgt lv st w) (kf : ¬ x ≤ y → xt_T own cc nL ret d Q pc' lv st w) : xt_T own cc nL ret d Q pc lv (.int y :: .int x :: st) w := by
  intro p l e s m args below meth c D g A hX H locs ls hP hD hS hL
  obtain ⟨off, hd, ht, rfl⟩ := hd
  exact lv_icmp_le hX.1 hX.2.1 hd ht (fun q => kt q p l e s m args below meth c D g A hX H locs ls hP hD hS hL) (fun q => kf q p l e s m args below meth c D g A hX H locs ls hP hD hS hL)
theorem x_goto {own : String} {cc : ByteArray} {nL : Nat} {ret : Option FieldType} {d : Nat} {Q : Option Value → List xt_E → Prop} {pc pc' : Nat} {lv : List (Option Value)} {st : List Value} {w : List xt_E} (hd : xr_g cc pc pc') (k : xt_T own cc nL ret d Q pc' lv st w) : xt_T own cc nL ret d Q pc lv st w := by
  intro p l e s m args below meth c D g A hX H locs ls hP hD hS hL
  obtain ⟨off, hd, ht⟩ := hd
  exact lv_goto hX.1 hX.2.1 hd ht (k p l e s m args below meth c D g A hX H locs ls hP hD hS hL)
theorem x_iload {own : String} {cc : ByteArray} {nL : Nat} {ret : Option FieldType} {d : Nat} {Q : Option Value → List xt_E → Prop} {pc pc' : Nat} {lv : List (Option Value)} {st : List Value} {w : List xt_E} {i : Nat} {x : Int32} (hd : xr_ild cc pc i pc') (h : lv[i]? = some (some (.int x))) (k : xt_T own cc nL ret d Q pc' lv (.int x :: st) w) : xt_T own cc nL ret d Q pc lv st w := by
  intro p l e s m args below meth c D g A hX H locs ls hP hD hS hL
  rcases hd with ⟨j, hd, hj, rfl⟩ | ⟨hd, rfl⟩
  · exact lv_iload_n hX.1 hX.2.1 hd hj (hL.at h) (k p l e s m args below meth c D g A hX H locs ls hP hD hS hL)
  · exact lv_iload hX.1 hX.2.1 hd (hL.at h) (k p l e s m args below meth c D g A hX H locs ls hP hD hS hL)
theorem x_lload {own : String} {cc : ByteArray} {nL : Nat} {ret : Option FieldType} {d : Nat} {Q : Option Value → List xt_E → Prop} {pc pc' : Nat} {lv : List (Option Value)} {st : List Value} {w : List xt_E} {i : Nat} {x : Int64} (hd : xr_lld cc pc i pc') (h : lv[i]? = some (some (.long x))) (k : xt_T own cc nL ret d Q pc' lv (.long x :: st) w) : xt_T own cc nL ret d Q pc lv st w := by
  intro p l e s m args below meth c D g A hX H locs ls hP hD hS hL
  rcases hd with ⟨j, hd, hj, rfl⟩ | ⟨hd, rfl⟩
  · exact lv_lload_n hX.1 hX.2.1 hd hj (hL.at h) (k p l e s m args below meth c D g A hX H locs ls hP hD hS hL)
  · exact lv_lload hX.1 hX.2.1 hd (hL.at h) (k p l e s m args below meth c D g A hX H locs ls hP hD hS hL)
theorem x_aload {own : String} {cc : ByteArray} {nL : Nat} {ret : Option FieldType} {d : Nat} {Q : Option Value → List xt_E → Prop} {pc pc' : Nat} {lv : List (Option Value)} {st : List Value} {w : List xt_E} {i : Nat} {x : Nat} (hd : xr_ald cc pc i pc') (h : lv[i]? = some (some (.ref x))) (k : xt_T own cc nL ret d Q pc' lv (.ref x :: st) w) : xt_T own cc nL ret d Q pc lv st w := by
  intro p l e s m args below meth c D g A hX H locs ls hP hD hS hL
  rcases hd with ⟨j, hd, hj, rfl⟩ | ⟨hd, rfl⟩
  · exact lv_aload_n hX.1 hX.2.1 hd hj (hL.at h) (k p l e s m args below meth c D g A hX H locs ls hP hD hS hL)
  · exact lv_aload hX.1 hX.2.1 hd (hL.at h) (k p l e s m args below meth c D g A hX H locs ls hP hD hS hL)
theorem x_istore {own : String} {cc : ByteArray} {nL : Nat} {ret : Option FieldType} {d : Nat} {Q : Option Value → List xt_E → Prop} {pc pc' : Nat} {lv : List (Option Value)} {st : List Value} {w : List xt_E} {i : Nat} {x : Int32} (hd : xr_ist cc pc i pc') (hi : i < lv.length) (hn : xt_nl lv i = true) (k : xt_T own cc nL ret d Q pc' (lv.set i (some (.int x))) st w) : xt_T own cc nL ret d Q pc lv (.int x :: st) w := by
  intro p l e s m args below meth c D g A hX H locs ls hP hD hS hL
  have hi2 : i < nL := Nat.lt_of_lt_of_le hi hL.1
  rcases hd with ⟨j, hd, hj, rfl⟩ | ⟨hd, rfl⟩
  · exact lv_istore_n hX.1 hX.2.1 hd hj hL.2 hi2 rfl (fun ls' h' => k p l e s m args below meth c D g A hX H locs ls' hP hD hS (hL.st1 hX.2.2.2.2.2.2.2.2.1.2.2.2.2.2 hn h'))
  · exact lv_istore hX.1 hX.2.1 hd hL.2 hi2 rfl (fun ls' h' => k p l e s m args below meth c D g A hX H locs ls' hP hD hS (hL.st1 hX.2.2.2.2.2.2.2.2.1.2.2.2.2.2 hn h'))
theorem x_astore {own : String} {cc : ByteArray} {nL : Nat} {ret : Option FieldType} {d : Nat} {Q : Option Value → List xt_E → Prop} {pc pc' : Nat} {lv : List (Option Value)} {st : List Value} {w : List xt_E} {i : Nat} {x : Nat} (hd : xr_ast cc pc i pc') (hi : i < lv.length) (hn : xt_nl lv i = true) (k : xt_T own cc nL ret d Q pc' (lv.set i (some (.ref x))) st w) : xt_T own cc nL ret d Q pc lv (.ref x :: st) w := by
  intro p l e s m args below meth c D g A hX H locs ls hP hD hS hL
  have hi2 : i < nL := Nat.lt_of_lt_of_le hi hL.1
  rcases hd with ⟨j, hd, hj, rfl⟩ | ⟨hd, rfl⟩
  · exact lv_astore_n hX.1 hX.2.1 hd hj hL.2 hi2 rfl (fun ls' h' => k p l e s m args below meth c D g A hX H locs ls' hP hD hS (hL.st1 hX.2.2.2.2.2.2.2.2.1.2.2.2.2.2 hn h'))
  · exact lv_astore hX.1 hX.2.1 hd hL.2 hi2 rfl (fun ls' h' => k p l e s m args below meth c D g A hX H locs ls' hP hD hS (hL.st1 hX.2.2.2.2.2.2.2.2.1.2.2.2.2.2 hn h'))
theorem x_lstore {own : String} {cc : ByteArray} {nL : Nat} {ret : Option FieldType} {d : Nat} {Q : Option Value → List xt_E → Prop} {pc pc' : Nat} {lv : List (Option Value)} {st : List Value} {w : List xt_E} {i : Nat} {x : Int64} (hd : xr_lst cc pc i pc') (hi : i + 1 < lv.length) (hn : xt_nl lv i = true) (k : xt_T own cc nL ret d Q pc' ((lv.set i (some (.long x))).set (i + 1) none) st w) : xt_T own cc nL ret d Q pc lv (.long x :: st) w := by
  intro p l e s m args below meth c D g A hX H locs ls hP hD hS hL
  have hi2 : i + 1 < nL := Nat.lt_of_lt_of_le hi hL.1
  rcases hd with ⟨j, hd, hj, rfl⟩ | ⟨hd, rfl⟩
  · exact lv_lstore_n hX.1 hX.2.1 hd hj hL.2 hi2 rfl (fun ls' h' => k p l e s m args below meth c D g A hX H locs ls' hP hD hS (hL.st2 hX.2.2.2.2.2.2.2.2.1.2.2.2.2.2 hn h'))
  · exact lv_lstore hX.1 hX.2.1 hd hL.2 hi2 rfl (fun ls' h' => k p l e s m args below meth c D g A hX H locs ls' hP hD hS (hL.st2 hX.2.2.2.2.2.2.2.2.1.2.2.2.2.2 hn h'))
theorem x_iinc {own : String} {cc : ByteArray} {nL : Nat} {ret : Option FieldType} {d : Nat} {Q : Option Value → List xt_E → Prop} {pc pc' : Nat} {lv : List (Option Value)} {st : List Value} {w : List xt_E} {i : Nat} {x v : Int32} (hd : xr_inc cc pc i v pc') (h : lv[i]? = some (some (.int x))) (hn : xt_nl lv i = true) (k : xt_T own cc nL ret d Q pc' (lv.set i (some (.int (x + v)))) st w) : xt_T own cc nL ret d Q pc lv st w := by
  intro p l e s m args below meth c D g A hX H locs ls hP hD hS hL
  obtain ⟨n, hd, hv, rfl⟩ := hd
  have hi : i < lv.length := (List.getElem?_eq_some_iff.mp h).1
  have hi2 : i < nL := Nat.lt_of_lt_of_le hi hL.1
  obtain ⟨kk, hkk⟩ := List.getElem?_of_mem (xt_as_mem.mpr ⟨i, _, h, (Nat.zero_add i).symm, rfl⟩ : (i, xt_v g (.int x)) ∈ xt_as g 0 lv)
  exact lv_iinc (v := x + v) hX.1 hX.2.1 hd hL.2 hkk (by rw [hv]) hi2 rfl (fun ls' h' => k p l e s m args below meth c D g A hX H locs ls' hP hD hS (hL.st1 hX.2.2.2.2.2.2.2.2.1.2.2.2.2.2 hn h'))
theorem x_iload0 {own : String} {cc : ByteArray} {nL : Nat} {ret : Option FieldType} {d : Nat} {Q : Option Value → List xt_E → Prop} {pc pc' : Nat} {st : List Value} {w : List xt_E} {r : List (Option Value)} {x : Int32} (hd : xr_ild cc pc 0 pc') (k : xt_T own cc nL ret d Q pc' (some (.int x) :: r) (.int x :: st) w) : xt_T own cc nL ret d Q pc (some (.int x) :: r) st w := x_iload hd rfl k
theorem x_lload0 {own : String} {cc : ByteArray} {nL : Nat} {ret : Option FieldType} {d : Nat} {Q : Option Value → List xt_E → Prop} {pc pc' : Nat} {st : List Value} {w : List xt_E} {r : List (Option Value)} {x : Int64} (hd : xr_lld cc pc 0 pc') (k : xt_T own cc nL ret d Q pc' (some (.long x) :: r) (.long x :: st) w) : xt_T own cc nL ret d Q pc (some (.long x) :: r) st w := x_lload hd rfl k
theorem x_aload0 {own : String} {cc : ByteArray} {nL : Nat} {ret : Option FieldType} {d : Nat} {Q : Option Value → List xt_E → Prop} {pc pc' : Nat} {st : List Value} {w : List xt_E} {r : List (Option Value)} {x : Nat} (hd : xr_ald cc pc 0 pc') (k : xt_T own cc nL ret d Q pc' (some (.ref x) :: r) (.ref x :: st) w) : xt_T own cc nL ret d Q pc (some (.ref x) :: r) st w := x_aload hd rfl k
theorem x_istore0 {own : String} {cc : ByteArray} {nL : Nat} {ret : Option FieldType} {d : Nat} {Q : Option Value → List xt_E → Prop} {pc pc' : Nat} {st : List Value} {w : List xt_E} {b : Option Value} {r : List (Option Value)} {x : Int32} (hd : xr_ist cc pc 0 pc') (k : xt_T own cc nL ret d Q pc' (some (.int x) :: r) st w) : xt_T own cc nL ret d Q pc (b :: r) (.int x :: st) w := x_istore (i := 0) hd (by simp only [List.length_cons]; omega) rfl k
theorem x_astore0 {own : String} {cc : ByteArray} {nL : Nat} {ret : Option FieldType} {d : Nat} {Q : Option Value → List xt_E → Prop} {pc pc' : Nat} {st : List Value} {w : List xt_E} {b : Option Value} {r : List (Option Value)} {x : Nat} (hd : xr_ast cc pc 0 pc') (k : xt_T own cc nL ret d Q pc' (some (.ref x) :: r) st w) : xt_T own cc nL ret d Q pc (b :: r) (.ref x :: st) w := x_astore (i := 0) hd (by simp only [List.length_cons]; omega) rfl k
theorem x_lstore0 {own : String} {cc : ByteArray} {nL : Nat} {ret : Option FieldType} {d : Nat} {Q : Option Value → List xt_E → Prop} {pc pc' : Nat} {st : List Value} {w : List xt_E} {b b2 : Option Value} {r : List (Option Value)} {x : Int64} (hd : xr_lst cc pc 0 pc') (k : xt_T own cc nL ret d Q pc' (some (.long x) :: none :: r) st w) : xt_T own cc nL ret d Q pc (b :: b2 :: r) (.long x :: st) w := x_lstore (i := 0) hd (by simp only [List.length_cons]; omega) rfl k
theorem x_iinc0 {own : String} {cc : ByteArray} {nL : Nat} {ret : Option FieldType} {d : Nat} {Q : Option Value → List xt_E → Prop} {pc pc' : Nat} {st : List Value} {w : List xt_E} {r : List (Option Value)} {x v : Int32} (hd : xr_inc cc pc 0 v pc') (k : xt_T own cc nL ret d Q pc' (some (.int (x + v)) :: r) st w) : xt_T own cc nL ret d Q pc (some (.int x) :: r) st w := x_iinc (i := 0) hd rfl rfl k
theorem x_iload1 {own : String} {cc : ByteArray} {nL : Nat} {ret : Option FieldType} {d : Nat} {Q : Option Value → List xt_E → Prop} {pc pc' : Nat} {st : List Value} {w : List xt_E} {a0 : Option Value} {r : List (Option Value)} {x : Int32} (hd : xr_ild cc pc 1 pc') (k : xt_T own cc nL ret d Q pc' (a0 :: some (.int x) :: r) (.int x :: st) w) : xt_T own cc nL ret d Q pc (a0 :: some (.int x) :: r) st w := x_iload hd rfl k
theorem x_lload1 {own : String} {cc : ByteArray} {nL : Nat} {ret : Option FieldType} {d : Nat} {Q : Option Value → List xt_E → Prop} {pc pc' : Nat} {st : List Value} {w : List xt_E} {a0 : Option Value} {r : List (Option Value)} {x : Int64} (hd : xr_lld cc pc 1 pc') (k : xt_T own cc nL ret d Q pc' (a0 :: some (.long x) :: r) (.long x :: st) w) : xt_T own cc nL ret d Q pc (a0 :: some (.long x) :: r) st w := x_lload hd rfl k
theorem x_aload1 {own : String} {cc : ByteArray} {nL : Nat} {ret : Option FieldType} {d : Nat} {Q : Option Value → List xt_E → Prop} {pc pc' : Nat} {st : List Value} {w : List xt_E} {a0 : Option Value} {r : List (Option Value)} {x : Nat} (hd : xr_ald cc pc 1 pc') (k : xt_T own cc nL ret d Q pc' (a0 :: some (.ref x) :: r) (.ref x :: st) w) : xt_T own cc nL ret d Q pc (a0 :: some (.ref x) :: r) st w := x_aload hd rfl k
theorem x_istore1 {own : String} {cc : ByteArray} {nL : Nat} {ret : Option FieldType} {d : Nat} {Q : Option Value → List xt_E → Prop} {pc pc' : Nat} {st : List Value} {w : List xt_E} {a0 : Option Value} {b : Option Value} {r : List (Option Value)} {x : Int32} (hd : xr_ist cc pc 1 pc') (hn : xt_nl [a0] 1 = true) (k : xt_T own cc nL ret d Q pc' (a0 :: some (.int x) :: r) st w) : xt_T own cc nL ret d Q pc (a0 :: b :: r) (.int x :: st) w := x_istore (i := 1) hd (by simp only [List.length_cons]; omega) hn k
theorem x_astore1 {own : String} {cc : ByteArray} {nL : Nat} {ret : Option FieldType} {d : Nat} {Q : Option Value → List xt_E → Prop} {pc pc' : Nat} {st : List Value} {w : List xt_E} {a0 : Option Value} {b : Option Value} {r : List (Option Value)} {x : Nat} (hd : xr_ast cc pc 1 pc') (hn : xt_nl [a0] 1 = true) (k : xt_T own cc nL ret d Q pc' (a0 :: some (.ref x) :: r) st w) : xt_T own cc nL ret d Q pc (a0 :: b :: r) (.ref x :: st) w := x_astore (i := 1) hd (by simp only [List.length_cons]; omega) hn k
theorem x_lstore1 {own : String} {cc : ByteArray} {nL : Nat} {ret : Option FieldType} {d : Nat} {Q : Option Value → List xt_E → Prop} {pc pc' : Nat} {st : List Value} {w : List xt_E} {a0 : Option Value} {b b2 : Option Value} {r : List (Option Value)} {x : Int64} (hd : xr_lst cc pc 1 pc') (hn : xt_nl [a0] 1 = true) (k : xt_T own cc nL ret d Q pc' (a0 :: some (.long x) :: none :: r) st w) : xt_T own cc nL ret d Q pc (a0 :: b :: b2 :: r) (.long x :: st) w := x_lstore (i := 1) hd (by simp only [List.length_cons]; omega) hn k
theorem x_iinc1 {own : String} {cc : ByteArray} {nL : Nat} {ret : Option FieldType} {d : Nat} {Q : Option Value → List xt_E → Prop} {pc pc' : Nat} {st : List Value} {w : List xt_E} {a0 : Option Value} {r : List (Option Value)} {x v : Int32} (hd : xr_inc cc pc 1 v pc') (hn : xt_nl [a0] 1 = true) (k : xt_T own cc nL ret d Q pc' (a0 :: some (.int (x + v)) :: r) st w) : xt_T own cc nL ret d Q pc (a0 :: some (.int x) :: r) st w := x_iinc (i := 1) hd rfl hn k
theorem x_iload2 {own : String} {cc : ByteArray} {nL : Nat} {ret : Option FieldType} {d : Nat} {Q : Option Value → List xt_E → Prop} {pc pc' : Nat} {st : List Value} {w : List xt_E} {a0 a1 : Option Value} {r : List (Option Value)} {x : Int32} (hd : xr_ild cc pc 2 pc') (k : xt_T own cc nL ret d Q pc' (a0 :: a1 :: some (.int x) :: r) (.int x :: st) w) : xt_T own cc nL ret d Q pc (a0 :: a1 :: some (.int x) :: r) st w := x_iload hd rfl k
theorem x_lload2 {own : String} {cc : ByteArray} {nL : Nat} {ret : Option FieldType} {d : Nat} {Q : Option Value → List xt_E → Prop} {pc pc' : Nat} {st : List Value} {w : List xt_E} {a0 a1 : Option Value} {r : List (Option Value)} {x : Int64} (hd : xr_lld cc pc 2 pc') (k : xt_T own cc nL ret d Q pc' (a0 :: a1 :: some (.long x) :: r) (.long x :: st) w) : xt_T own cc nL ret d Q pc (a0 :: a1 :: some (.long x) :: r) st w := x_lload hd rfl k
theorem x_aload2 {own : String} {cc : ByteArray} {nL : Nat} {ret : Option FieldType} {d : Nat} {Q : Option Value → List xt_E → Prop} {pc pc' : Nat} {st : List Value} {w : List xt_E} {a0 a1 : Option Value} {r : List (Option Value)} {x : Nat} (hd : xr_ald cc pc 2 pc') (k : xt_T own cc nL ret d Q pc' (a0 :: a1 :: some (.ref x) :: r) (.ref x :: st) w) : xt_T own cc nL ret d Q pc (a0 :: a1 :: some (.ref x) :: r) st w := x_aload hd rfl k
theorem x_istore2 {own : String} {cc : ByteArray} {nL : Nat} {ret : Option FieldType} {d : Nat} {Q : Option Value → List xt_E → Prop} {pc pc' : Nat} {st : List Value} {w : List xt_E} {a0 a1 : Option Value} {b : Option Value} {r : List (Option Value)} {x : Int32} (hd : xr_ist cc pc 2 pc') (hn : xt_nl [a1] 1 = true) (k : xt_T own cc nL ret d Q pc' (a0 :: a1 :: some (.int x) :: r) st w) : xt_T own cc nL ret d Q pc (a0 :: a1 :: b :: r) (.int x :: st) w := x_istore (i := 2) hd (by simp only [List.length_cons]; omega) hn k
theorem x_astore2 {own : String} {cc : ByteArray} {nL : Nat} {ret : Option FieldType} {d : Nat} {Q : Option Value → List xt_E → Prop} {pc pc' : Nat} {st : List Value} {w : List xt_E} {a0 a1 : Option Value} {b : Option Value} {r : List (Option Value)} {x : Nat} (hd : xr_ast cc pc 2 pc') (hn : xt_nl [a1] 1 = true) (k : xt_T own cc nL ret d Q pc' (a0 :: a1 :: some (.ref x) :: r) st w) : xt_T own cc nL ret d Q pc (a0 :: a1 :: b :: r) (.ref x :: st) w := x_astore (i := 2) hd (by simp only [List.length_cons]; omega) hn k
theorem x_lstore2 {own : String} {cc : ByteArray} {nL : Nat} {ret : Option FieldType} {d : Nat} {Q : Option Value → List xt_E → Prop} {pc pc' : Nat} {st : List Value} {w : List xt_E} {a0 a1 : Option Value} {b b2 : Option Value} {r : List (Option Value)} {x : Int64} (hd : xr_lst cc pc 2 pc') (hn : xt_nl [a1] 1 = true) (k : xt_T own cc nL ret d Q pc' (a0 :: a1 :: some (.long x) :: none :: r) st w) : xt_T own cc nL ret d Q pc (a0 :: a1 :: b :: b2 :: r) (.long x :: st) w := x_lstore (i := 2) hd (by simp only [List.length_cons]; omega) hn k
theorem x_iinc2 {own : String} {cc : ByteArray} {nL : Nat} {ret : Option FieldType} {d : Nat} {Q : Option Value → List xt_E → Prop} {pc pc' : Nat} {st : List Value} {w : List xt_E} {a0 a1 : Option Value} {r : List (Option Value)} {x v : Int32} (hd : xr_inc cc pc 2 v pc') (hn : xt_nl [a1] 1 = true) (k : xt_T own cc nL ret d Q pc' (a0 :: a1 :: some (.int (x + v)) :: r) st w) : xt_T own cc nL ret d Q pc (a0 :: a1 :: some (.int x) :: r) st w := x_iinc (i := 2) hd rfl hn k
theorem x_iload3 {own : String} {cc : ByteArray} {nL : Nat} {ret : Option FieldType} {d : Nat} {Q : Option Value → List xt_E → Prop} {pc pc' : Nat} {st : List Value} {w : List xt_E} {a0 a1 a2 : Option Value} {r : List (Option Value)} {x : Int32} (hd : xr_ild cc pc 3 pc') (k : xt_T own cc nL ret d Q pc' (a0 :: a1 :: a2 :: some (.int x) :: r) (.int x :: st) w) : xt_T own cc nL ret d Q pc (a0 :: a1 :: a2 :: some (.int x) :: r) st w := x_iload hd rfl k
theorem x_lload3 {own : String} {cc : ByteArray} {nL : Nat} {ret : Option FieldType} {d : Nat} {Q : Option Value → List xt_E → Prop} {pc pc' : Nat} {st : List Value} {w : List xt_E} {a0 a1 a2 : Option Value} {r : List (Option Value)} {x : Int64} (hd : xr_lld cc pc 3 pc') (k : xt_T own cc nL ret d Q pc' (a0 :: a1 :: a2 :: some (.long x) :: r) (.long x :: st) w) : xt_T own cc nL ret d Q pc (a0 :: a1 :: a2 :: some (.long x) :: r) st w := x_lload hd rfl k
theorem x_aload3 {own : String} {cc : ByteArray} {nL : Nat} {ret : Option FieldType} {d : Nat} {Q : Option Value → List xt_E → Prop} {pc pc' : Nat} {st : List Value} {w : List xt_E} {a0 a1 a2 : Option Value} {r : List (Option Value)} {x : Nat} (hd : xr_ald cc pc 3 pc') (k : xt_T own cc nL ret d Q pc' (a0 :: a1 :: a2 :: some (.ref x) :: r) (.ref x :: st) w) : xt_T own cc nL ret d Q pc (a0 :: a1 :: a2 :: some (.ref x) :: r) st w := x_aload hd rfl k
theorem x_istore3 {own : String} {cc : ByteArray} {nL : Nat} {ret : Option FieldType} {d : Nat} {Q : Option Value → List xt_E → Prop} {pc pc' : Nat} {st : List Value} {w : List xt_E} {a0 a1 a2 : Option Value} {b : Option Value} {r : List (Option Value)} {x : Int32} (hd : xr_ist cc pc 3 pc') (hn : xt_nl [a2] 1 = true) (k : xt_T own cc nL ret d Q pc' (a0 :: a1 :: a2 :: some (.int x) :: r) st w) : xt_T own cc nL ret d Q pc (a0 :: a1 :: a2 :: b :: r) (.int x :: st) w := x_istore (i := 3) hd (by simp only [List.length_cons]; omega) hn k
theorem x_astore3 {own : String} {cc : ByteArray} {nL : Nat} {ret : Option FieldType} {d : Nat} {Q : Option Value → List xt_E → Prop} {pc pc' : Nat} {st : List Value} {w : List xt_E} {a0 a1 a2 : Option Value} {b : Option Value} {r : List (Option Value)} {x : Nat} (hd : xr_ast cc pc 3 pc') (hn : xt_nl [a2] 1 = true) (k : xt_T own cc nL ret d Q pc' (a0 :: a1 :: a2 :: some (.ref x) :: r) st w) : xt_T own cc nL ret d Q pc (a0 :: a1 :: a2 :: b :: r) (.ref x :: st) w := x_astore (i := 3) hd (by simp only [List.length_cons]; omega) hn k
theorem x_lstore3 {own : String} {cc : ByteArray} {nL : Nat} {ret : Option FieldType} {d : Nat} {Q : Option Value → List xt_E → Prop} {pc pc' : Nat} {st : List Value} {w : List xt_E} {a0 a1 a2 : Option Value} {b b2 : Option Value} {r : List (Option Value)} {x : Int64} (hd : xr_lst cc pc 3 pc') (hn : xt_nl [a2] 1 = true) (k : xt_T own cc nL ret d Q pc' (a0 :: a1 :: a2 :: some (.long x) :: none :: r) st w) : xt_T own cc nL ret d Q pc (a0 :: a1 :: a2 :: b :: b2 :: r) (.long x :: st) w := x_lstore (i := 3) hd (by simp only [List.length_cons]; omega) hn k
theorem x_iinc3 {own : String} {cc : ByteArray} {nL : Nat} {ret : Option FieldType} {d : Nat} {Q : Option Value → List xt_E → Prop} {pc pc' : Nat} {st : List Value} {w : List xt_E} {a0 a1 a2 : Option Value} {r : List (Option Value)} {x v : Int32} (hd : xr_inc cc pc 3 v pc') (hn : xt_nl [a2] 1 = true) (k : xt_T own cc nL ret d Q pc' (a0 :: a1 :: a2 :: some (.int (x + v)) :: r) st w) : xt_T own cc nL ret d Q pc (a0 :: a1 :: a2 :: some (.int x) :: r) st w := x_iinc (i := 3) hd rfl hn k
theorem x_iload4 {own : String} {cc : ByteArray} {nL : Nat} {ret : Option FieldType} {d : Nat} {Q : Option Value → List xt_E → Prop} {pc pc' : Nat} {st : List Value} {w : List xt_E} {a0 a1 a2 a3 : Option Value} {r : List (Option Value)} {x : Int32} (hd : xr_ild cc pc 4 pc') (k : xt_T own cc nL ret d Q pc' (a0 :: a1 :: a2 :: a3 :: some (.int x) :: r) (.int x :: st) w) : xt_T own cc nL ret d Q pc (a0 :: a1 :: a2 :: a3 :: some (.int x) :: r) st w := x_iload hd rfl k
theorem x_lload4 {own : String} {cc : ByteArray} {nL : Nat} {ret : Option FieldType} {d : Nat} {Q : Option Value → List xt_E → Prop} {pc pc' : Nat} {st : List Value} {w : List xt_E} {a0 a1 a2 a3 : Option Value} {r : List (Option Value)} {x : Int64} (hd : xr_lld cc pc 4 pc') (k : xt_T own cc nL ret d Q pc' (a0 :: a1 :: a2 :: a3 :: some (.long x) :: r) (.long x :: st) w) : xt_T own cc nL ret d Q pc (a0 :: a1 :: a2 :: a3 :: some (.long x) :: r) st w := x_lload hd rfl k
theorem x_aload4 {own : String} {cc : ByteArray} {nL : Nat} {ret : Option FieldType} {d : Nat} {Q : Option Value → List xt_E → Prop} {pc pc' : Nat} {st : List Value} {w : List xt_E} {a0 a1 a2 a3 : Option Value} {r : List (Option Value)} {x : Nat} (hd : xr_ald cc pc 4 pc') (k : xt_T own cc nL ret d Q pc' (a0 :: a1 :: a2 :: a3 :: some (.ref x) :: r) (.ref x :: st) w) : xt_T own cc nL ret d Q pc (a0 :: a1 :: a2 :: a3 :: some (.ref x) :: r) st w := x_aload hd rfl k
theorem x_istore4 {own : String} {cc : ByteArray} {nL : Nat} {ret : Option FieldType} {d : Nat} {Q : Option Value → List xt_E → Prop} {pc pc' : Nat} {st : List Value} {w : List xt_E} {a0 a1 a2 a3 : Option Value} {b : Option Value} {r : List (Option Value)} {x : Int32} (hd : xr_ist cc pc 4 pc') (hn : xt_nl [a3] 1 = true) (k : xt_T own cc nL ret d Q pc' (a0 :: a1 :: a2 :: a3 :: some (.int x) :: r) st w) : xt_T own cc nL ret d Q pc (a0 :: a1 :: a2 :: a3 :: b :: r) (.int x :: st) w := x_istore (i := 4) hd (by simp only [List.length_cons]; omega) hn k
theorem x_astore4 {own : String} {cc : ByteArray} {nL : Nat} {ret : Option FieldType} {d : Nat} {Q : Option Value → List xt_E → Prop} {pc pc' : Nat} {st : List Value} {w : List xt_E} {a0 a1 a2 a3 : Option Value} {b : Option Value} {r : List (Option Value)} {x : Nat} (hd : xr_ast cc pc 4 pc') (hn : xt_nl [a3] 1 = true) (k : xt_T own cc nL ret d Q pc' (a0 :: a1 :: a2 :: a3 :: some (.ref x) :: r) st w) : xt_T own cc nL ret d Q pc (a0 :: a1 :: a2 :: a3 :: b :: r) (.ref x :: st) w := x_astore (i := 4) hd (by simp only [List.length_cons]; omega) hn k
theorem x_lstore4 {own : String} {cc : ByteArray} {nL : Nat} {ret : Option FieldType} {d : Nat} {Q : Option Value → List xt_E → Prop} {pc pc' : Nat} {st : List Value} {w : List xt_E} {a0 a1 a2 a3 : Option Value} {b b2 : Option Value} {r : List (Option Value)} {x : Int64} (hd : xr_lst cc pc 4 pc') (hn : xt_nl [a3] 1 = true) (k : xt_T own cc nL ret d Q pc' (a0 :: a1 :: a2 :: a3 :: some (.long x) :: none :: r) st w) : xt_T own cc nL ret d Q pc (a0 :: a1 :: a2 :: a3 :: b :: b2 :: r) (.long x :: st) w := x_lstore (i := 4) hd (by simp only [List.length_cons]; omega) hn k
theorem x_iinc4 {own : String} {cc : ByteArray} {nL : Nat} {ret : Option FieldType} {d : Nat} {Q : Option Value → List xt_E → Prop} {pc pc' : Nat} {st : List Value} {w : List xt_E} {a0 a1 a2 a3 : Option Value} {r : List (Option Value)} {x v : Int32} (hd : xr_inc cc pc 4 v pc') (hn : xt_nl [a3] 1 = true) (k : xt_T own cc nL ret d Q pc' (a0 :: a1 :: a2 :: a3 :: some (.int (x + v)) :: r) st w) : xt_T own cc nL ret d Q pc (a0 :: a1 :: a2 :: a3 :: some (.int x) :: r) st w := x_iinc (i := 4) hd rfl hn k
theorem x_iload5 {own : String} {cc : ByteArray} {nL : Nat} {ret : Option FieldType} {d : Nat} {Q : Option Value → List xt_E → Prop} {pc pc' : Nat} {st : List Value} {w : List xt_E} {a0 a1 a2 a3 a4 : Option Value} {r : List (Option Value)} {x : Int32} (hd : xr_ild cc pc 5 pc') (k : xt_T own cc nL ret d Q pc' (a0 :: a1 :: a2 :: a3 :: a4 :: some (.int x) :: r) (.int x :: st) w) : xt_T own cc nL ret d Q pc (a0 :: a1 :: a2 :: a3 :: a4 :: some (.int x) :: r) st w := x_iload hd rfl k
theorem x_lload5 {own : String} {cc : ByteArray} {nL : Nat} {ret : Option FieldType} {d : Nat} {Q : Option Value → List xt_E → Prop} {pc pc' : Nat} {st : List Value} {w : List xt_E} {a0 a1 a2 a3 a4 : Option Value} {r : List (Option Value)} {x : Int64} (hd : xr_lld cc pc 5 pc') (k : xt_T own cc nL ret d Q pc' (a0 :: a1 :: a2 :: a3 :: a4 :: some (.long x) :: r) (.long x :: st) w) : xt_T own cc nL ret d Q pc (a0 :: a1 :: a2 :: a3 :: a4 :: some (.long x) :: r) st w := x_lload hd rfl k
theorem x_aload5 {own : String} {cc : ByteArray} {nL : Nat} {ret : Option FieldType} {d : Nat} {Q : Option Value → List xt_E → Prop} {pc pc' : Nat} {st : List Value} {w : List xt_E} {a0 a1 a2 a3 a4 : Option Value} {r : List (Option Value)} {x : Nat} (hd : xr_ald cc pc 5 pc') (k : xt_T own cc nL ret d Q pc' (a0 :: a1 :: a2 :: a3 :: a4 :: some (.ref x) :: r) (.ref x :: st) w) : xt_T own cc nL ret d Q pc (a0 :: a1 :: a2 :: a3 :: a4 :: some (.ref x) :: r) st w := x_aload hd rfl k
theorem x_istore5 {own : String} {cc : ByteArray} {nL : Nat} {ret : Option FieldType} {d : Nat} {Q : Option Value → List xt_E → Prop} {pc pc' : Nat} {st : List Value} {w : List xt_E} {a0 a1 a2 a3 a4 : Option Value} {b : Option Value} {r : List (Option Value)} {x : Int32} (hd : xr_ist cc pc 5 pc') (hn : xt_nl [a4] 1 = true) (k : xt_T own cc nL ret d Q pc' (a0 :: a1 :: a2 :: a3 :: a4 :: some (.int x) :: r) st w) : xt_T own cc nL ret d Q pc (a0 :: a1 :: a2 :: a3 :: a4 :: b :: r) (.int x :: st) w := x_istore (i := 5) hd (by simp only [List.length_cons]; omega) hn k
theorem x_astore5 {own : String} {cc : ByteArray} {nL : Nat} {ret : Option FieldType} {d : Nat} {Q : Option Value → List xt_E → Prop} {pc pc' : Nat} {st : List Value} {w : List xt_E} {a0 a1 a2 a3 a4 : Option Value} {b : Option Value} {r : List (Option Value)} {x : Nat} (hd : xr_ast cc pc 5 pc') (hn : xt_nl [a4] 1 = true) (k : xt_T own cc nL ret d Q pc' (a0 :: a1 :: a2 :: a3 :: a4 :: some (.ref x) :: r) st w) : xt_T own cc nL ret d Q pc (a0 :: a1 :: a2 :: a3 :: a4 :: b :: r) (.ref x :: st) w := x_astore (i := 5) hd (by simp only [List.length_cons]; omega) hn k
theorem x_lstore5 {own : String} {cc : ByteArray} {nL : Nat} {ret : Option FieldType} {d : Nat} {Q : Option Value → List xt_E → Prop} {pc pc' : Nat} {st : List Value} {w : List xt_E} {a0 a1 a2 a3 a4 : Option Value} {b b2 : Option Value} {r : List (Option Value)} {x : Int64} (hd : xr_lst cc pc 5 pc') (hn : xt_nl [a4] 1 = true) (k : xt_T own cc nL ret d Q pc' (a0 :: a1 :: a2 :: a3 :: a4 :: some (.long x) :: none :: r) st w) : xt_T own cc nL ret d Q pc (a0 :: a1 :: a2 :: a3 :: a4 :: b :: b2 :: r) (.long x :: st) w := x_lstore (i := 5) hd (by simp only [List.length_cons]; omega) hn k
theorem x_iinc5 {own : String} {cc : ByteArray} {nL : Nat} {ret : Option FieldType} {d : Nat} {Q : Option Value → List xt_E → Prop} {pc pc' : Nat} {st : List Value} {w : List xt_E} {a0 a1 a2 a3 a4 : Option Value} {r : List (Option Value)} {x v : Int32} (hd : xr_inc cc pc 5 v pc') (hn : xt_nl [a4] 1 = true) (k : xt_T own cc nL ret d Q pc' (a0 :: a1 :: a2 :: a3 :: a4 :: some (.int (x + v)) :: r) st w) : xt_T own cc nL ret d Q pc (a0 :: a1 :: a2 :: a3 :: a4 :: some (.int x) :: r) st w := x_iinc (i := 5) hd rfl hn k
theorem x_iload6 {own : String} {cc : ByteArray} {nL : Nat} {ret : Option FieldType} {d : Nat} {Q : Option Value → List xt_E → Prop} {pc pc' : Nat} {st : List Value} {w : List xt_E} {a0 a1 a2 a3 a4 a5 : Option Value} {r : List (Option Value)} {x : Int32} (hd : xr_ild cc pc 6 pc') (k : xt_T own cc nL ret d Q pc' (a0 :: a1 :: a2 :: a3 :: a4 :: a5 :: some (.int x) :: r) (.int x :: st) w) : xt_T own cc nL ret d Q pc (a0 :: a1 :: a2 :: a3 :: a4 :: a5 :: some (.int x) :: r) st w := x_iload hd rfl k
theorem x_lload6 {own : String} {cc : ByteArray} {nL : Nat} {ret : Option FieldType} {d : Nat} {Q : Option Value → List xt_E → Prop} {pc pc' : Nat} {st : List Value} {w : List xt_E} {a0 a1 a2 a3 a4 a5 : Option Value} {r : List (Option Value)} {x : Int64} (hd : xr_lld cc pc 6 pc') (k : xt_T own cc nL ret d Q pc' (a0 :: a1 :: a2 :: a3 :: a4 :: a5 :: some (.long x) :: r) (.long x :: st) w) : xt_T own cc nL ret d Q pc (a0 :: a1 :: a2 :: a3 :: a4 :: a5 :: some (.long x) :: r) st w := x_lload hd rfl k
theorem x_aload6 {own : String} {cc : ByteArray} {nL : Nat} {ret : Option FieldType} {d : Nat} {Q : Option Value → List xt_E → Prop} {pc pc' : Nat} {st : List Value} {w : List xt_E} {a0 a1 a2 a3 a4 a5 : Option Value} {r : List (Option Value)} {x : Nat} (hd : xr_ald cc pc 6 pc') (k : xt_T own cc nL ret d Q pc' (a0 :: a1 :: a2 :: a3 :: a4 :: a5 :: some (.ref x) :: r) (.ref x :: st) w) : xt_T own cc nL ret d Q pc (a0 :: a1 :: a2 :: a3 :: a4 :: a5 :: some (.ref x) :: r) st w := x_aload hd rfl k
theorem x_istore6 {own : String} {cc : ByteArray} {nL : Nat} {ret : Option FieldType} {d : Nat} {Q : Option Value → List xt_E → Prop} {pc pc' : Nat} {st : List Value} {w : List xt_E} {a0 a1 a2 a3 a4 a5 : Option Value} {b : Option Value} {r : List (Option Value)} {x : Int32} (hd : xr_ist cc pc 6 pc') (hn : xt_nl [a5] 1 = true) (k : xt_T own cc nL ret d Q pc' (a0 :: a1 :: a2 :: a3 :: a4 :: a5 :: some (.int x) :: r) st w) : xt_T own cc nL ret d Q pc (a0 :: a1 :: a2 :: a3 :: a4 :: a5 :: b :: r) (.int x :: st) w := x_istore (i := 6) hd (by simp only [List.length_cons]; omega) hn k
theorem x_astore6 {own : String} {cc : ByteArray} {nL : Nat} {ret : Option FieldType} {d : Nat} {Q : Option Value → List xt_E → Prop} {pc pc' : Nat} {st : List Value} {w : List xt_E} {a0 a1 a2 a3 a4 a5 : Option Value} {b : Option Value} {r : List (Option Value)} {x : Nat} (hd : xr_ast cc pc 6 pc') (hn : xt_nl [a5] 1 = true) (k : xt_T own cc nL ret d Q pc' (a0 :: a1 :: a2 :: a3 :: a4 :: a5 :: some (.ref x) :: r) st w) : xt_T own cc nL ret d Q pc (a0 :: a1 :: a2 :: a3 :: a4 :: a5 :: b :: r) (.ref x :: st) w := x_astore (i := 6) hd (by simp only [List.length_cons]; omega) hn k
theorem x_lstore6 {own : String} {cc : ByteArray} {nL : Nat} {ret : Option FieldType} {d : Nat} {Q : Option Value → List xt_E → Prop} {pc pc' : Nat} {st : List Value} {w : List xt_E} {a0 a1 a2 a3 a4 a5 : Option Value} {b b2 : Option Value} {r : List (Option Value)} {x : Int64} (hd : xr_lst cc pc 6 pc') (hn : xt_nl [a5] 1 = true) (k : xt_T own cc nL ret d Q pc' (a0 :: a1 :: a2 :: a3 :: a4 :: a5 :: some (.long x) :: none :: r) st w) : xt_T own cc nL ret d Q pc (a0 :: a1 :: a2 :: a3 :: a4 :: a5 :: b :: b2 :: r) (.long x :: st) w := x_lstore (i := 6) hd (by simp only [List.length_cons]; omega) hn k
theorem x_iinc6 {own : String} {cc : ByteArray} {nL : Nat} {ret : Option FieldType} {d : Nat} {Q : Option Value → List xt_E → Prop} {pc pc' : Nat} {st : List Value} {w : List xt_E} {a0 a1 a2 a3 a4 a5 : Option Value} {r : List (Option Value)} {x v : Int32} (hd : xr_inc cc pc 6 v pc') (hn : xt_nl [a5] 1 = true) (k : xt_T own cc nL ret d Q pc' (a0 :: a1 :: a2 :: a3 :: a4 :: a5 :: some (.int (x + v)) :: r) st w) : xt_T own cc nL ret d Q pc (a0 :: a1 :: a2 :: a3 :: a4 :: a5 :: some (.int x) :: r) st w := x_iinc (i := 6) hd rfl hn k
theorem x_iload7 {own : String} {cc : ByteArray} {nL : Nat} {ret : Option FieldType} {d : Nat} {Q : Option Value → List xt_E → Prop} {pc pc' : Nat} {st : List Value} {w : List xt_E} {a0 a1 a2 a3 a4 a5 a6 : Option Value} {r : List (Option Value)} {x : Int32} (hd : xr_ild cc pc 7 pc') (k : xt_T own cc nL ret d Q pc' (a0 :: a1 :: a2 :: a3 :: a4 :: a5 :: a6 :: some (.int x) :: r) (.int x :: st) w) : xt_T own cc nL ret d Q pc (a0 :: a1 :: a2 :: a3 :: a4 :: a5 :: a6 :: some (.int x) :: r) st w := x_iload hd rfl k
theorem x_lload7 {own : String} {cc : ByteArray} {nL : Nat} {ret : Option FieldType} {d : Nat} {Q : Option Value → List xt_E → Prop} {pc pc' : Nat} {st : List Value} {w : List xt_E} {a0 a1 a2 a3 a4 a5 a6 : Option Value} {r : List (Option Value)} {x : Int64} (hd : xr_lld cc pc 7 pc') (k : xt_T own cc nL ret d Q pc' (a0 :: a1 :: a2 :: a3 :: a4 :: a5 :: a6 :: some (.long x) :: r) (.long x :: st) w) : xt_T own cc nL ret d Q pc (a0 :: a1 :: a2 :: a3 :: a4 :: a5 :: a6 :: some (.long x) :: r) st w := x_lload hd rfl k
theorem x_aload7 {own : String} {cc : ByteArray} {nL : Nat} {ret : Option FieldType} {d : Nat} {Q : Option Value → List xt_E → Prop} {pc pc' : Nat} {st : List Value} {w : List xt_E} {a0 a1 a2 a3 a4 a5 a6 : Option Value} {r : List (Option Value)} {x : Nat} (hd : xr_ald cc pc 7 pc') (k : xt_T own cc nL ret d Q pc' (a0 :: a1 :: a2 :: a3 :: a4 :: a5 :: a6 :: some (.ref x) :: r) (.ref x :: st) w) : xt_T own cc nL ret d Q pc (a0 :: a1 :: a2 :: a3 :: a4 :: a5 :: a6 :: some (.ref x) :: r) st w := x_aload hd rfl k
theorem x_istore7 {own : String} {cc : ByteArray} {nL : Nat} {ret : Option FieldType} {d : Nat} {Q : Option Value → List xt_E → Prop} {pc pc' : Nat} {st : List Value} {w : List xt_E} {a0 a1 a2 a3 a4 a5 a6 : Option Value} {b : Option Value} {r : List (Option Value)} {x : Int32} (hd : xr_ist cc pc 7 pc') (hn : xt_nl [a6] 1 = true) (k : xt_T own cc nL ret d Q pc' (a0 :: a1 :: a2 :: a3 :: a4 :: a5 :: a6 :: some (.int x) :: r) st w) : xt_T own cc nL ret d Q pc (a0 :: a1 :: a2 :: a3 :: a4 :: a5 :: a6 :: b :: r) (.int x :: st) w := x_istore (i := 7) hd (by simp only [List.length_cons]; omega) hn k
theorem x_astore7 {own : String} {cc : ByteArray} {nL : Nat} {ret : Option FieldType} {d : Nat} {Q : Option Value → List xt_E → Prop} {pc pc' : Nat} {st : List Value} {w : List xt_E} {a0 a1 a2 a3 a4 a5 a6 : Option Value} {b : Option Value} {r : List (Option Value)} {x : Nat} (hd : xr_ast cc pc 7 pc') (hn : xt_nl [a6] 1 = true) (k : xt_T own cc nL ret d Q pc' (a0 :: a1 :: a2 :: a3 :: a4 :: a5 :: a6 :: some (.ref x) :: r) st w) : xt_T own cc nL ret d Q pc (a0 :: a1 :: a2 :: a3 :: a4 :: a5 :: a6 :: b :: r) (.ref x :: st) w := x_astore (i := 7) hd (by simp only [List.length_cons]; omega) hn k
theorem x_lstore7 {own : String} {cc : ByteArray} {nL : Nat} {ret : Option FieldType} {d : Nat} {Q : Option Value → List xt_E → Prop} {pc pc' : Nat} {st : List Value} {w : List xt_E} {a0 a1 a2 a3 a4 a5 a6 : Option Value} {b b2 : Option Value} {r : List (Option Value)} {x : Int64} (hd : xr_lst cc pc 7 pc') (hn : xt_nl [a6] 1 = true) (k : xt_T own cc nL ret d Q pc' (a0 :: a1 :: a2 :: a3 :: a4 :: a5 :: a6 :: some (.long x) :: none :: r) st w) : xt_T own cc nL ret d Q pc (a0 :: a1 :: a2 :: a3 :: a4 :: a5 :: a6 :: b :: b2 :: r) (.long x :: st) w := x_lstore (i := 7) hd (by simp only [List.length_cons]; omega) hn k
theorem x_iinc7 {own : String} {cc : ByteArray} {nL : Nat} {ret : Option FieldType} {d : Nat} {Q : Option Value → List xt_E → Prop} {pc pc' : Nat} {st : List Value} {w : List xt_E} {a0 a1 a2 a3 a4 a5 a6 : Option Value} {r : List (Option Value)} {x v : Int32} (hd : xr_inc cc pc 7 v pc') (hn : xt_nl [a6] 1 = true) (k : xt_T own cc nL ret d Q pc' (a0 :: a1 :: a2 :: a3 :: a4 :: a5 :: a6 :: some (.int (x + v)) :: r) st w) : xt_T own cc nL ret d Q pc (a0 :: a1 :: a2 :: a3 :: a4 :: a5 :: a6 :: some (.int x) :: r) st w := x_iinc (i := 7) hd rfl hn k
theorem x_iload8 {own : String} {cc : ByteArray} {nL : Nat} {ret : Option FieldType} {d : Nat} {Q : Option Value → List xt_E → Prop} {pc pc' : Nat} {st : List Value} {w : List xt_E} {a0 a1 a2 a3 a4 a5 a6 a7 : Option Value} {r : List (Option Value)} {x : Int32} (hd : xr_ild cc pc 8 pc') (k : xt_T own cc nL ret d Q pc' (a0 :: a1 :: a2 :: a3 :: a4 :: a5 :: a6 :: a7 :: some (.int x) :: r) (.int x :: st) w) : xt_T own cc nL ret d Q pc (a0 :: a1 :: a2 :: a3 :: a4 :: a5 :: a6 :: a7 :: some (.int x) :: r) st w := x_iload hd rfl k
theorem x_lload8 {own : String} {cc : ByteArray} {nL : Nat} {ret : Option FieldType} {d : Nat} {Q : Option Value → List xt_E → Prop} {pc pc' : Nat} {st : List Value} {w : List xt_E} {a0 a1 a2 a3 a4 a5 a6 a7 : Option Value} {r : List (Option Value)} {x : Int64} (hd : xr_lld cc pc 8 pc') (k : xt_T own cc nL ret d Q pc' (a0 :: a1 :: a2 :: a3 :: a4 :: a5 :: a6 :: a7 :: some (.long x) :: r) (.long x :: st) w) : xt_T own cc nL ret d Q pc (a0 :: a1 :: a2 :: a3 :: a4 :: a5 :: a6 :: a7 :: some (.long x) :: r) st w := x_lload hd rfl k
theorem x_aload8 {own : String} {cc : ByteArray} {nL : Nat} {ret : Option FieldType} {d : Nat} {Q : Option Value → List xt_E → Prop} {pc pc' : Nat} {st : List Value} {w : List xt_E} {a0 a1 a2 a3 a4 a5 a6 a7 : Option Value} {r : List (Option Value)} {x : Nat} (hd : xr_ald cc pc 8 pc') (k : xt_T own cc nL ret d Q pc' (a0 :: a1 :: a2 :: a3 :: a4 :: a5 :: a6 :: a7 :: some (.ref x) :: r) (.ref x :: st) w) : xt_T own cc nL ret d Q pc (a0 :: a1 :: a2 :: a3 :: a4 :: a5 :: a6 :: a7 :: some (.ref x) :: r) st w := x_aload hd rfl k
theorem x_istore8 {own : String} {cc : ByteArray} {nL : Nat} {ret : Option FieldType} {d : Nat} {Q : Option Value → List xt_E → Prop} {pc pc' : Nat} {st : List Value} {w : List xt_E} {a0 a1 a2 a3 a4 a5 a6 a7 : Option Value} {b : Option Value} {r : List (Option Value)} {x : Int32} (hd : xr_ist cc pc 8 pc') (hn : xt_nl [a7] 1 = true) (k : xt_T own cc nL ret d Q pc' (a0 :: a1 :: a2 :: a3 :: a4 :: a5 :: a6 :: a7 :: some (.int x) :: r) st w) : xt_T own cc nL ret d Q pc (a0 :: a1 :: a2 :: a3 :: a4 :: a5 :: a6 :: a7 :: b :: r) (.int x :: st) w := x_istore (i := 8) hd (by simp only [List.length_cons]; omega) hn k
theorem x_astore8 {own : String} {cc : ByteArray} {nL : Nat} {ret : Option FieldType} {d : Nat} {Q : Option Value → List xt_E → Prop} {pc pc' : Nat} {st : List Value} {w : List xt_E} {a0 a1 a2 a3 a4 a5 a6 a7 : Option Value} {b : Option Value} {r : List (Option Value)} {x : Nat} (hd : xr_ast cc pc 8 pc') (hn : xt_nl [a7] 1 = true) (k : xt_T own cc nL ret d Q pc' (a0 :: a1 :: a2 :: a3 :: a4 :: a5 :: a6 :: a7 :: some (.ref x) :: r) st w) : xt_T own cc nL ret d Q pc (a0 :: a1 :: a2 :: a3 :: a4 :: a5 :: a6 :: a7 :: b :: r) (.ref x :: st) w := x_astore (i := 8) hd (by simp only [List.length_cons]; omega) hn k
theorem x_lstore8 {own : String} {cc : ByteArray} {nL : Nat} {ret : Option FieldType} {d : Nat} {Q : Option Value → List xt_E → Prop} {pc pc' : Nat} {st : List Value} {w : List xt_E} {a0 a1 a2 a3 a4 a5 a6 a7 : Option Value} {b b2 : Option Value} {r : List (Option Value)} {x : Int64} (hd : xr_lst cc pc 8 pc') (hn : xt_nl [a7] 1 = true) (k : xt_T own cc nL ret d Q pc' (a0 :: a1 :: a2 :: a3 :: a4 :: a5 :: a6 :: a7 :: some (.long x) :: none :: r) st w) : xt_T own cc nL ret d Q pc (a0 :: a1 :: a2 :: a3 :: a4 :: a5 :: a6 :: a7 :: b :: b2 :: r) (.long x :: st) w := x_lstore (i := 8) hd (by simp only [List.length_cons]; omega) hn k
theorem x_iinc8 {own : String} {cc : ByteArray} {nL : Nat} {ret : Option FieldType} {d : Nat} {Q : Option Value → List xt_E → Prop} {pc pc' : Nat} {st : List Value} {w : List xt_E} {a0 a1 a2 a3 a4 a5 a6 a7 : Option Value} {r : List (Option Value)} {x v : Int32} (hd : xr_inc cc pc 8 v pc') (hn : xt_nl [a7] 1 = true) (k : xt_T own cc nL ret d Q pc' (a0 :: a1 :: a2 :: a3 :: a4 :: a5 :: a6 :: a7 :: some (.int (x + v)) :: r) st w) : xt_T own cc nL ret d Q pc (a0 :: a1 :: a2 :: a3 :: a4 :: a5 :: a6 :: a7 :: some (.int x) :: r) st w := x_iinc (i := 8) hd rfl hn k
theorem x_iload9 {own : String} {cc : ByteArray} {nL : Nat} {ret : Option FieldType} {d : Nat} {Q : Option Value → List xt_E → Prop} {pc pc' : Nat} {st : List Value} {w : List xt_E} {a0 a1 a2 a3 a4 a5 a6 a7 a8 : Option Value} {r : List (Option Value)} {x : Int32} (hd : xr_ild cc pc 9 pc') (k : xt_T own cc nL ret d Q pc' (a0 :: a1 :: a2 :: a3 :: a4 :: a5 :: a6 :: a7 :: a8 :: some (.int x) :: r) (.int x :: st) w) : xt_T own cc nL ret d Q pc (a0 :: a1 :: a2 :: a3 :: a4 :: a5 :: a6 :: a7 :: a8 :: some (.int x) :: r) st w := x_iload hd rfl k
theorem x_lload9 {own : String} {cc : ByteArray} {nL : Nat} {ret : Option FieldType} {d : Nat} {Q : Option Value → List xt_E → Prop} {pc pc' : Nat} {st : List Value} {w : List xt_E} {a0 a1 a2 a3 a4 a5 a6 a7 a8 : Option Value} {r : List (Option Value)} {x : Int64} (hd : xr_lld cc pc 9 pc') (k : xt_T own cc nL ret d Q pc' (a0 :: a1 :: a2 :: a3 :: a4 :: a5 :: a6 :: a7 :: a8 :: some (.long x) :: r) (.long x :: st) w) : xt_T own cc nL ret d Q pc (a0 :: a1 :: a2 :: a3 :: a4 :: a5 :: a6 :: a7 :: a8 :: some (.long x) :: r) st w := x_lload hd rfl k
theorem x_aload9 {own : String} {cc : ByteArray} {nL : Nat} {ret : Option FieldType} {d : Nat} {Q : Option Value → List xt_E → Prop} {pc pc' : Nat} {st : List Value} {w : List xt_E} {a0 a1 a2 a3 a4 a5 a6 a7 a8 : Option Value} {r : List (Option Value)} {x : Nat} (hd : xr_ald cc pc 9 pc') (k : xt_T own cc nL ret d Q pc' (a0 :: a1 :: a2 :: a3 :: a4 :: a5 :: a6 :: a7 :: a8 :: some (.ref x) :: r) (.ref x :: st) w) : xt_T own cc nL ret d Q pc (a0 :: a1 :: a2 :: a3 :: a4 :: a5 :: a6 :: a7 :: a8 :: some (.ref x) :: r) st w := x_aload hd rfl k
theorem x_istore9 {own : String} {cc : ByteArray} {nL : Nat} {ret : Option FieldType} {d : Nat} {Q : Option Value → List xt_E → Prop} {pc pc' : Nat} {st : List Value} {w : List xt_E} {a0 a1 a2 a3 a4 a5 a6 a7 a8 : Option Value} {b : Option Value} {r : List (Option Value)} {x : Int32} (hd : xr_ist cc pc 9 pc') (hn : xt_nl [a8] 1 = true) (k : xt_T own cc nL ret d Q pc' (a0 :: a1 :: a2 :: a3 :: a4 :: a5 :: a6 :: a7 :: a8 :: some (.int x) :: r) st w) : xt_T own cc nL ret d Q pc (a0 :: a1 :: a2 :: a3 :: a4 :: a5 :: a6 :: a7 :: a8 :: b :: r) (.int x :: st) w := x_istore (i := 9) hd (by simp only [List.length_cons]; omega) hn k
theorem x_astore9 {own : String} {cc : ByteArray} {nL : Nat} {ret : Option FieldType} {d : Nat} {Q : Option Value → List xt_E → Prop} {pc pc' : Nat} {st : List Value} {w : List xt_E} {a0 a1 a2 a3 a4 a5 a6 a7 a8 : Option Value} {b : Option Value} {r : List (Option Value)} {x : Nat} (hd : xr_ast cc pc 9 pc') (hn : xt_nl [a8] 1 = true) (k : xt_T own cc nL ret d Q pc' (a0 :: a1 :: a2 :: a3 :: a4 :: a5 :: a6 :: a7 :: a8 :: some (.ref x) :: r) st w) : xt_T own cc nL ret d Q pc (a0 :: a1 :: a2 :: a3 :: a4 :: a5 :: a6 :: a7 :: a8 :: b :: r) (.ref x :: st) w := x_astore (i := 9) hd (by simp only [List.length_cons]; omega) hn k
theorem x_lstore9 {own : String} {cc : ByteArray} {nL : Nat} {ret : Option FieldType} {d : Nat} {Q : Option Value → List xt_E → Prop} {pc pc' : Nat} {st : List Value} {w : List xt_E} {a0 a1 a2 a3 a4 a5 a6 a7 a8 : Option Value} {b b2 : Option Value} {r : List (Option Value)} {x : Int64} (hd : xr_lst cc pc 9 pc') (hn : xt_nl [a8] 1 = true) (k : xt_T own cc nL ret d Q pc' (a0 :: a1 :: a2 :: a3 :: a4 :: a5 :: a6 :: a7 :: a8 :: some (.long x) :: none :: r) st w) : xt_T own cc nL ret d Q pc (a0 :: a1 :: a2 :: a3 :: a4 :: a5 :: a6 :: a7 :: a8 :: b :: b2 :: r) (.long x :: st) w := x_lstore (i := 9) hd (by simp only [List.length_cons]; omega) hn k
theorem x_iinc9 {own : String} {cc : ByteArray} {nL : Nat} {ret : Option FieldType} {d : Nat} {Q : Option Value → List xt_E → Prop} {pc pc' : Nat} {st : List Value} {w : List xt_E} {a0 a1 a2 a3 a4 a5 a6 a7 a8 : Option Value} {r : List (Option Value)} {x v : Int32} (hd : xr_inc cc pc 9 v pc') (hn : xt_nl [a8] 1 = true) (k : xt_T own cc nL ret d Q pc' (a0 :: a1 :: a2 :: a3 :: a4 :: a5 :: a6 :: a7 :: a8 :: some (.int (x + v)) :: r) st w) : xt_T own cc nL ret d Q pc (a0 :: a1 :: a2 :: a3 :: a4 :: a5 :: a6 :: a7 :: a8 :: some (.int x) :: r) st w := x_iinc (i := 9) hd rfl hn k
theorem x_iload10 {own : String} {cc : ByteArray} {nL : Nat} {ret : Option FieldType} {d : Nat} {Q : Option Value → List xt_E → Prop} {pc pc' : Nat} {st : List Value} {w : List xt_E} {a0 a1 a2 a3 a4 a5 a6 a7 a8 a9 : Option Value} {r : List (Option Value)} {x : Int32} (hd : xr_ild cc pc 10 pc') (k : xt_T own cc nL ret d Q pc' (a0 :: a1 :: a2 :: a3 :: a4 :: a5 :: a6 :: a7 :: a8 :: a9 :: some (.int x) :: r) (.int x :: st) w) : xt_T own cc nL ret d Q pc (a0 :: a1 :: a2 :: a3 :: a4 :: a5 :: a6 :: a7 :: a8 :: a9 :: some (.int x) :: r) st w := x_iload hd rfl k
theorem x_lload10 {own : String} {cc : ByteArray} {nL : Nat} {ret : Option FieldType} {d : Nat} {Q : Option Value → List xt_E → Prop} {pc pc' : Nat} {st : List Value} {w : List xt_E} {a0 a1 a2 a3 a4 a5 a6 a7 a8 a9 : Option Value} {r : List (Option Value)} {x : Int64} (hd : xr_lld cc pc 10 pc') (k : xt_T own cc nL ret d Q pc' (a0 :: a1 :: a2 :: a3 :: a4 :: a5 :: a6 :: a7 :: a8 :: a9 :: some (.long x) :: r) (.long x :: st) w) : xt_T own cc nL ret d Q pc (a0 :: a1 :: a2 :: a3 :: a4 :: a5 :: a6 :: a7 :: a8 :: a9 :: some (.long x) :: r) st w := x_lload hd rfl k
theorem x_aload10 {own : String} {cc : ByteArray} {nL : Nat} {ret : Option FieldType} {d : Nat} {Q : Option Value → List xt_E → Prop} {pc pc' : Nat} {st : List Value} {w : List xt_E} {a0 a1 a2 a3 a4 a5 a6 a7 a8 a9 : Option Value} {r : List (Option Value)} {x : Nat} (hd : xr_ald cc pc 10 pc') (k : xt_T own cc nL ret d Q pc' (a0 :: a1 :: a2 :: a3 :: a4 :: a5 :: a6 :: a7 :: a8 :: a9 :: some (.ref x) :: r) (.ref x :: st) w) : xt_T own cc nL ret d Q pc (a0 :: a1 :: a2 :: a3 :: a4 :: a5 :: a6 :: a7 :: a8 :: a9 :: some (.ref x) :: r) st w := x_aload hd rfl k
theorem x_istore10 {own : String} {cc : ByteArray} {nL : Nat} {ret : Option FieldType} {d : Nat} {Q : Option Value → List xt_E → Prop} {pc pc' : Nat} {st : List Value} {w : List xt_E} {a0 a1 a2 a3 a4 a5 a6 a7 a8 a9 : Option Value} {b : Option Value} {r : List (Option Value)} {x : Int32} (hd : xr_ist cc pc 10 pc') (hn : xt_nl [a9] 1 = true) (k : xt_T own cc nL ret d Q pc' (a0 :: a1 :: a2 :: a3 :: a4 :: a5 :: a6 :: a7 :: a8 :: a9 :: some (.int x) :: r) st w) : xt_T own cc nL ret d Q pc (a0 :: a1 :: a2 :: a3 :: a4 :: a5 :: a6 :: a7 :: a8 :: a9 :: b :: r) (.int x :: st) w := x_istore (i := 10) hd (by simp only [List.length_cons]; omega) hn k
theorem x_astore10 {own : String} {cc : ByteArray} {nL : Nat} {ret : Option FieldType} {d : Nat} {Q : Option Value → List xt_E → Prop} {pc pc' : Nat} {st : List Value} {w : List xt_E} {a0 a1 a2 a3 a4 a5 a6 a7 a8 a9 : Option Value} {b : Option Value} {r : List (Option Value)} {x : Nat} (hd : xr_ast cc pc 10 pc') (hn : xt_nl [a9] 1 = true) (k : xt_T own cc nL ret d Q pc' (a0 :: a1 :: a2 :: a3 :: a4 :: a5 :: a6 :: a7 :: a8 :: a9 :: some (.ref x) :: r) st w) : xt_T own cc nL ret d Q pc (a0 :: a1 :: a2 :: a3 :: a4 :: a5 :: a6 :: a7 :: a8 :: a9 :: b :: r) (.ref x :: st) w := x_astore (i := 10) hd (by simp only [List.length_cons]; omega) hn k
theorem x_lstore10 {own : String} {cc : ByteArray} {nL : Nat} {ret : Option FieldType} {d : Nat} {Q : Option Value → List xt_E → Prop} {pc pc' : Nat} {st : List Value} {w : List xt_E} {a0 a1 a2 a3 a4 a5 a6 a7 a8 a9 : Option Value} {b b2 : Option Value} {r : List (Option Value)} {x : Int64} (hd : xr_lst cc pc 10 pc') (hn : xt_nl [a9] 1 = true) (k : xt_T own cc nL ret d Q pc' (a0 :: a1 :: a2 :: a3 :: a4 :: a5 :: a6 :: a7 :: a8 :: a9 :: some (.long x) :: none :: r) st w) : xt_T own cc nL ret d Q pc (a0 :: a1 :: a2 :: a3 :: a4 :: a5 :: a6 :: a7 :: a8 :: a9 :: b :: b2 :: r) (.long x :: st) w := x_lstore (i := 10) hd (by simp only [List.length_cons]; omega) hn k
theorem x_iinc10 {own : String} {cc : ByteArray} {nL : Nat} {ret : Option FieldType} {d : Nat} {Q : Option Value → List xt_E → Prop} {pc pc' : Nat} {st : List Value} {w : List xt_E} {a0 a1 a2 a3 a4 a5 a6 a7 a8 a9 : Option Value} {r : List (Option Value)} {x v : Int32} (hd : xr_inc cc pc 10 v pc') (hn : xt_nl [a9] 1 = true) (k : xt_T own cc nL ret d Q pc' (a0 :: a1 :: a2 :: a3 :: a4 :: a5 :: a6 :: a7 :: a8 :: a9 :: some (.int (x + v)) :: r) st w) : xt_T own cc nL ret d Q pc (a0 :: a1 :: a2 :: a3 :: a4 :: a5 :: a6 :: a7 :: a8 :: a9 :: some (.int x) :: r) st w := x_iinc (i := 10) hd rfl hn k
theorem x_iload11 {own : String} {cc : ByteArray} {nL : Nat} {ret : Option FieldType} {d : Nat} {Q : Option Value → List xt_E → Prop} {pc pc' : Nat} {st : List Value} {w : List xt_E} {a0 a1 a2 a3 a4 a5 a6 a7 a8 a9 a10 : Option Value} {r : List (Option Value)} {x : Int32} (hd : xr_ild cc pc 11 pc') (k : xt_T own cc nL ret d Q pc' (a0 :: a1 :: a2 :: a3 :: a4 :: a5 :: a6 :: a7 :: a8 :: a9 :: a10 :: some (.int x) :: r) (.int x :: st) w) : xt_T own cc nL ret d Q pc (a0 :: a1 :: a2 :: a3 :: a4 :: a5 :: a6 :: a7 :: a8 :: a9 :: a10 :: some (.int x) :: r) st w := x_iload hd rfl k
theorem x_lload11 {own : String} {cc : ByteArray} {nL : Nat} {ret : Option FieldType} {d : Nat} {Q : Option Value → List xt_E → Prop} {pc pc' : Nat} {st : List Value} {w : List xt_E} {a0 a1 a2 a3 a4 a5 a6 a7 a8 a9 a10 : Option Value} {r : List (Option Value)} {x : Int64} (hd : xr_lld cc pc 11 pc') (k : xt_T own cc nL ret d Q pc' (a0 :: a1 :: a2 :: a3 :: a4 :: a5 :: a6 :: a7 :: a8 :: a9 :: a10 :: some (.long x) :: r) (.long x :: st) w) : xt_T own cc nL ret d Q pc (a0 :: a1 :: a2 :: a3 :: a4 :: a5 :: a6 :: a7 :: a8 :: a9 :: a10 :: some (.long x) :: r) st w := x_lload hd rfl k
theorem x_aload11 {own : String} {cc : ByteArray} {nL : Nat} {ret : Option FieldType} {d : Nat} {Q : Option Value → List xt_E → Prop} {pc pc' : Nat} {st : List Value} {w : List xt_E} {a0 a1 a2 a3 a4 a5 a6 a7 a8 a9 a10 : Option Value} {r : List (Option Value)} {x : Nat} (hd : xr_ald cc pc 11 pc') (k : xt_T own cc nL ret d Q pc' (a0 :: a1 :: a2 :: a3 :: a4 :: a5 :: a6 :: a7 :: a8 :: a9 :: a10 :: some (.ref x) :: r) (.ref x :: st) w) : xt_T own cc nL ret d Q pc (a0 :: a1 :: a2 :: a3 :: a4 :: a5 :: a6 :: a7 :: a8 :: a9 :: a10 :: some (.ref x) :: r) st w := x_aload hd rfl k
theorem x_istore11 {own : String} {cc : ByteArray} {nL : Nat} {ret : Option FieldType} {d : Nat} {Q : Option Value → List xt_E → Prop} {pc pc' : Nat} {st : List Value} {w : List xt_E} {a0 a1 a2 a3 a4 a5 a6 a7 a8 a9 a10 : Option Value} {b : Option Value} {r : List (Option Value)} {x : Int32} (hd : xr_ist cc pc 11 pc') (hn : xt_nl [a10] 1 = true) (k : xt_T own cc nL ret d Q pc' (a0 :: a1 :: a2 :: a3 :: a4 :: a5 :: a6 :: a7 :: a8 :: a9 :: a10 :: some (.int x) :: r) st w) : xt_T own cc nL ret d Q pc (a0 :: a1 :: a2 :: a3 :: a4 :: a5 :: a6 :: a7 :: a8 :: a9 :: a10 :: b :: r) (.int x :: st) w := x_istore (i := 11) hd (by simp only [List.length_cons]; omega) hn k
theorem x_astore11 {own : String} {cc : ByteArray} {nL : Nat} {ret : Option FieldType} {d : Nat} {Q : Option Value → List xt_E → Prop} {pc pc' : Nat} {st : List Value} {w : List xt_E} {a0 a1 a2 a3 a4 a5 a6 a7 a8 a9 a10 : Option Value} {b : Option Value} {r : List (Option Value)} {x : Nat} (hd : xr_ast cc pc 11 pc') (hn : xt_nl [a10] 1 = true) (k : xt_T own cc nL ret d Q pc' (a0 :: a1 :: a2 :: a3 :: a4 :: a5 :: a6 :: a7 :: a8 :: a9 :: a10 :: some (.ref x) :: r) st w) : xt_T own cc nL ret d Q pc (a0 :: a1 :: a2 :: a3 :: a4 :: a5 :: a6 :: a7 :: a8 :: a9 :: a10 :: b :: r) (.ref x :: st) w := x_astore (i := 11) hd (by simp only [List.length_cons]; omega) hn k
theorem x_lstore11 {own : String} {cc : ByteArray} {nL : Nat} {ret : Option FieldType} {d : Nat} {Q : Option Value → List xt_E → Prop} {pc pc' : Nat} {st : List Value} {w : List xt_E} {a0 a1 a2 a3 a4 a5 a6 a7 a8 a9 a10 : Option Value} {b b2 : Option Value} {r : List (Option Value)} {x : Int64} (hd : xr_lst cc pc 11 pc') (hn : xt_nl [a10] 1 = true) (k : xt_T own cc nL ret d Q pc' (a0 :: a1 :: a2 :: a3 :: a4 :: a5 :: a6 :: a7 :: a8 :: a9 :: a10 :: some (.long x) :: none :: r) st w) : xt_T own cc nL ret d Q pc (a0 :: a1 :: a2 :: a3 :: a4 :: a5 :: a6 :: a7 :: a8 :: a9 :: a10 :: b :: b2 :: r) (.long x :: st) w := x_lstore (i := 11) hd (by simp only [List.length_cons]; omega) hn k
theorem x_iinc11 {own : String} {cc : ByteArray} {nL : Nat} {ret : Option FieldType} {d : Nat} {Q : Option Value → List xt_E → Prop} {pc pc' : Nat} {st : List Value} {w : List xt_E} {a0 a1 a2 a3 a4 a5 a6 a7 a8 a9 a10 : Option Value} {r : List (Option Value)} {x v : Int32} (hd : xr_inc cc pc 11 v pc') (hn : xt_nl [a10] 1 = true) (k : xt_T own cc nL ret d Q pc' (a0 :: a1 :: a2 :: a3 :: a4 :: a5 :: a6 :: a7 :: a8 :: a9 :: a10 :: some (.int (x + v)) :: r) st w) : xt_T own cc nL ret d Q pc (a0 :: a1 :: a2 :: a3 :: a4 :: a5 :: a6 :: a7 :: a8 :: a9 :: a10 :: some (.int x) :: r) st w := x_iinc (i := 11) hd rfl hn k
theorem x_iload12 {own : String} {cc : ByteArray} {nL : Nat} {ret : Option FieldType} {d : Nat} {Q : Option Value → List xt_E → Prop} {pc pc' : Nat} {st : List Value} {w : List xt_E} {a0 a1 a2 a3 a4 a5 a6 a7 a8 a9 a10 a11 : Option Value} {r : List (Option Value)} {x : Int32} (hd : xr_ild cc pc 12 pc') (k : xt_T own cc nL ret d Q pc' (a0 :: a1 :: a2 :: a3 :: a4 :: a5 :: a6 :: a7 :: a8 :: a9 :: a10 :: a11 :: some (.int x) :: r) (.int x :: st) w) : xt_T own cc nL ret d Q pc (a0 :: a1 :: a2 :: a3 :: a4 :: a5 :: a6 :: a7 :: a8 :: a9 :: a10 :: a11 :: some (.int x) :: r) st w := x_iload hd rfl k
theorem x_lload12 {own : String} {cc : ByteArray} {nL : Nat} {ret : Option FieldType} {d : Nat} {Q : Option Value → List xt_E → Prop} {pc pc' : Nat} {st : List Value} {w : List xt_E} {a0 a1 a2 a3 a4 a5 a6 a7 a8 a9 a10 a11 : Option Value} {r : List (Option Value)} {x : Int64} (hd : xr_lld cc pc 12 pc') (k : xt_T own cc nL ret d Q pc' (a0 :: a1 :: a2 :: a3 :: a4 :: a5 :: a6 :: a7 :: a8 :: a9 :: a10 :: a11 :: some (.long x) :: r) (.long x :: st) w) : xt_T own cc nL ret d Q pc (a0 :: a1 :: a2 :: a3 :: a4 :: a5 :: a6 :: a7 :: a8 :: a9 :: a10 :: a11 :: some (.long x) :: r) st w := x_lload hd rfl k
theorem x_aload12 {own : String} {cc : ByteArray} {nL : Nat} {ret : Option FieldType} {d : Nat} {Q : Option Value → List xt_E → Prop} {pc pc' : Nat} {st : List Value} {w : List xt_E} {a0 a1 a2 a3 a4 a5 a6 a7 a8 a9 a10 a11 : Option Value} {r : List (Option Value)} {x : Nat} (hd : xr_ald cc pc 12 pc') (k : xt_T own cc nL ret d Q pc' (a0 :: a1 :: a2 :: a3 :: a4 :: a5 :: a6 :: a7 :: a8 :: a9 :: a10 :: a11 :: some (.ref x) :: r) (.ref x :: st) w) : xt_T own cc nL ret d Q pc (a0 :: a1 :: a2 :: a3 :: a4 :: a5 :: a6 :: a7 :: a8 :: a9 :: a10 :: a11 :: some (.ref x) :: r) st w := x_aload hd rfl k
theorem x_istore12 {own : String} {cc : ByteArray} {nL : Nat} {ret : Option FieldType} {d : Nat} {Q : Option Value → List xt_E → Prop} {pc pc' : Nat} {st : List Value} {w : List xt_E} {a0 a1 a2 a3 a4 a5 a6 a7 a8 a9 a10 a11 : Option Value} {b : Option Value} {r : List (Option Value)} {x : Int32} (hd : xr_ist cc pc 12 pc') (hn : xt_nl [a11] 1 = true) (k : xt_T own cc nL ret d Q pc' (a0 :: a1 :: a2 :: a3 :: a4 :: a5 :: a6 :: a7 :: a8 :: a9 :: a10 :: a11 :: some (.int x) :: r) st w) : xt_T own cc nL ret d Q pc (a0 :: a1 :: a2 :: a3 :: a4 :: a5 :: a6 :: a7 :: a8 :: a9 :: a10 :: a11 :: b :: r) (.int x :: st) w := x_istore (i := 12) hd (by simp only [List.length_cons]; omega) hn k
theorem x_astore12 {own : String} {cc : ByteArray} {nL : Nat} {ret : Option FieldType} {d : Nat} {Q : Option Value → List xt_E → Prop} {pc pc' : Nat} {st : List Value} {w : List xt_E} {a0 a1 a2 a3 a4 a5 a6 a7 a8 a9 a10 a11 : Option Value} {b : Option Value} {r : List (Option Value)} {x : Nat} (hd : xr_ast cc pc 12 pc') (hn : xt_nl [a11] 1 = true) (k : xt_T own cc nL ret d Q pc' (a0 :: a1 :: a2 :: a3 :: a4 :: a5 :: a6 :: a7 :: a8 :: a9 :: a10 :: a11 :: some (.ref x) :: r) st w) : xt_T own cc nL ret d Q pc (a0 :: a1 :: a2 :: a3 :: a4 :: a5 :: a6 :: a7 :: a8 :: a9 :: a10 :: a11 :: b :: r) (.ref x :: st) w := x_astore (i := 12) hd (by simp only [List.length_cons]; omega) hn k
theorem x_lstore12 {own : String} {cc : ByteArray} {nL : Nat} {ret : Option FieldType} {d : Nat} {Q : Option Value → List xt_E → Prop} {pc pc' : Nat} {st : List Value} {w : List xt_E} {a0 a1 a2 a3 a4 a5 a6 a7 a8 a9 a10 a11 : Option Value} {b b2 : Option Value} {r : List (Option Value)} {x : Int64} (hd : xr_lst cc pc 12 pc') (hn : xt_nl [a11] 1 = true) (k : xt_T own cc nL ret d Q pc' (a0 :: a1 :: a2 :: a3 :: a4 :: a5 :: a6 :: a7 :: a8 :: a9 :: a10 :: a11 :: some (.long x) :: none :: r) st w) : xt_T own cc nL ret d Q pc (a0 :: a1 :: a2 :: a3 :: a4 :: a5 :: a6 :: a7 :: a8 :: a9 :: a10 :: a11 :: b :: b2 :: r) (.long x :: st) w := x_lstore (i := 12) hd (by simp only [List.length_cons]; omega) hn k
theorem x_iinc12 {own : String} {cc : ByteArray} {nL : Nat} {ret : Option FieldType} {d : Nat} {Q : Option Value → List xt_E → Prop} {pc pc' : Nat} {st : List Value} {w : List xt_E} {a0 a1 a2 a3 a4 a5 a6 a7 a8 a9 a10 a11 : Option Value} {r : List (Option Value)} {x v : Int32} (hd : xr_inc cc pc 12 v pc') (hn : xt_nl [a11] 1 = true) (k : xt_T own cc nL ret d Q pc' (a0 :: a1 :: a2 :: a3 :: a4 :: a5 :: a6 :: a7 :: a8 :: a9 :: a10 :: a11 :: some (.int (x + v)) :: r) st w) : xt_T own cc nL ret d Q pc (a0 :: a1 :: a2 :: a3 :: a4 :: a5 :: a6 :: a7 :: a8 :: a9 :: a10 :: a11 :: some (.int x) :: r) st w := x_iinc (i := 12) hd rfl hn k
theorem x_iload13 {own : String} {cc : ByteArray} {nL : Nat} {ret : Option FieldType} {d : Nat} {Q : Option Value → List xt_E → Prop} {pc pc' : Nat} {st : List Value} {w : List xt_E} {a0 a1 a2 a3 a4 a5 a6 a7 a8 a9 a10 a11 a12 : Option Value} {r : List (Option Value)} {x : Int32} (hd : xr_ild cc pc 13 pc') (k : xt_T own cc nL ret d Q pc' (a0 :: a1 :: a2 :: a3 :: a4 :: a5 :: a6 :: a7 :: a8 :: a9 :: a10 :: a11 :: a12 :: some (.int x) :: r) (.int x :: st) w) : xt_T own cc nL ret d Q pc (a0 :: a1 :: a2 :: a3 :: a4 :: a5 :: a6 :: a7 :: a8 :: a9 :: a10 :: a11 :: a12 :: some (.int x) :: r) st w := x_iload hd rfl k
theorem x_lload13 {own : String} {cc : ByteArray} {nL : Nat} {ret : Option FieldType} {d : Nat} {Q : Option Value → List xt_E → Prop} {pc pc' : Nat} {st : List Value} {w : List xt_E} {a0 a1 a2 a3 a4 a5 a6 a7 a8 a9 a10 a11 a12 : Option Value} {r : List (Option Value)} {x : Int64} (hd : xr_lld cc pc 13 pc') (k : xt_T own cc nL ret d Q pc' (a0 :: a1 :: a2 :: a3 :: a4 :: a5 :: a6 :: a7 :: a8 :: a9 :: a10 :: a11 :: a12 :: some (.long x) :: r) (.long x :: st) w) : xt_T own cc nL ret d Q pc (a0 :: a1 :: a2 :: a3 :: a4 :: a5 :: a6 :: a7 :: a8 :: a9 :: a10 :: a11 :: a12 :: some (.long x) :: r) st w := x_lload hd rfl k
theorem x_aload13 {own : String} {cc : ByteArray} {nL : Nat} {ret : Option FieldType} {d : Nat} {Q : Option Value → List xt_E → Prop} {pc pc' : Nat} {st : List Value} {w : List xt_E} {a0 a1 a2 a3 a4 a5 a6 a7 a8 a9 a10 a11 a12 : Option Value} {r : List (Option Value)} {x : Nat} (hd : xr_ald cc pc 13 pc') (k : xt_T own cc nL ret d Q pc' (a0 :: a1 :: a2 :: a3 :: a4 :: a5 :: a6 :: a7 :: a8 :: a9 :: a10 :: a11 :: a12 :: some (.ref x) :: r) (.ref x :: st) w) : xt_T own cc nL ret d Q pc (a0 :: a1 :: a2 :: a3 :: a4 :: a5 :: a6 :: a7 :: a8 :: a9 :: a10 :: a11 :: a12 :: some (.ref x) :: r) st w := x_aload hd rfl k
theorem x_istore13 {own : String} {cc : ByteArray} {nL : Nat} {ret : Option FieldType} {d : Nat} {Q : Option Value → List xt_E → Prop} {pc pc' : Nat} {st : List Value} {w : List xt_E} {a0 a1 a2 a3 a4 a5 a6 a7 a8 a9 a10 a11 a12 : Option Value} {b : Option Value} {r : List (Option Value)} {x : Int32} (hd : xr_ist cc pc 13 pc') (hn : xt_nl [a12] 1 = true) (k : xt_T own cc nL ret d Q pc' (a0 :: a1 :: a2 :: a3 :: a4 :: a5 :: a6 :: a7 :: a8 :: a9 :: a10 :: a11 :: a12 :: some (.int x) :: r) st w) : xt_T own cc nL ret d Q pc (a0 :: a1 :: a2 :: a3 :: a4 :: a5 :: a6 :: a7 :: a8 :: a9 :: a10 :: a11 :: a12 :: b :: r) (.int x :: st) w := x_istore (i := 13) hd (by simp only [List.length_cons]; omega) hn k
theorem x_astore13 {own : String} {cc : ByteArray} {nL : Nat} {ret : Option FieldType} {d : Nat} {Q : Option Value → List xt_E → Prop} {pc pc' : Nat} {st : List Value} {w : List xt_E} {a0 a1 a2 a3 a4 a5 a6 a7 a8 a9 a10 a11 a12 : Option Value} {b : Option Value} {r : List (Option Value)} {x : Nat} (hd : xr_ast cc pc 13 pc') (hn : xt_nl [a12] 1 = true) (k : xt_T own cc nL ret d Q pc' (a0 :: a1 :: a2 :: a3 :: a4 :: a5 :: a6 :: a7 :: a8 :: a9 :: a10 :: a11 :: a12 :: some (.ref x) :: r) st w) : xt_T own cc nL ret d Q pc (a0 :: a1 :: a2 :: a3 :: a4 :: a5 :: a6 :: a7 :: a8 :: a9 :: a10 :: a11 :: a12 :: b :: r) (.ref x :: st) w := x_astore (i := 13) hd (by simp only [List.length_cons]; omega) hn k
theorem x_lstore13 {own : String} {cc : ByteArray} {nL : Nat} {ret : Option FieldType} {d : Nat} {Q : Option Value → List xt_E → Prop} {pc pc' : Nat} {st : List Value} {w : List xt_E} {a0 a1 a2 a3 a4 a5 a6 a7 a8 a9 a10 a11 a12 : Option Value} {b b2 : Option Value} {r : List (Option Value)} {x : Int64} (hd : xr_lst cc pc 13 pc') (hn : xt_nl [a12] 1 = true) (k : xt_T own cc nL ret d Q pc' (a0 :: a1 :: a2 :: a3 :: a4 :: a5 :: a6 :: a7 :: a8 :: a9 :: a10 :: a11 :: a12 :: some (.long x) :: none :: r) st w) : xt_T own cc nL ret d Q pc (a0 :: a1 :: a2 :: a3 :: a4 :: a5 :: a6 :: a7 :: a8 :: a9 :: a10 :: a11 :: a12 :: b :: b2 :: r) (.long x :: st) w := x_lstore (i := 13) hd (by simp only [List.length_cons]; omega) hn k
theorem x_iinc13 {own : String} {cc : ByteArray} {nL : Nat} {ret : Option FieldType} {d : Nat} {Q : Option Value → List xt_E → Prop} {pc pc' : Nat} {st : List Value} {w : List xt_E} {a0 a1 a2 a3 a4 a5 a6 a7 a8 a9 a10 a11 a12 : Option Value} {r : List (Option Value)} {x v : Int32} (hd : xr_inc cc pc 13 v pc') (hn : xt_nl [a12] 1 = true) (k : xt_T own cc nL ret d Q pc' (a0 :: a1 :: a2 :: a3 :: a4 :: a5 :: a6 :: a7 :: a8 :: a9 :: a10 :: a11 :: a12 :: some (.int (x + v)) :: r) st w) : xt_T own cc nL ret d Q pc (a0 :: a1 :: a2 :: a3 :: a4 :: a5 :: a6 :: a7 :: a8 :: a9 :: a10 :: a11 :: a12 :: some (.int x) :: r) st w := x_iinc (i := 13) hd rfl hn k
end
