-- ===== PART A: goes FIRST, ahead of the names: the tables' words, and 'selects' of the private methods out of them =====
/-- a private method of a class that the tables say can be made, by its rows of tables_1 -/
def lw_okq (q : MethodName × Nat) : Prop := (q.1.cls ≠ "java/lang/invoke/MethodHandle" ∧ q.1.cls ≠ "java/lang/invoke/VarHandle") ∧ Cond.instantiable q.1.cls q.2 ∈ tables_1 ∧ Cond.privateMethod q.1 ∈ tables_1 ∧ Cond.instanceMethod q.1 ∈ tables_1
theorem lw_p0 : lw_okq (⟨"RankRings", "recordState", "()V"⟩, 11) := ⟨⟨by decide +kernel, by decide +kernel⟩, List.mem_of_getElem? (i := 9) (by decide +kernel), List.mem_of_getElem? (i := 132) (by decide +kernel), List.mem_of_getElem? (i := 133) (by decide +kernel)⟩
theorem lw_p1 : lw_okq (⟨"RankRings", "dropOldestState", "()V"⟩, 11) := ⟨⟨by decide +kernel, by decide +kernel⟩, List.mem_of_getElem? (i := 9) (by decide +kernel), List.mem_of_getElem? (i := 136) (by decide +kernel), List.mem_of_getElem? (i := 137) (by decide +kernel)⟩
theorem lw_p2 : lw_okq (⟨"RankRings", "forgetFindings", "()V"⟩, 11) := ⟨⟨by decide +kernel, by decide +kernel⟩, List.mem_of_getElem? (i := 9) (by decide +kernel), List.mem_of_getElem? (i := 144) (by decide +kernel), List.mem_of_getElem? (i := 145) (by decide +kernel)⟩
theorem lw_p3 : lw_okq (⟨"RankRings", "findWinners", "()V"⟩, 11) := ⟨⟨by decide +kernel, by decide +kernel⟩, List.mem_of_getElem? (i := 9) (by decide +kernel), List.mem_of_getElem? (i := 194) (by decide +kernel), List.mem_of_getElem? (i := 195) (by decide +kernel)⟩
theorem lw_p4 : lw_okq (⟨"RankRings", "winnerFrom", "(I)I"⟩, 11) := ⟨⟨by decide +kernel, by decide +kernel⟩, List.mem_of_getElem? (i := 9) (by decide +kernel), List.mem_of_getElem? (i := 222) (by decide +kernel), List.mem_of_getElem? (i := 223) (by decide +kernel)⟩
theorem lw_p5 : lw_okq (⟨"RankRings", "findChoices", "()V"⟩, 11) := ⟨⟨by decide +kernel, by decide +kernel⟩, List.mem_of_getElem? (i := 9) (by decide +kernel), List.mem_of_getElem? (i := 226) (by decide +kernel), List.mem_of_getElem? (i := 227) (by decide +kernel)⟩
theorem lw_p6 : lw_okq (⟨"RankRings", "settle", "(I)I"⟩, 11) := ⟨⟨by decide +kernel, by decide +kernel⟩, List.mem_of_getElem? (i := 9) (by decide +kernel), List.mem_of_getElem? (i := 230) (by decide +kernel), List.mem_of_getElem? (i := 231) (by decide +kernel)⟩
theorem lw_p7 : lw_okq (⟨"RankRings", "winsOf", "(I)I"⟩, 11) := ⟨⟨by decide +kernel, by decide +kernel⟩, List.mem_of_getElem? (i := 9) (by decide +kernel), List.mem_of_getElem? (i := 234) (by decide +kernel), List.mem_of_getElem? (i := 235) (by decide +kernel)⟩
theorem lw_p8 : lw_okq (⟨"RankRings", "greatestRankOfRing", "(I)I"⟩, 11) := ⟨⟨by decide +kernel, by decide +kernel⟩, List.mem_of_getElem? (i := 9) (by decide +kernel), List.mem_of_getElem? (i := 291) (by decide +kernel), List.mem_of_getElem? (i := 292) (by decide +kernel)⟩
theorem lw_p9 : lw_okq (⟨"RankRings", "turnsWinner", "(III)Z"⟩, 11) := ⟨⟨by decide +kernel, by decide +kernel⟩, List.mem_of_getElem? (i := 9) (by decide +kernel), List.mem_of_getElem? (i := 308) (by decide +kernel), List.mem_of_getElem? (i := 309) (by decide +kernel)⟩
theorem lw_p10 : lw_okq (⟨"RankRings$Text", "lookAtPlaces", "()Z"⟩, 9) := ⟨⟨by decide +kernel, by decide +kernel⟩, List.mem_of_getElem? (i := 47) (by decide +kernel), List.mem_of_getElem? (i := 344) (by decide +kernel), List.mem_of_getElem? (i := 345) (by decide +kernel)⟩
theorem lw_p11 : lw_okq (⟨"RankRings$Text", "lookAtPlace", "()Z"⟩, 9) := ⟨⟨by decide +kernel, by decide +kernel⟩, List.mem_of_getElem? (i := 47) (by decide +kernel), List.mem_of_getElem? (i := 348) (by decide +kernel), List.mem_of_getElem? (i := 349) (by decide +kernel)⟩
theorem lw_p12 : lw_okq (⟨"RankRings$Text", "character", "()C"⟩, 9) := ⟨⟨by decide +kernel, by decide +kernel⟩, List.mem_of_getElem? (i := 47) (by decide +kernel), List.mem_of_getElem? (i := 352) (by decide +kernel), List.mem_of_getElem? (i := 353) (by decide +kernel)⟩
theorem lw_p13 : lw_okq (⟨"RankRings$Text", "blame", "(II)Z"⟩, 9) := ⟨⟨by decide +kernel, by decide +kernel⟩, List.mem_of_getElem? (i := 47) (by decide +kernel), List.mem_of_getElem? (i := 356) (by decide +kernel), List.mem_of_getElem? (i := 357) (by decide +kernel)⟩
theorem lw_p14 : lw_okq (⟨"RankRings$Text", "digit", "()I"⟩, 9) := ⟨⟨by decide +kernel, by decide +kernel⟩, List.mem_of_getElem? (i := 47) (by decide +kernel), List.mem_of_getElem? (i := 360) (by decide +kernel), List.mem_of_getElem? (i := 361) (by decide +kernel)⟩
theorem lw_p15 : lw_okq (⟨"RankRings$Text", "lookAtWays", "()Z"⟩, 9) := ⟨⟨by decide +kernel, by decide +kernel⟩, List.mem_of_getElem? (i := 47) (by decide +kernel), List.mem_of_getElem? (i := 366) (by decide +kernel), List.mem_of_getElem? (i := 367) (by decide +kernel)⟩
def lw_privs_1 : List (MethodName × Nat) := [(⟨"RankRings", "recordState", "()V"⟩, 11), (⟨"RankRings", "dropOldestState", "()V"⟩, 11), (⟨"RankRings", "forgetFindings", "()V"⟩, 11), (⟨"RankRings", "findWinners", "()V"⟩, 11), (⟨"RankRings", "winnerFrom", "(I)I"⟩, 11), (⟨"RankRings", "findChoices", "()V"⟩, 11), (⟨"RankRings", "settle", "(I)I"⟩, 11), (⟨"RankRings", "winsOf", "(I)I"⟩, 11), (⟨"RankRings", "greatestRankOfRing", "(I)I"⟩, 11), (⟨"RankRings", "turnsWinner", "(III)Z"⟩, 11), (⟨"RankRings$Text", "lookAtPlaces", "()Z"⟩, 9), (⟨"RankRings$Text", "lookAtPlace", "()Z"⟩, 9), (⟨"RankRings$Text", "character", "()C"⟩, 9), (⟨"RankRings$Text", "blame", "(II)Z"⟩, 9), (⟨"RankRings$Text", "digit", "()I"⟩, 9), (⟨"RankRings$Text", "lookAtWays", "()Z"⟩, 9)]
theorem lw_r1 : ∀ q ∈ lw_privs_1, lw_okq q := List.forall_mem_cons.mpr ⟨lw_p0, List.forall_mem_cons.mpr ⟨lw_p1, List.forall_mem_cons.mpr ⟨lw_p2, List.forall_mem_cons.mpr ⟨lw_p3, List.forall_mem_cons.mpr ⟨lw_p4, List.forall_mem_cons.mpr ⟨lw_p5, List.forall_mem_cons.mpr ⟨lw_p6, List.forall_mem_cons.mpr ⟨lw_p7, List.forall_mem_cons.mpr ⟨lw_p8, List.forall_mem_cons.mpr ⟨lw_p9, List.forall_mem_cons.mpr ⟨lw_p10, List.forall_mem_cons.mpr ⟨lw_p11, List.forall_mem_cons.mpr ⟨lw_p12, List.forall_mem_cons.mpr ⟨lw_p13, List.forall_mem_cons.mpr ⟨lw_p14, List.forall_mem_cons.mpr ⟨lw_p15, fun _ h => absurd h List.not_mem_nil⟩⟩⟩⟩⟩⟩⟩⟩⟩⟩⟩⟩⟩⟩⟩⟩
theorem lw_p16 : lw_okq (⟨"RankRings$Text", "isToldSince", "(II)Z"⟩, 9) := ⟨⟨by decide +kernel, by decide +kernel⟩, List.mem_of_getElem? (i := 47) (by decide +kernel), List.mem_of_getElem? (i := 370) (by decide +kernel), List.mem_of_getElem? (i := 371) (by decide +kernel)⟩
theorem lw_p17 : lw_okq (⟨"RankRings$Text", "tellWay", "(II)V"⟩, 9) := ⟨⟨by decide +kernel, by decide +kernel⟩, List.mem_of_getElem? (i := 47) (by decide +kernel), List.mem_of_getElem? (i := 374) (by decide +kernel), List.mem_of_getElem? (i := 375) (by decide +kernel)⟩
theorem lw_p18 : lw_okq (⟨"RankRings$Text", "lookForPlacesOfWays", "()Z"⟩, 9) := ⟨⟨by decide +kernel, by decide +kernel⟩, List.mem_of_getElem? (i := 47) (by decide +kernel), List.mem_of_getElem? (i := 379) (by decide +kernel), List.mem_of_getElem? (i := 380) (by decide +kernel)⟩
theorem lw_p19 : lw_okq (⟨"RankRingsModel", "changes", "()V"⟩, 21) := ⟨⟨by decide +kernel, by decide +kernel⟩, List.mem_of_getElem? (i := 387) (by decide +kernel), List.mem_of_getElem? (i := 464) (by decide +kernel), List.mem_of_getElem? (i := 465) (by decide +kernel)⟩
theorem lw_p20 : lw_okq (⟨"RankRingsModel", "isPlace", "(I)Z"⟩, 21) := ⟨⟨by decide +kernel, by decide +kernel⟩, List.mem_of_getElem? (i := 387) (by decide +kernel), List.mem_of_getElem? (i := 472) (by decide +kernel), List.mem_of_getElem? (i := 473) (by decide +kernel)⟩
theorem lw_p21 : lw_okq (⟨"RankRingsModel", "hasWay", "(II)Z"⟩, 21) := ⟨⟨by decide +kernel, by decide +kernel⟩, List.mem_of_getElem? (i := 387) (by decide +kernel), List.mem_of_getElem? (i := 484) (by decide +kernel), List.mem_of_getElem? (i := 485) (by decide +kernel)⟩
theorem lw_p22 : lw_okq (⟨"RankRingsModel", "into", "(I)I"⟩, 21) := ⟨⟨by decide +kernel, by decide +kernel⟩, List.mem_of_getElem? (i := 387) (by decide +kernel), List.mem_of_getElem? (i := 499) (by decide +kernel), List.mem_of_getElem? (i := 500) (by decide +kernel)⟩
theorem lw_p23 : lw_okq (⟨"RankRingsModel", "won", "()I"⟩, 21) := ⟨⟨by decide +kernel, by decide +kernel⟩, List.mem_of_getElem? (i := 387) (by decide +kernel), List.mem_of_getElem? (i := 503) (by decide +kernel), List.mem_of_getElem? (i := 504) (by decide +kernel)⟩
theorem lw_p24 : lw_okq (⟨"RankRingsModel", "withRank", "(I)I"⟩, 21) := ⟨⟨by decide +kernel, by decide +kernel⟩, List.mem_of_getElem? (i := 387) (by decide +kernel), List.mem_of_getElem? (i := 507) (by decide +kernel), List.mem_of_getElem? (i := 508) (by decide +kernel)⟩
theorem lw_p25 : lw_okq (⟨"RankRingsModel", "lifted", "(I)I"⟩, 21) := ⟨⟨by decide +kernel, by decide +kernel⟩, List.mem_of_getElem? (i := 387) (by decide +kernel), List.mem_of_getElem? (i := 511) (by decide +kernel), List.mem_of_getElem? (i := 512) (by decide +kernel)⟩
theorem lw_p26 : lw_okq (⟨"RankRingsModel", "ahead", "(II)I"⟩, 21) := ⟨⟨by decide +kernel, by decide +kernel⟩, List.mem_of_getElem? (i := 387) (by decide +kernel), List.mem_of_getElem? (i := 516) (by decide +kernel), List.mem_of_getElem? (i := 517) (by decide +kernel)⟩
theorem lw_p27 : lw_okq (⟨"RankRingsModel", "choiceAt", "(I)I"⟩, 21) := ⟨⟨by decide +kernel, by decide +kernel⟩, List.mem_of_getElem? (i := 387) (by decide +kernel), List.mem_of_getElem? (i := 523) (by decide +kernel), List.mem_of_getElem? (i := 524) (by decide +kernel)⟩
theorem lw_p28 : lw_okq (⟨"RankRingsModel", "chooses", "()I"⟩, 21) := ⟨⟨by decide +kernel, by decide +kernel⟩, List.mem_of_getElem? (i := 387) (by decide +kernel), List.mem_of_getElem? (i := 527) (by decide +kernel), List.mem_of_getElem? (i := 528) (by decide +kernel)⟩
theorem lw_p29 : lw_okq (⟨"RankRingsModel", "manyWays", "()I"⟩, 21) := ⟨⟨by decide +kernel, by decide +kernel⟩, List.mem_of_getElem? (i := 387) (by decide +kernel), List.mem_of_getElem? (i := 538) (by decide +kernel), List.mem_of_getElem? (i := 539) (by decide +kernel)⟩
theorem lw_p30 : lw_okq (⟨"RankRingsModel", "all", "()I"⟩, 21) := ⟨⟨by decide +kernel, by decide +kernel⟩, List.mem_of_getElem? (i := 387) (by decide +kernel), List.mem_of_getElem? (i := 542) (by decide +kernel), List.mem_of_getElem? (i := 543) (by decide +kernel)⟩
theorem lw_p31 : lw_okq (⟨"RankRingsModel", "dead", "()I"⟩, 21) := ⟨⟨by decide +kernel, by decide +kernel⟩, List.mem_of_getElem? (i := 387) (by decide +kernel), List.mem_of_getElem? (i := 546) (by decide +kernel), List.mem_of_getElem? (i := 547) (by decide +kernel)⟩
def lw_privs_2 : List (MethodName × Nat) := [(⟨"RankRings$Text", "isToldSince", "(II)Z"⟩, 9), (⟨"RankRings$Text", "tellWay", "(II)V"⟩, 9), (⟨"RankRings$Text", "lookForPlacesOfWays", "()Z"⟩, 9), (⟨"RankRingsModel", "changes", "()V"⟩, 21), (⟨"RankRingsModel", "isPlace", "(I)Z"⟩, 21), (⟨"RankRingsModel", "hasWay", "(II)Z"⟩, 21), (⟨"RankRingsModel", "into", "(I)I"⟩, 21), (⟨"RankRingsModel", "won", "()I"⟩, 21), (⟨"RankRingsModel", "withRank", "(I)I"⟩, 21), (⟨"RankRingsModel", "lifted", "(I)I"⟩, 21), (⟨"RankRingsModel", "ahead", "(II)I"⟩, 21), (⟨"RankRingsModel", "choiceAt", "(I)I"⟩, 21), (⟨"RankRingsModel", "chooses", "()I"⟩, 21), (⟨"RankRingsModel", "manyWays", "()I"⟩, 21), (⟨"RankRingsModel", "all", "()I"⟩, 21), (⟨"RankRingsModel", "dead", "()I"⟩, 21)]
theorem lw_r2 : ∀ q ∈ lw_privs_2, lw_okq q := List.forall_mem_cons.mpr ⟨lw_p16, List.forall_mem_cons.mpr ⟨lw_p17, List.forall_mem_cons.mpr ⟨lw_p18, List.forall_mem_cons.mpr ⟨lw_p19, List.forall_mem_cons.mpr ⟨lw_p20, List.forall_mem_cons.mpr ⟨lw_p21, List.forall_mem_cons.mpr ⟨lw_p22, List.forall_mem_cons.mpr ⟨lw_p23, List.forall_mem_cons.mpr ⟨lw_p24, List.forall_mem_cons.mpr ⟨lw_p25, List.forall_mem_cons.mpr ⟨lw_p26, List.forall_mem_cons.mpr ⟨lw_p27, List.forall_mem_cons.mpr ⟨lw_p28, List.forall_mem_cons.mpr ⟨lw_p29, List.forall_mem_cons.mpr ⟨lw_p30, List.forall_mem_cons.mpr ⟨lw_p31, fun _ h => absurd h List.not_mem_nil⟩⟩⟩⟩⟩⟩⟩⟩⟩⟩⟩⟩⟩⟩⟩⟩
theorem lw_p32 : lw_okq (⟨"RankRingsModel", "greatest", "()I"⟩, 21) := ⟨⟨by decide +kernel, by decide +kernel⟩, List.mem_of_getElem? (i := 387) (by decide +kernel), List.mem_of_getElem? (i := 550) (by decide +kernel), List.mem_of_getElem? (i := 551) (by decide +kernel)⟩
theorem lw_p33 : lw_okq (⟨"RankRingsModel", "isSet", "(II)Z"⟩, 21) := ⟨⟨by decide +kernel, by decide +kernel⟩, List.mem_of_getElem? (i := 387) (by decide +kernel), List.mem_of_getElem? (i := 558) (by decide +kernel), List.mem_of_getElem? (i := 559) (by decide +kernel)⟩
theorem lw_p34 : lw_okq (⟨"RankRingsModel", "pulls", "(II)I"⟩, 21) := ⟨⟨by decide +kernel, by decide +kernel⟩, List.mem_of_getElem? (i := 387) (by decide +kernel), List.mem_of_getElem? (i := 562) (by decide +kernel), List.mem_of_getElem? (i := 563) (by decide +kernel)⟩
theorem lw_p35 : lw_okq (⟨"RankRingsModel", "holding", "(II)I"⟩, 21) := ⟨⟨by decide +kernel, by decide +kernel⟩, List.mem_of_getElem? (i := 387) (by decide +kernel), List.mem_of_getElem? (i := 574) (by decide +kernel), List.mem_of_getElem? (i := 575) (by decide +kernel)⟩
theorem lw_p36 : lw_okq (⟨"RankRingsModel", "turns", "(IIII)Z"⟩, 21) := ⟨⟨by decide +kernel, by decide +kernel⟩, List.mem_of_getElem? (i := 387) (by decide +kernel), List.mem_of_getElem? (i := 598) (by decide +kernel), List.mem_of_getElem? (i := 599) (by decide +kernel)⟩
theorem lw_p37 : lw_okq (⟨"RankRingsModel", "isRight", "()Z"⟩, 21) := ⟨⟨by decide +kernel, by decide +kernel⟩, List.mem_of_getElem? (i := 387) (by decide +kernel), List.mem_of_getElem? (i := 629) (by decide +kernel), List.mem_of_getElem? (i := 630) (by decide +kernel)⟩
theorem lw_p38 : lw_okq (⟨"RankRingsModel", "readsPlace", "()Z"⟩, 21) := ⟨⟨by decide +kernel, by decide +kernel⟩, List.mem_of_getElem? (i := 387) (by decide +kernel), List.mem_of_getElem? (i := 633) (by decide +kernel), List.mem_of_getElem? (i := 634) (by decide +kernel)⟩
theorem lw_p39 : lw_okq (⟨"RankRingsModel", "isAt", "(II)Z"⟩, 21) := ⟨⟨by decide +kernel, by decide +kernel⟩, List.mem_of_getElem? (i := 387) (by decide +kernel), List.mem_of_getElem? (i := 637) (by decide +kernel), List.mem_of_getElem? (i := 638) (by decide +kernel)⟩
theorem lw_p40 : lw_okq (⟨"RankRingsModel", "fails", "(I)Z"⟩, 21) := ⟨⟨by decide +kernel, by decide +kernel⟩, List.mem_of_getElem? (i := 387) (by decide +kernel), List.mem_of_getElem? (i := 641) (by decide +kernel), List.mem_of_getElem? (i := 642) (by decide +kernel)⟩
theorem lw_p41 : lw_okq (⟨"RankRingsModel", "readsWay", "()Z"⟩, 21) := ⟨⟨by decide +kernel, by decide +kernel⟩, List.mem_of_getElem? (i := 387) (by decide +kernel), List.mem_of_getElem? (i := 645) (by decide +kernel), List.mem_of_getElem? (i := 646) (by decide +kernel)⟩
theorem lw_p42 : lw_okq (⟨"RankRingsModel", "areThere", "()Z"⟩, 21) := ⟨⟨by decide +kernel, by decide +kernel⟩, List.mem_of_getElem? (i := 387) (by decide +kernel), List.mem_of_getElem? (i := 649) (by decide +kernel), List.mem_of_getElem? (i := 650) (by decide +kernel)⟩
def lw_privs_3 : List (MethodName × Nat) := [(⟨"RankRingsModel", "greatest", "()I"⟩, 21), (⟨"RankRingsModel", "isSet", "(II)Z"⟩, 21), (⟨"RankRingsModel", "pulls", "(II)I"⟩, 21), (⟨"RankRingsModel", "holding", "(II)I"⟩, 21), (⟨"RankRingsModel", "turns", "(IIII)Z"⟩, 21), (⟨"RankRingsModel", "isRight", "()Z"⟩, 21), (⟨"RankRingsModel", "readsPlace", "()Z"⟩, 21), (⟨"RankRingsModel", "isAt", "(II)Z"⟩, 21), (⟨"RankRingsModel", "fails", "(I)Z"⟩, 21), (⟨"RankRingsModel", "readsWay", "()Z"⟩, 21), (⟨"RankRingsModel", "areThere", "()Z"⟩, 21)]
theorem lw_r3 : ∀ q ∈ lw_privs_3, lw_okq q := List.forall_mem_cons.mpr ⟨lw_p32, List.forall_mem_cons.mpr ⟨lw_p33, List.forall_mem_cons.mpr ⟨lw_p34, List.forall_mem_cons.mpr ⟨lw_p35, List.forall_mem_cons.mpr ⟨lw_p36, List.forall_mem_cons.mpr ⟨lw_p37, List.forall_mem_cons.mpr ⟨lw_p38, List.forall_mem_cons.mpr ⟨lw_p39, List.forall_mem_cons.mpr ⟨lw_p40, List.forall_mem_cons.mpr ⟨lw_p41, List.forall_mem_cons.mpr ⟨lw_p42, fun _ h => absurd h List.not_mem_nil⟩⟩⟩⟩⟩⟩⟩⟩⟩⟩⟩
def lw_privs : List (MethodName × Nat) := lw_privs_1 ++ (lw_privs_2 ++ (lw_privs_3))
def lw_tbl : List Cond := k2_sels lw_privs ++ tables_1
theorem lw_privs_ok : ∀ q ∈ lw_privs, lw_okq q := by
  show ∀ q ∈ lw_privs_1 ++ (lw_privs_2 ++ (lw_privs_3)), lw_okq q
  exact List.forall_mem_append.mpr ⟨lw_r1, List.forall_mem_append.mpr ⟨lw_r2, lw_r3⟩⟩

def RX0 : String := "RankRings$Field"
def TX0 : u_T := fun k => match k with
  | 0 => ("RankRings$Field", "owners", "[I", true)
  | 1 => ("RankRings$Field", "ranks", "[I", true)
  | 2 => ("RankRings$Field", "ways", "[I", true)
  | _ => ("RankRings$Field", "size", "I", false)
def tyX0 : Nat → FieldType := fun k => match k with
  | 0 => .array .int
  | 1 => .array .int
  | 2 => .array .int
  | _ => .int
abbrev wsX00 : List Cond := u_ws RX0 TX0 4
theorem nmX0 : ∀ a, a < 4 → ∀ b, b < 4 → a ≠ b → (TX0 a).2.1 ≠ (TX0 b).2.1 := by decide +kernel
theorem tyX0_ok : ∀ k, k < 4 → parseFieldDescriptor (TX0 k).2.2.1 = some (tyX0 k) := by decide +kernel
abbrev cX0_init : ByteArray := prog_2_method_1_code
def yX0_init : MethodName := ⟨RX0, "<init>", "()V"⟩
abbrev cX0_has : ByteArray := prog_2_method_2_code
def yX0_has : MethodName := ⟨RX0, "has", "(I)Z"⟩
abbrev cX0_hasAll : ByteArray := prog_2_method_3_code
def yX0_hasAll : MethodName := ⟨RX0, "hasAll", "(I)Z"⟩
abbrev cX0_all : ByteArray := prog_2_method_4_code
def yX0_all : MethodName := ⟨RX0, "all", "()I"⟩
abbrev cX0_waysTo : ByteArray := prog_2_method_5_code
def yX0_waysTo : MethodName := ⟨RX0, "waysTo", "(I)I"⟩
abbrev cX0_numberOfWays : ByteArray := prog_2_method_6_code
def yX0_numberOfWays : MethodName := ⟨RX0, "numberOfWays", "()I"⟩
abbrev cX0_greatestRank : ByteArray := prog_2_method_7_code
def yX0_greatestRank : MethodName := ⟨RX0, "greatestRank", "()I"⟩
abbrev cX0_endsOf : ByteArray := prog_2_method_8_code
def yX0_endsOf : MethodName := ⟨RX0, "endsOf", "(I)I"⟩
abbrev cX0_ranked : ByteArray := prog_2_method_9_code
def yX0_ranked : MethodName := ⟨RX0, "ranked", "(I)I"⟩
abbrev cX0_append : ByteArray := prog_2_method_10_code
def yX0_append : MethodName := ⟨RX0, "append", "(II)V"⟩
abbrev cX0_remove : ByteArray := prog_2_method_11_code
def yX0_remove : MethodName := ⟨RX0, "remove", "(I)V"⟩
abbrev cX0_copyFrom : ByteArray := prog_2_method_12_code
def yX0_copyFrom : MethodName := ⟨RX0, "copyFrom", "(LRankRings$Field;)V"⟩
def RX1 : String := "RankRings$Solver"
def TX1 : u_T := fun k => match k with
  | _ => ("", "", "", false)
def tyX1 : Nat → FieldType := fun k => match k with
  | _ => .int
abbrev wsX10 : List Cond := u_ws RX1 TX1 0
theorem nmX1 : ∀ a, a < 0 → ∀ b, b < 0 → a ≠ b → (TX1 a).2.1 ≠ (TX1 b).2.1 := by decide +kernel
theorem tyX1_ok : ∀ k, k < 0 → parseFieldDescriptor (TX1 k).2.2.1 = some (tyX1 k) := by decide +kernel
abbrev cX1_winsOf0 : ByteArray := prog_3_method_2_code
def yX1_winsOf0 : MethodName := ⟨RX1, "winsOf0", "(LRankRings$Field;)I"⟩
abbrev cX1_winsWithin : ByteArray := prog_3_method_3_code
def yX1_winsWithin : MethodName := ⟨RX1, "winsWithin", "(LRankRings$Field;III)I"⟩
abbrev cX1_pull : ByteArray := prog_3_method_4_code
def yX1_pull : MethodName := ⟨RX1, "pull", "(LRankRings$Field;III)I"⟩
abbrev cX1_pullOnce : ByteArray := prog_3_method_5_code
def yX1_pullOnce : MethodName := ⟨RX1, "pullOnce", "(LRankRings$Field;III)I"⟩
abbrev cX1_held : ByteArray := prog_3_method_6_code
def yX1_held : MethodName := ⟨RX1, "held", "(LRankRings$Field;II)I"⟩
def RX2 : String := "RankRings$Text"
def TX2 : u_T := fun k => match k with
  | 0 => ("RankRings$Text", "characters", "[C", true)
  | 1 => ("RankRings$Text", "length", "I", false)
  | 2 => ("RankRings$Text", "told", "LRankRings$Field;", true)
  | 3 => ("RankRings$Text", "faultIndex", "I", false)
  | 4 => ("RankRings$Text", "faultReason", "I", false)
  | 5 => ("RankRings$Text", "at", "I", false)
  | 6 => ("RankRings$Text", "wayNumbers", "[I", true)
  | 7 => ("RankRings$Text", "wayIndexes", "[I", true)
  | _ => ("RankRings$Text", "wayCount", "I", false)
def tyX2 : Nat → FieldType := fun k => match k with
  | 0 => .array .char
  | 1 => .int
  | 2 => .object "RankRings$Field"
  | 3 => .int
  | 4 => .int
  | 5 => .int
  | 6 => .array .int
  | 7 => .array .int
  | _ => .int
abbrev wsX20 : List Cond := u_ws RX2 TX2 9
theorem nmX2 : ∀ a, a < 9 → ∀ b, b < 9 → a ≠ b → (TX2 a).2.1 ≠ (TX2 b).2.1 := by decide +kernel
theorem tyX2_ok : ∀ k, k < 9 → parseFieldDescriptor (TX2 k).2.2.1 = some (tyX2 k) := by decide +kernel
abbrev cX2_init : ByteArray := prog_4_method_1_code
def yX2_init : MethodName := ⟨RX2, "<init>", "()V"⟩
abbrev cX2_append : ByteArray := prog_4_method_2_code
def yX2_append : MethodName := ⟨RX2, "append", "(C)V"⟩
abbrev cX2_isField : ByteArray := prog_4_method_3_code
def yX2_isField : MethodName := ⟨RX2, "isField", "()Z"⟩
abbrev cX2_lookAtPlaces : ByteArray := prog_4_method_4_code
def yX2_lookAtPlaces : MethodName := ⟨RX2, "lookAtPlaces", "()Z"⟩
abbrev cX2_lookAtPlace : ByteArray := prog_4_method_5_code
def yX2_lookAtPlace : MethodName := ⟨RX2, "lookAtPlace", "()Z"⟩
abbrev cX2_lookAtWays : ByteArray := prog_4_method_6_code
def yX2_lookAtWays : MethodName := ⟨RX2, "lookAtWays", "()Z"⟩
abbrev cX2_isToldSince : ByteArray := prog_4_method_7_code
def yX2_isToldSince : MethodName := ⟨RX2, "isToldSince", "(II)Z"⟩
abbrev cX2_tellWay : ByteArray := prog_4_method_8_code
def yX2_tellWay : MethodName := ⟨RX2, "tellWay", "(II)V"⟩
abbrev cX2_lookForPlacesOfWays : ByteArray := prog_4_method_9_code
def yX2_lookForPlacesOfWays : MethodName := ⟨RX2, "lookForPlacesOfWays", "()Z"⟩
abbrev cX2_blame : ByteArray := prog_4_method_10_code
def yX2_blame : MethodName := ⟨RX2, "blame", "(II)Z"⟩
abbrev cX2_character : ByteArray := prog_4_method_11_code
def yX2_character : MethodName := ⟨RX2, "character", "()C"⟩
abbrev cX2_digit : ByteArray := prog_4_method_12_code
def yX2_digit : MethodName := ⟨RX2, "digit", "()I"⟩
def RX3 : String := "RankRings"
def TX3 : u_T := fun k => match k with
  | 0 => ("RankRings", "field", "LRankRings$Field;", true)
  | 1 => ("RankRings", "history", "[LRankRings$Field;", true)
  | 2 => ("RankRings", "states", "I", false)
  | 3 => ("RankRings", "snapshot", "LRankRings$Field;", true)
  | 4 => ("RankRings", "isKept", "Z", false)
  | 5 => ("RankRings", "text", "LRankRings$Text;", true)
  | 6 => ("RankRings", "trial", "LRankRings$Field;", true)
  | 7 => ("RankRings", "winnersKnown", "Z", false)
  | 8 => ("RankRings", "winsOf0", "I", false)
  | 9 => ("RankRings", "choicesKnown", "Z", false)
  | _ => ("RankRings", "choices", "[I", true)
def tyX3 : Nat → FieldType := fun k => match k with
  | 0 => .object "RankRings$Field"
  | 1 => .array (.object "RankRings$Field")
  | 2 => .int
  | 3 => .object "RankRings$Field"
  | 4 => .boolean
  | 5 => .object "RankRings$Text"
  | 6 => .object "RankRings$Field"
  | 7 => .boolean
  | 8 => .int
  | 9 => .boolean
  | _ => .array .int
abbrev wsX30 : List Cond := u_ws RX3 TX3 11
theorem nmX3 : ∀ a, a < 11 → ∀ b, b < 11 → a ≠ b → (TX3 a).2.1 ≠ (TX3 b).2.1 := by decide +kernel
theorem tyX3_ok : ∀ k, k < 11 → parseFieldDescriptor (TX3 k).2.2.1 = some (tyX3 k) := by decide +kernel
abbrev cX3_init : ByteArray := prog_1_method_1_code
def yX3_init : MethodName := ⟨RX3, "<init>", "()V"⟩
abbrev cX3_add : ByteArray := prog_1_method_2_code
def yX3_add : MethodName := ⟨RX3, "add", "(II)I"⟩
abbrev cX3_own : ByteArray := prog_1_method_3_code
def yX3_own : MethodName := ⟨RX3, "own", "(II)I"⟩
abbrev cX3_rank : ByteArray := prog_1_method_4_code
def yX3_rank : MethodName := ⟨RX3, "rank", "(II)I"⟩
abbrev cX3_way : ByteArray := prog_1_method_5_code
def yX3_way : MethodName := ⟨RX3, "way", "(III)I"⟩
abbrev cX3_drop : ByteArray := prog_1_method_6_code
def yX3_drop : MethodName := ⟨RX3, "drop", "(I)I"⟩
abbrev cX3_placeOf : ByteArray := prog_1_method_7_code
def yX3_placeOf : MethodName := ⟨RX3, "placeOf", "(II)I"⟩
abbrev cX3_count : ByteArray := prog_1_method_8_code
def yX3_count : MethodName := ⟨RX3, "count", "(I)I"⟩
abbrev cX3_pulled : ByteArray := prog_1_method_9_code
def yX3_pulled : MethodName := ⟨RX3, "pulled", "(II)I"⟩
abbrev cX3_steps : ByteArray := prog_1_method_10_code
def yX3_steps : MethodName := ⟨RX3, "steps", "(III)I"⟩
abbrev cX3_trap : ByteArray := prog_1_method_11_code
def yX3_trap : MethodName := ⟨RX3, "trap", "(II)I"⟩
abbrev cX3_greatestTrap : ByteArray := prog_1_method_12_code
def yX3_greatestTrap : MethodName := ⟨RX3, "greatestTrap", "(II)I"⟩
abbrev cX3_play : ByteArray := prog_1_method_13_code
def yX3_play : MethodName := ⟨RX3, "play", "(II)I"⟩
abbrev cX3_proves : ByteArray := prog_1_method_14_code
def yX3_proves : MethodName := ⟨RX3, "proves", "(I)I"⟩
abbrev cX3_only : ByteArray := prog_1_method_15_code
def yX3_only : MethodName := ⟨RX3, "only", "(II)I"⟩
abbrev cX3_littleChange : ByteArray := prog_1_method_16_code
def yX3_littleChange : MethodName := ⟨RX3, "littleChange", "(II)I"⟩
abbrev cX3_keep : ByteArray := prog_1_method_17_code
def yX3_keep : MethodName := ⟨RX3, "keep", "()I"⟩
abbrev cX3_restore : ByteArray := prog_1_method_18_code
def yX3_restore : MethodName := ⟨RX3, "restore", "()I"⟩
abbrev cX3_undo : ByteArray := prog_1_method_19_code
def yX3_undo : MethodName := ⟨RX3, "undo", "()I"⟩
abbrev cX3_type : ByteArray := prog_1_method_20_code
def yX3_type : MethodName := ⟨RX3, "type", "(I)I"⟩
abbrev cX3_clearText : ByteArray := prog_1_method_21_code
def yX3_clearText : MethodName := ⟨RX3, "clearText", "()I"⟩
abbrev cX3_fault : ByteArray := prog_1_method_22_code
def yX3_fault : MethodName := ⟨RX3, "fault", "(I)I"⟩
abbrev cX3_read : ByteArray := prog_1_method_23_code
def yX3_read : MethodName := ⟨RX3, "read", "()I"⟩
abbrev cX3_isPlayer : ByteArray := prog_1_method_24_code
def yX3_isPlayer : MethodName := ⟨RX3, "isPlayer", "(I)Z"⟩
abbrev cX3_isRank : ByteArray := prog_1_method_25_code
def yX3_isRank : MethodName := ⟨RX3, "isRank", "(I)Z"⟩
abbrev cX3_contains : ByteArray := prog_1_method_26_code
def yX3_contains : MethodName := ⟨RX3, "contains", "(II)Z"⟩
abbrev cX3_recordState : ByteArray := prog_1_method_27_code
def yX3_recordState : MethodName := ⟨RX3, "recordState", "()V"⟩
abbrev cX3_dropOldestState : ByteArray := prog_1_method_28_code
def yX3_dropOldestState : MethodName := ⟨RX3, "dropOldestState", "()V"⟩
abbrev cX3_forgetFindings : ByteArray := prog_1_method_29_code
def yX3_forgetFindings : MethodName := ⟨RX3, "forgetFindings", "()V"⟩
abbrev cX3_findWinners : ByteArray := prog_1_method_30_code
def yX3_findWinners : MethodName := ⟨RX3, "findWinners", "()V"⟩
abbrev cX3_winsOf : ByteArray := prog_1_method_31_code
def yX3_winsOf : MethodName := ⟨RX3, "winsOf", "(I)I"⟩
abbrev cX3_winnerFrom : ByteArray := prog_1_method_32_code
def yX3_winnerFrom : MethodName := ⟨RX3, "winnerFrom", "(I)I"⟩
abbrev cX3_findChoices : ByteArray := prog_1_method_33_code
def yX3_findChoices : MethodName := ⟨RX3, "findChoices", "()V"⟩
abbrev cX3_settle : ByteArray := prog_1_method_34_code
def yX3_settle : MethodName := ⟨RX3, "settle", "(I)I"⟩
abbrev cX3_greatestRankOfRing : ByteArray := prog_1_method_35_code
def yX3_greatestRankOfRing : MethodName := ⟨RX3, "greatestRankOfRing", "(I)I"⟩
abbrev cX3_turnsWinner : ByteArray := prog_1_method_36_code
def yX3_turnsWinner : MethodName := ⟨RX3, "turnsWinner", "(III)Z"⟩
def RX4 : String := "RankRingsModel"
def TX4 : u_T := fun k => match k with
  | 0 => ("RankRingsModel", "s", "[I", true)
  | 1 => ("RankRingsModel", "past", "[I", true)
  | 2 => ("RankRingsModel", "kept", "[I", true)
  | 3 => ("RankRingsModel", "isKept", "Z", false)
  | 4 => ("RankRingsModel", "pasts", "I", false)
  | 5 => ("RankRingsModel", "text", "[I", true)
  | 6 => ("RankRingsModel", "typed", "I", false)
  | 7 => ("RankRingsModel", "measure", "[I", true)
  | 8 => ("RankRingsModel", "most1", "I", false)
  | 9 => ("RankRingsModel", "most3", "I", false)
  | 10 => ("RankRingsModel", "most5", "I", false)
  | 11 => ("RankRingsModel", "chosen", "[I", true)
  | 12 => ("RankRingsModel", "ways", "[I", true)
  | 13 => ("RankRingsModel", "spot", "I", false)
  | 14 => ("RankRingsModel", "reason", "I", false)
  | 15 => ("RankRingsModel", "places", "I", false)
  | 16 => ("RankRingsModel", "owners", "[I", true)
  | 17 => ("RankRingsModel", "ranks", "[I", true)
  | 18 => ("RankRingsModel", "sets", "[I", true)
  | 19 => ("RankRingsModel", "toldAt", "[I", true)
  | _ => ("RankRingsModel", "line", "[I", true)
def tyX4 : Nat → FieldType := fun k => match k with
  | 0 => .array .int
  | 1 => .array .int
  | 2 => .array .int
  | 3 => .boolean
  | 4 => .int
  | 5 => .array .int
  | 6 => .int
  | 7 => .array .int
  | 8 => .int
  | 9 => .int
  | 10 => .int
  | 11 => .array .int
  | 12 => .array .int
  | 13 => .int
  | 14 => .int
  | 15 => .int
  | 16 => .array .int
  | 17 => .array .int
  | 18 => .array .int
  | 19 => .array .int
  | _ => .array .int
abbrev wsX40 : List Cond := u_ws RX4 TX4 21
theorem nmX4 : ∀ a, a < 21 → ∀ b, b < 21 → a ≠ b → (TX4 a).2.1 ≠ (TX4 b).2.1 := by decide +kernel
theorem tyX4_ok : ∀ k, k < 21 → parseFieldDescriptor (TX4 k).2.2.1 = some (tyX4 k) := by decide +kernel
abbrev cX4_init : ByteArray := prog_6_method_1_code
def yX4_init : MethodName := ⟨RX4, "<init>", "()V"⟩
abbrev cX4_in : ByteArray := prog_6_method_3_code
def yX4_in : MethodName := ⟨RX4, "in", "(III)Z"⟩
abbrev cX4_copies : ByteArray := prog_6_method_4_code
def yX4_copies : MethodName := ⟨RX4, "copies", "([I[I)V"⟩
abbrev cX4_changes : ByteArray := prog_6_method_5_code
def yX4_changes : MethodName := ⟨RX4, "changes", "()V"⟩
abbrev cX4_isPlace : ByteArray := prog_6_method_6_code
def yX4_isPlace : MethodName := ⟨RX4, "isPlace", "(I)Z"⟩
abbrev cX4_all : ByteArray := prog_6_method_7_code
def yX4_all : MethodName := ⟨RX4, "all", "()I"⟩
abbrev cX4_hasWay : ByteArray := prog_6_method_8_code
def yX4_hasWay : MethodName := ⟨RX4, "hasWay", "(II)Z"⟩
abbrev cX4_ones : ByteArray := prog_6_method_9_code
def yX4_ones : MethodName := ⟨RX4, "ones", "(I)I"⟩
abbrev cX4_lowest : ByteArray := prog_6_method_10_code
def yX4_lowest : MethodName := ⟨RX4, "lowest", "(I)I"⟩
abbrev cX4_add : ByteArray := prog_6_method_11_code
def yX4_add : MethodName := ⟨RX4, "add", "(II)I"⟩
abbrev cX4_own : ByteArray := prog_6_method_12_code
def yX4_own : MethodName := ⟨RX4, "own", "(II)I"⟩
abbrev cX4_rank : ByteArray := prog_6_method_13_code
def yX4_rank : MethodName := ⟨RX4, "rank", "(II)I"⟩
abbrev cX4_way : ByteArray := prog_6_method_14_code
def yX4_way : MethodName := ⟨RX4, "way", "(III)I"⟩
abbrev cX4_drop : ByteArray := prog_6_method_15_code
def yX4_drop : MethodName := ⟨RX4, "drop", "(I)I"⟩
abbrev cX4_withRank : ByteArray := prog_6_method_16_code
def yX4_withRank : MethodName := ⟨RX4, "withRank", "(I)I"⟩
abbrev cX4_ahead : ByteArray := prog_6_method_17_code
def yX4_ahead : MethodName := ⟨RX4, "ahead", "(II)I"⟩
abbrev cX4_lifted : ByteArray := prog_6_method_18_code
def yX4_lifted : MethodName := ⟨RX4, "lifted", "(I)I"⟩
abbrev cX4_won : ByteArray := prog_6_method_19_code
def yX4_won : MethodName := ⟨RX4, "won", "()I"⟩
abbrev cX4_winner : ByteArray := prog_6_method_20_code
def yX4_winner : MethodName := ⟨RX4, "winner", "(II)I"⟩
abbrev cX4_chooses : ByteArray := prog_6_method_21_code
def yX4_chooses : MethodName := ⟨RX4, "chooses", "()I"⟩
abbrev cX4_into : ByteArray := prog_6_method_22_code
def yX4_into : MethodName := ⟨RX4, "into", "(I)I"⟩
abbrev cX4_choiceAt : ByteArray := prog_6_method_23_code
def yX4_choiceAt : MethodName := ⟨RX4, "choiceAt", "(I)I"⟩
abbrev cX4_placeOf : ByteArray := prog_6_method_24_code
def yX4_placeOf : MethodName := ⟨RX4, "placeOf", "(II)I"⟩
abbrev cX4_manyWays : ByteArray := prog_6_method_25_code
def yX4_manyWays : MethodName := ⟨RX4, "manyWays", "()I"⟩
abbrev cX4_dead : ByteArray := prog_6_method_26_code
def yX4_dead : MethodName := ⟨RX4, "dead", "()I"⟩
abbrev cX4_greatest : ByteArray := prog_6_method_27_code
def yX4_greatest : MethodName := ⟨RX4, "greatest", "()I"⟩
abbrev cX4_count : ByteArray := prog_6_method_28_code
def yX4_count : MethodName := ⟨RX4, "count", "(I)I"⟩
abbrev cX4_isSet : ByteArray := prog_6_method_29_code
def yX4_isSet : MethodName := ⟨RX4, "isSet", "(II)Z"⟩
abbrev cX4_pulls : ByteArray := prog_6_method_30_code
def yX4_pulls : MethodName := ⟨RX4, "pulls", "(II)I"⟩
abbrev cX4_pulled : ByteArray := prog_6_method_31_code
def yX4_pulled : MethodName := ⟨RX4, "pulled", "(II)I"⟩
abbrev cX4_steps : ByteArray := prog_6_method_32_code
def yX4_steps : MethodName := ⟨RX4, "steps", "(III)I"⟩
abbrev cX4_holding : ByteArray := prog_6_method_33_code
def yX4_holding : MethodName := ⟨RX4, "holding", "(II)I"⟩
abbrev cX4_trap : ByteArray := prog_6_method_34_code
def yX4_trap : MethodName := ⟨RX4, "trap", "(II)I"⟩
abbrev cX4_greatestTrap : ByteArray := prog_6_method_35_code
def yX4_greatestTrap : MethodName := ⟨RX4, "greatestTrap", "(II)I"⟩
abbrev cX4_play : ByteArray := prog_6_method_36_code
def yX4_play : MethodName := ⟨RX4, "play", "(II)I"⟩
abbrev cX4_proves : ByteArray := prog_6_method_37_code
def yX4_proves : MethodName := ⟨RX4, "proves", "(I)I"⟩
abbrev cX4_only : ByteArray := prog_6_method_38_code
def yX4_only : MethodName := ⟨RX4, "only", "(II)I"⟩
abbrev cX4_turns : ByteArray := prog_6_method_39_code
def yX4_turns : MethodName := ⟨RX4, "turns", "(IIII)Z"⟩
abbrev cX4_littleChange : ByteArray := prog_6_method_40_code
def yX4_littleChange : MethodName := ⟨RX4, "littleChange", "(II)I"⟩
abbrev cX4_keep : ByteArray := prog_6_method_41_code
def yX4_keep : MethodName := ⟨RX4, "keep", "()I"⟩
abbrev cX4_restore : ByteArray := prog_6_method_42_code
def yX4_restore : MethodName := ⟨RX4, "restore", "()I"⟩
abbrev cX4_undo : ByteArray := prog_6_method_43_code
def yX4_undo : MethodName := ⟨RX4, "undo", "()I"⟩
abbrev cX4_type : ByteArray := prog_6_method_44_code
def yX4_type : MethodName := ⟨RX4, "type", "(I)I"⟩
abbrev cX4_clearText : ByteArray := prog_6_method_45_code
def yX4_clearText : MethodName := ⟨RX4, "clearText", "()I"⟩
abbrev cX4_isAt : ByteArray := prog_6_method_46_code
def yX4_isAt : MethodName := ⟨RX4, "isAt", "(II)Z"⟩
abbrev cX4_fails : ByteArray := prog_6_method_47_code
def yX4_fails : MethodName := ⟨RX4, "fails", "(I)Z"⟩
abbrev cX4_readsWay : ByteArray := prog_6_method_48_code
def yX4_readsWay : MethodName := ⟨RX4, "readsWay", "()Z"⟩
abbrev cX4_readsPlace : ByteArray := prog_6_method_49_code
def yX4_readsPlace : MethodName := ⟨RX4, "readsPlace", "()Z"⟩
abbrev cX4_areThere : ByteArray := prog_6_method_50_code
def yX4_areThere : MethodName := ⟨RX4, "areThere", "()Z"⟩
abbrev cX4_isRight : ByteArray := prog_6_method_51_code
def yX4_isRight : MethodName := ⟨RX4, "isRight", "()Z"⟩
abbrev cX4_fault : ByteArray := prog_6_method_52_code
def yX4_fault : MethodName := ⟨RX4, "fault", "(I)I"⟩
abbrev cX4_read : ByteArray := prog_6_method_53_code
def yX4_read : MethodName := ⟨RX4, "read", "()I"⟩
def RJ6 : String := "java/lang/Integer"
def TJ6 : u_T := fun k => match k with
  | _ => ("", "", "", false)
def tyJ6 : Nat → FieldType := fun k => match k with
  | _ => .int
abbrev wsJ60 : List Cond := u_ws RJ6 TJ6 0
theorem nmJ6 : ∀ a, a < 0 → ∀ b, b < 0 → a ≠ b → (TJ6 a).2.1 ≠ (TJ6 b).2.1 := by decide +kernel
theorem tyJ6_ok : ∀ k, k < 0 → parseFieldDescriptor (TJ6 k).2.2.1 = some (tyJ6 k) := by decide +kernel
abbrev cJ6_numberOfTrailingZeros_0f7a4 : ByteArray := prog_7_method_48_code
def yJ6_numberOfTrailingZeros_0f7a4 : MethodName := ⟨RJ6, "numberOfTrailingZeros", "(I)I"⟩
abbrev cJ6_bitCount_0f7a4 : ByteArray := prog_7_method_49_code
def yJ6_bitCount_0f7a4 : MethodName := ⟨RJ6, "bitCount", "(I)I"⟩
def RJ9 : String := "java/lang/Math"
def TJ9 : u_T := fun k => match k with
  | _ => ("", "", "", false)
def tyJ9 : Nat → FieldType := fun k => match k with
  | _ => .int
abbrev wsJ90 : List Cond := u_ws RJ9 TJ9 0
theorem nmJ9 : ∀ a, a < 0 → ∀ b, b < 0 → a ≠ b → (TJ9 a).2.1 ≠ (TJ9 b).2.1 := by decide +kernel
theorem tyJ9_ok : ∀ k, k < 0 → parseFieldDescriptor (TJ9 k).2.2.1 = some (tyJ9 k) := by decide +kernel
abbrev cJ9_max_7cf53 : ByteArray := prog_8_method_65_code
def yJ9_max_7cf53 : MethodName := ⟨RJ9, "max", "(II)I"⟩
def RL : String := "RankRingsLaw"
abbrev cL_law : ByteArray := code
def yL_law : MethodName := ⟨RL, "law", "([I)Z"⟩
abbrev vwCl : List vw_C := [(RX0, TX0, 4), (RX2, TX2, 9), (RX3, TX3, 11), (RX4, TX4, 21)]
