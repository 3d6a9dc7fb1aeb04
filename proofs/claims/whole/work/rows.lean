section
-- ===== PART A: goes FIRST, ahead of the names: the tables' words, and 'selects' of the private methods out of them =====
/-- a private method of a class that the tables say can be made, by its rows of tables_1 -/
def lw_okq (q : MethodName × Nat) : Prop := (q.1.cls ≠ "java/lang/invoke/MethodHandle" ∧ q.1.cls ≠ "java/lang/invoke/VarHandle") ∧ Cond.instantiable q.1.cls q.2 ∈ tables_1 ∧ Cond.privateMethod q.1 ∈ tables_1 ∧ Cond.instanceMethod q.1 ∈ tables_1
theorem lw_p0 : lw_okq (⟨"RankRings", "recordState", "()V"⟩, 11) := ⟨⟨by decide +kernel, by decide +kernel⟩, List.mem_of_getElem? (i := 9) (by decide +kernel), List.mem_of_getElem? (i := 132) (by decide +kernel), List.mem_of_getElem? (i := 133) (by decide +kernel)⟩
theorem lw_p1 : lw_okq (⟨"RankRings", "dropOldestState", "()V"⟩, 11) := ⟨⟨by decide +kernel, by decide +kernel⟩, List.mem_of_getElem? (i := 9) (by decide +kernel), List.mem_of_getElem? (i := 136) (by decide +kernel), List.mem_of_getElem? (i := 137) (by decide +kernel)⟩
theorem lw_p2 : lw_okq (⟨"RankRings", "forgetFindings", "()V"⟩, 11) := ⟨⟨by decide +kernel, by decide +kernel⟩, List.mem_of_getElem? (i := 9) (by decide +kernel), List.mem_of_getElem? (i := 144) (by decide +kernel), List.mem_of_getElem? (i := 145) (by decide +kernel)⟩
theorem lw_p3 : lw_okq (⟨"RankRings", "winnerFrom", "(I)I"⟩, 11) := ⟨⟨by decide +kernel, by decide +kernel⟩, List.mem_of_getElem? (i := 9) (by decide +kernel), List.mem_of_getElem? (i := 194) (by decide +kernel), List.mem_of_getElem? (i := 195) (by decide +kernel)⟩
theorem lw_p4 : lw_okq (⟨"RankRings", "winsOf", "(I)I"⟩, 11) := ⟨⟨by decide +kernel, by decide +kernel⟩, List.mem_of_getElem? (i := 9) (by decide +kernel), List.mem_of_getElem? (i := 198) (by decide +kernel), List.mem_of_getElem? (i := 199) (by decide +kernel)⟩
theorem lw_p5 : lw_okq (⟨"RankRings", "findChoices", "()V"⟩, 11) := ⟨⟨by decide +kernel, by decide +kernel⟩, List.mem_of_getElem? (i := 9) (by decide +kernel), List.mem_of_getElem? (i := 228) (by decide +kernel), List.mem_of_getElem? (i := 229) (by decide +kernel)⟩
theorem lw_p6 : lw_okq (⟨"RankRings", "settle", "(I)I"⟩, 11) := ⟨⟨by decide +kernel, by decide +kernel⟩, List.mem_of_getElem? (i := 9) (by decide +kernel), List.mem_of_getElem? (i := 232) (by decide +kernel), List.mem_of_getElem? (i := 233) (by decide +kernel)⟩
theorem lw_p7 : lw_okq (⟨"RankRings", "greatestRankOfRing", "(I)I"⟩, 11) := ⟨⟨by decide +kernel, by decide +kernel⟩, List.mem_of_getElem? (i := 9) (by decide +kernel), List.mem_of_getElem? (i := 287) (by decide +kernel), List.mem_of_getElem? (i := 288) (by decide +kernel)⟩
theorem lw_p8 : lw_okq (⟨"RankRings", "turnsWinner", "(III)Z"⟩, 11) := ⟨⟨by decide +kernel, by decide +kernel⟩, List.mem_of_getElem? (i := 9) (by decide +kernel), List.mem_of_getElem? (i := 304) (by decide +kernel), List.mem_of_getElem? (i := 305) (by decide +kernel)⟩
theorem lw_p9 : lw_okq (⟨"RankRings$Text", "lookAtPlaces", "()Z"⟩, 9) := ⟨⟨by decide +kernel, by decide +kernel⟩, List.mem_of_getElem? (i := 47) (by decide +kernel), List.mem_of_getElem? (i := 340) (by decide +kernel), List.mem_of_getElem? (i := 341) (by decide +kernel)⟩
theorem lw_p10 : lw_okq (⟨"RankRings$Text", "lookAtPlace", "()Z"⟩, 9) := ⟨⟨by decide +kernel, by decide +kernel⟩, List.mem_of_getElem? (i := 47) (by decide +kernel), List.mem_of_getElem? (i := 344) (by decide +kernel), List.mem_of_getElem? (i := 345) (by decide +kernel)⟩
theorem lw_p11 : lw_okq (⟨"RankRings$Text", "character", "()C"⟩, 9) := ⟨⟨by decide +kernel, by decide +kernel⟩, List.mem_of_getElem? (i := 47) (by decide +kernel), List.mem_of_getElem? (i := 348) (by decide +kernel), List.mem_of_getElem? (i := 349) (by decide +kernel)⟩
theorem lw_p12 : lw_okq (⟨"RankRings$Text", "blame", "(II)Z"⟩, 9) := ⟨⟨by decide +kernel, by decide +kernel⟩, List.mem_of_getElem? (i := 47) (by decide +kernel), List.mem_of_getElem? (i := 352) (by decide +kernel), List.mem_of_getElem? (i := 353) (by decide +kernel)⟩
theorem lw_p13 : lw_okq (⟨"RankRings$Text", "digit", "()I"⟩, 9) := ⟨⟨by decide +kernel, by decide +kernel⟩, List.mem_of_getElem? (i := 47) (by decide +kernel), List.mem_of_getElem? (i := 356) (by decide +kernel), List.mem_of_getElem? (i := 357) (by decide +kernel)⟩
theorem lw_p14 : lw_okq (⟨"RankRings$Text", "lookAtWays", "()Z"⟩, 9) := ⟨⟨by decide +kernel, by decide +kernel⟩, List.mem_of_getElem? (i := 47) (by decide +kernel), List.mem_of_getElem? (i := 362) (by decide +kernel), List.mem_of_getElem? (i := 363) (by decide +kernel)⟩
theorem lw_p15 : lw_okq (⟨"RankRings$Text", "isToldSince", "(II)Z"⟩, 9) := ⟨⟨by decide +kernel, by decide +kernel⟩, List.mem_of_getElem? (i := 47) (by decide +kernel), List.mem_of_getElem? (i := 366) (by decide +kernel), List.mem_of_getElem? (i := 367) (by decide +kernel)⟩
def lw_privs_1 : List (MethodName × Nat) := [(⟨"RankRings", "recordState", "()V"⟩, 11), (⟨"RankRings", "dropOldestState", "()V"⟩, 11), (⟨"RankRings", "forgetFindings", "()V"⟩, 11), (⟨"RankRings", "winnerFrom", "(I)I"⟩, 11), (⟨"RankRings", "winsOf", "(I)I"⟩, 11), (⟨"RankRings", "findChoices", "()V"⟩, 11), (⟨"RankRings", "settle", "(I)I"⟩, 11), (⟨"RankRings", "greatestRankOfRing", "(I)I"⟩, 11), (⟨"RankRings", "turnsWinner", "(III)Z"⟩, 11), (⟨"RankRings$Text", "lookAtPlaces", "()Z"⟩, 9), (⟨"RankRings$Text", "lookAtPlace", "()Z"⟩, 9), (⟨"RankRings$Text", "character", "()C"⟩, 9), (⟨"RankRings$Text", "blame", "(II)Z"⟩, 9), (⟨"RankRings$Text", "digit", "()I"⟩, 9), (⟨"RankRings$Text", "lookAtWays", "()Z"⟩, 9), (⟨"RankRings$Text", "isToldSince", "(II)Z"⟩, 9)]
theorem lw_r1 : ∀ q ∈ lw_privs_1, lw_okq q := List.forall_mem_cons.mpr ⟨lw_p0, List.forall_mem_cons.mpr ⟨lw_p1, List.forall_mem_cons.mpr ⟨lw_p2, List.forall_mem_cons.mpr ⟨lw_p3, List.forall_mem_cons.mpr ⟨lw_p4, List.forall_mem_cons.mpr ⟨lw_p5, List.forall_mem_cons.mpr ⟨lw_p6, List.forall_mem_cons.mpr ⟨lw_p7, List.forall_mem_cons.mpr ⟨lw_p8, List.forall_mem_cons.mpr ⟨lw_p9, List.forall_mem_cons.mpr ⟨lw_p10, List.forall_mem_cons.mpr ⟨lw_p11, List.forall_mem_cons.mpr ⟨lw_p12, List.forall_mem_cons.mpr ⟨lw_p13, List.forall_mem_cons.mpr ⟨lw_p14, List.forall_mem_cons.mpr ⟨lw_p15, fun _ h => absurd h List.not_mem_nil⟩⟩⟩⟩⟩⟩⟩⟩⟩⟩⟩⟩⟩⟩⟩⟩
theorem lw_p16 : lw_okq (⟨"RankRings$Text", "tellWay", "(II)V"⟩, 9) := ⟨⟨by decide +kernel, by decide +kernel⟩, List.mem_of_getElem? (i := 47) (by decide +kernel), List.mem_of_getElem? (i := 370) (by decide +kernel), List.mem_of_getElem? (i := 371) (by decide +kernel)⟩
theorem lw_p17 : lw_okq (⟨"RankRings$Text", "lookForPlacesOfWays", "()Z"⟩, 9) := ⟨⟨by decide +kernel, by decide +kernel⟩, List.mem_of_getElem? (i := 47) (by decide +kernel), List.mem_of_getElem? (i := 375) (by decide +kernel), List.mem_of_getElem? (i := 376) (by decide +kernel)⟩
theorem lw_p18 : lw_okq (⟨"RankRingsModel", "changes", "()V"⟩, 21) := ⟨⟨by decide +kernel, by decide +kernel⟩, List.mem_of_getElem? (i := 383) (by decide +kernel), List.mem_of_getElem? (i := 460) (by decide +kernel), List.mem_of_getElem? (i := 461) (by decide +kernel)⟩
theorem lw_p19 : lw_okq (⟨"RankRingsModel", "isPlace", "(I)Z"⟩, 21) := ⟨⟨by decide +kernel, by decide +kernel⟩, List.mem_of_getElem? (i := 383) (by decide +kernel), List.mem_of_getElem? (i := 468) (by decide +kernel), List.mem_of_getElem? (i := 469) (by decide +kernel)⟩
theorem lw_p20 : lw_okq (⟨"RankRingsModel", "hasWay", "(II)Z"⟩, 21) := ⟨⟨by decide +kernel, by decide +kernel⟩, List.mem_of_getElem? (i := 383) (by decide +kernel), List.mem_of_getElem? (i := 480) (by decide +kernel), List.mem_of_getElem? (i := 481) (by decide +kernel)⟩
theorem lw_p21 : lw_okq (⟨"RankRingsModel", "into", "(I)I"⟩, 21) := ⟨⟨by decide +kernel, by decide +kernel⟩, List.mem_of_getElem? (i := 383) (by decide +kernel), List.mem_of_getElem? (i := 495) (by decide +kernel), List.mem_of_getElem? (i := 496) (by decide +kernel)⟩
theorem lw_p22 : lw_okq (⟨"RankRingsModel", "won", "()I"⟩, 21) := ⟨⟨by decide +kernel, by decide +kernel⟩, List.mem_of_getElem? (i := 383) (by decide +kernel), List.mem_of_getElem? (i := 499) (by decide +kernel), List.mem_of_getElem? (i := 500) (by decide +kernel)⟩
theorem lw_p23 : lw_okq (⟨"RankRingsModel", "withRank", "(I)I"⟩, 21) := ⟨⟨by decide +kernel, by decide +kernel⟩, List.mem_of_getElem? (i := 383) (by decide +kernel), List.mem_of_getElem? (i := 503) (by decide +kernel), List.mem_of_getElem? (i := 504) (by decide +kernel)⟩
theorem lw_p24 : lw_okq (⟨"RankRingsModel", "lifted", "(I)I"⟩, 21) := ⟨⟨by decide +kernel, by decide +kernel⟩, List.mem_of_getElem? (i := 383) (by decide +kernel), List.mem_of_getElem? (i := 507) (by decide +kernel), List.mem_of_getElem? (i := 508) (by decide +kernel)⟩
theorem lw_p25 : lw_okq (⟨"RankRingsModel", "ahead", "(II)I"⟩, 21) := ⟨⟨by decide +kernel, by decide +kernel⟩, List.mem_of_getElem? (i := 383) (by decide +kernel), List.mem_of_getElem? (i := 512) (by decide +kernel), List.mem_of_getElem? (i := 513) (by decide +kernel)⟩
theorem lw_p26 : lw_okq (⟨"RankRingsModel", "choiceAt", "(I)I"⟩, 21) := ⟨⟨by decide +kernel, by decide +kernel⟩, List.mem_of_getElem? (i := 383) (by decide +kernel), List.mem_of_getElem? (i := 519) (by decide +kernel), List.mem_of_getElem? (i := 520) (by decide +kernel)⟩
theorem lw_p27 : lw_okq (⟨"RankRingsModel", "chooses", "()I"⟩, 21) := ⟨⟨by decide +kernel, by decide +kernel⟩, List.mem_of_getElem? (i := 383) (by decide +kernel), List.mem_of_getElem? (i := 523) (by decide +kernel), List.mem_of_getElem? (i := 524) (by decide +kernel)⟩
theorem lw_p28 : lw_okq (⟨"RankRingsModel", "manyWays", "()I"⟩, 21) := ⟨⟨by decide +kernel, by decide +kernel⟩, List.mem_of_getElem? (i := 383) (by decide +kernel), List.mem_of_getElem? (i := 534) (by decide +kernel), List.mem_of_getElem? (i := 535) (by decide +kernel)⟩
theorem lw_p29 : lw_okq (⟨"RankRingsModel", "all", "()I"⟩, 21) := ⟨⟨by decide +kernel, by decide +kernel⟩, List.mem_of_getElem? (i := 383) (by decide +kernel), List.mem_of_getElem? (i := 538) (by decide +kernel), List.mem_of_getElem? (i := 539) (by decide +kernel)⟩
theorem lw_p30 : lw_okq (⟨"RankRingsModel", "dead", "()I"⟩, 21) := ⟨⟨by decide +kernel, by decide +kernel⟩, List.mem_of_getElem? (i := 383) (by decide +kernel), List.mem_of_getElem? (i := 542) (by decide +kernel), List.mem_of_getElem? (i := 543) (by decide +kernel)⟩
theorem lw_p31 : lw_okq (⟨"RankRingsModel", "greatest", "()I"⟩, 21) := ⟨⟨by decide +kernel, by decide +kernel⟩, List.mem_of_getElem? (i := 383) (by decide +kernel), List.mem_of_getElem? (i := 546) (by decide +kernel), List.mem_of_getElem? (i := 547) (by decide +kernel)⟩
def lw_privs_2 : List (MethodName × Nat) := [(⟨"RankRings$Text", "tellWay", "(II)V"⟩, 9), (⟨"RankRings$Text", "lookForPlacesOfWays", "()Z"⟩, 9), (⟨"RankRingsModel", "changes", "()V"⟩, 21), (⟨"RankRingsModel", "isPlace", "(I)Z"⟩, 21), (⟨"RankRingsModel", "hasWay", "(II)Z"⟩, 21), (⟨"RankRingsModel", "into", "(I)I"⟩, 21), (⟨"RankRingsModel", "won", "()I"⟩, 21), (⟨"RankRingsModel", "withRank", "(I)I"⟩, 21), (⟨"RankRingsModel", "lifted", "(I)I"⟩, 21), (⟨"RankRingsModel", "ahead", "(II)I"⟩, 21), (⟨"RankRingsModel", "choiceAt", "(I)I"⟩, 21), (⟨"RankRingsModel", "chooses", "()I"⟩, 21), (⟨"RankRingsModel", "manyWays", "()I"⟩, 21), (⟨"RankRingsModel", "all", "()I"⟩, 21), (⟨"RankRingsModel", "dead", "()I"⟩, 21), (⟨"RankRingsModel", "greatest", "()I"⟩, 21)]
theorem lw_r2 : ∀ q ∈ lw_privs_2, lw_okq q := List.forall_mem_cons.mpr ⟨lw_p16, List.forall_mem_cons.mpr ⟨lw_p17, List.forall_mem_cons.mpr ⟨lw_p18, List.forall_mem_cons.mpr ⟨lw_p19, List.forall_mem_cons.mpr ⟨lw_p20, List.forall_mem_cons.mpr ⟨lw_p21, List.forall_mem_cons.mpr ⟨lw_p22, List.forall_mem_cons.mpr ⟨lw_p23, List.forall_mem_cons.mpr ⟨lw_p24, List.forall_mem_cons.mpr ⟨lw_p25, List.forall_mem_cons.mpr ⟨lw_p26, List.forall_mem_cons.mpr ⟨lw_p27, List.forall_mem_cons.mpr ⟨lw_p28, List.forall_mem_cons.mpr ⟨lw_p29, List.forall_mem_cons.mpr ⟨lw_p30, List.forall_mem_cons.mpr ⟨lw_p31, fun _ h => absurd h List.not_mem_nil⟩⟩⟩⟩⟩⟩⟩⟩⟩⟩⟩⟩⟩⟩⟩⟩
theorem lw_p32 : lw_okq (⟨"RankRingsModel", "isSet", "(II)Z"⟩, 21) := ⟨⟨by decide +kernel, by decide +kernel⟩, List.mem_of_getElem? (i := 383) (by decide +kernel), List.mem_of_getElem? (i := 554) (by decide +kernel), List.mem_of_getElem? (i := 555) (by decide +kernel)⟩
theorem lw_p33 : lw_okq (⟨"RankRingsModel", "pulls", "(II)I"⟩, 21) := ⟨⟨by decide +kernel, by decide +kernel⟩, List.mem_of_getElem? (i := 383) (by decide +kernel), List.mem_of_getElem? (i := 558) (by decide +kernel), List.mem_of_getElem? (i := 559) (by decide +kernel)⟩
theorem lw_p34 : lw_okq (⟨"RankRingsModel", "holding", "(II)I"⟩, 21) := ⟨⟨by decide +kernel, by decide +kernel⟩, List.mem_of_getElem? (i := 383) (by decide +kernel), List.mem_of_getElem? (i := 570) (by decide +kernel), List.mem_of_getElem? (i := 571) (by decide +kernel)⟩
theorem lw_p35 : lw_okq (⟨"RankRingsModel", "turns", "(IIII)Z"⟩, 21) := ⟨⟨by decide +kernel, by decide +kernel⟩, List.mem_of_getElem? (i := 383) (by decide +kernel), List.mem_of_getElem? (i := 594) (by decide +kernel), List.mem_of_getElem? (i := 595) (by decide +kernel)⟩
theorem lw_p36 : lw_okq (⟨"RankRingsModel", "isRight", "()Z"⟩, 21) := ⟨⟨by decide +kernel, by decide +kernel⟩, List.mem_of_getElem? (i := 383) (by decide +kernel), List.mem_of_getElem? (i := 625) (by decide +kernel), List.mem_of_getElem? (i := 626) (by decide +kernel)⟩
theorem lw_p37 : lw_okq (⟨"RankRingsModel", "readsPlace", "()Z"⟩, 21) := ⟨⟨by decide +kernel, by decide +kernel⟩, List.mem_of_getElem? (i := 383) (by decide +kernel), List.mem_of_getElem? (i := 629) (by decide +kernel), List.mem_of_getElem? (i := 630) (by decide +kernel)⟩
theorem lw_p38 : lw_okq (⟨"RankRingsModel", "isAt", "(II)Z"⟩, 21) := ⟨⟨by decide +kernel, by decide +kernel⟩, List.mem_of_getElem? (i := 383) (by decide +kernel), List.mem_of_getElem? (i := 633) (by decide +kernel), List.mem_of_getElem? (i := 634) (by decide +kernel)⟩
theorem lw_p39 : lw_okq (⟨"RankRingsModel", "fails", "(I)Z"⟩, 21) := ⟨⟨by decide +kernel, by decide +kernel⟩, List.mem_of_getElem? (i := 383) (by decide +kernel), List.mem_of_getElem? (i := 637) (by decide +kernel), List.mem_of_getElem? (i := 638) (by decide +kernel)⟩
theorem lw_p40 : lw_okq (⟨"RankRingsModel", "readsWay", "()Z"⟩, 21) := ⟨⟨by decide +kernel, by decide +kernel⟩, List.mem_of_getElem? (i := 383) (by decide +kernel), List.mem_of_getElem? (i := 641) (by decide +kernel), List.mem_of_getElem? (i := 642) (by decide +kernel)⟩
theorem lw_p41 : lw_okq (⟨"RankRingsModel", "areThere", "()Z"⟩, 21) := ⟨⟨by decide +kernel, by decide +kernel⟩, List.mem_of_getElem? (i := 383) (by decide +kernel), List.mem_of_getElem? (i := 645) (by decide +kernel), List.mem_of_getElem? (i := 646) (by decide +kernel)⟩
def lw_privs_3 : List (MethodName × Nat) := [(⟨"RankRingsModel", "isSet", "(II)Z"⟩, 21), (⟨"RankRingsModel", "pulls", "(II)I"⟩, 21), (⟨"RankRingsModel", "holding", "(II)I"⟩, 21), (⟨"RankRingsModel", "turns", "(IIII)Z"⟩, 21), (⟨"RankRingsModel", "isRight", "()Z"⟩, 21), (⟨"RankRingsModel", "readsPlace", "()Z"⟩, 21), (⟨"RankRingsModel", "isAt", "(II)Z"⟩, 21), (⟨"RankRingsModel", "fails", "(I)Z"⟩, 21), (⟨"RankRingsModel", "readsWay", "()Z"⟩, 21), (⟨"RankRingsModel", "areThere", "()Z"⟩, 21)]
theorem lw_r3 : ∀ q ∈ lw_privs_3, lw_okq q := List.forall_mem_cons.mpr ⟨lw_p32, List.forall_mem_cons.mpr ⟨lw_p33, List.forall_mem_cons.mpr ⟨lw_p34, List.forall_mem_cons.mpr ⟨lw_p35, List.forall_mem_cons.mpr ⟨lw_p36, List.forall_mem_cons.mpr ⟨lw_p37, List.forall_mem_cons.mpr ⟨lw_p38, List.forall_mem_cons.mpr ⟨lw_p39, List.forall_mem_cons.mpr ⟨lw_p40, List.forall_mem_cons.mpr ⟨lw_p41, fun _ h => absurd h List.not_mem_nil⟩⟩⟩⟩⟩⟩⟩⟩⟩⟩
def lw_privs : List (MethodName × Nat) := lw_privs_1 ++ (lw_privs_2 ++ (lw_privs_3))
def lw_tbl : List Cond := k2_sels lw_privs ++ tables_1
theorem lw_privs_ok : ∀ q ∈ lw_privs, lw_okq q := by
  show ∀ q ∈ lw_privs_1 ++ (lw_privs_2 ++ (lw_privs_3)), lw_okq q
  exact List.forall_mem_append.mpr ⟨lw_r1, List.forall_mem_append.mpr ⟨lw_r2, lw_r3⟩⟩

def RX0 : String := "RankRings$Field"
def TX0 : u_T := fun k => match k with
  | 0 => ("RankRings$Field", "owners", "[I", true)
  | 1 => ("RankRings$Field", "ranks", "[I", true)
  | 2 => ("RankRings$Field", "ways", "[I", true)
  | _ => ("RankRings$Field", "size", "I", false)
def tyX0 : Nat → FieldType := fun k => match k with
  | 0 => .array .int
  | 1 => .array .int
  | 2 => .array .int
  | _ => .int
abbrev wsX00 : List Cond := u_ws RX0 TX0 4
theorem nmX0 : ∀ a, a < 4 → ∀ b, b < 4 → a ≠ b → (TX0 a).2.1 ≠ (TX0 b).2.1 := by decide +kernel
theorem tyX0_ok : ∀ k, k < 4 → parseFieldDescriptor (TX0 k).2.2.1 = some (tyX0 k) := by decide +kernel
abbrev cX0_init : ByteArray := prog_2_method_1_code
def yX0_init : MethodName := ⟨RX0, "<init>", "()V"⟩
abbrev cX0_has : ByteArray := prog_2_method_2_code
def yX0_has : MethodName := ⟨RX0, "has", "(I)Z"⟩
abbrev cX0_hasAll : ByteArray := prog_2_method_3_code
def yX0_hasAll : MethodName := ⟨RX0, "hasAll", "(I)Z"⟩
abbrev cX0_all : ByteArray := prog_2_method_4_code
def yX0_all : MethodName := ⟨RX0, "all", "()I"⟩
abbrev cX0_waysTo : ByteArray := prog_2_method_5_code
def yX0_waysTo : MethodName := ⟨RX0, "waysTo", "(I)I"⟩
abbrev cX0_numberOfWays : ByteArray := prog_2_method_6_code
def yX0_numberOfWays : MethodName := ⟨RX0, "numberOfWays", "()I"⟩
abbrev cX0_greatestRank : ByteArray := prog_2_method_7_code
def yX0_greatestRank : MethodName := ⟨RX0, "greatestRank", "()I"⟩
abbrev cX0_endsOf : ByteArray := prog_2_method_8_code
def yX0_endsOf : MethodName := ⟨RX0, "endsOf", "(I)I"⟩
abbrev cX0_ranked : ByteArray := prog_2_method_9_code
def yX0_ranked : MethodName := ⟨RX0, "ranked", "(I)I"⟩
abbrev cX0_append : ByteArray := prog_2_method_10_code
def yX0_append : MethodName := ⟨RX0, "append", "(II)V"⟩
abbrev cX0_remove : ByteArray := prog_2_method_11_code
def yX0_remove : MethodName := ⟨RX0, "remove", "(I)V"⟩
abbrev cX0_copyFrom : ByteArray := prog_2_method_12_code
def yX0_copyFrom : MethodName := ⟨RX0, "copyFrom", "(LRankRings$Field;)V"⟩
def RX1 : String := "RankRings$Solver"
def TX1 : u_T := fun k => match k with
  | _ => ("", "", "", false)
def tyX1 : Nat → FieldType := fun k => match k with
  | _ => .int
abbrev wsX10 : List Cond := u_ws RX1 TX1 0
theorem nmX1 : ∀ a, a < 0 → ∀ b, b < 0 → a ≠ b → (TX1 a).2.1 ≠ (TX1 b).2.1 := by decide +kernel
theorem tyX1_ok : ∀ k, k < 0 → parseFieldDescriptor (TX1 k).2.2.1 = some (tyX1 k) := by decide +kernel
abbrev cX1_winsOf0 : ByteArray := prog_3_method_2_code
def yX1_winsOf0 : MethodName := ⟨RX1, "winsOf0", "(LRankRings$Field;)I"⟩
abbrev cX1_winsWithin : ByteArray := prog_3_method_3_code
def yX1_winsWithin : MethodName := ⟨RX1, "winsWithin", "(LRankRings$Field;III)I"⟩
abbrev cX1_pull : ByteArray := prog_3_method_4_code
def yX1_pull : MethodName := ⟨RX1, "pull", "(LRankRings$Field;III)I"⟩
abbrev cX1_pullOnce : ByteArray := prog_3_method_5_code
def yX1_pullOnce : MethodName := ⟨RX1, "pullOnce", "(LRankRings$Field;III)I"⟩
abbrev cX1_held : ByteArray := prog_3_method_6_code
def yX1_held : MethodName := ⟨RX1, "held", "(LRankRings$Field;II)I"⟩
def RX2 : String := "RankRings$Text"
def TX2 : u_T := fun k => match k with
  | 0 => ("RankRings$Text", "characters", "[C", true)
  | 1 => ("RankRings$Text", "length", "I", false)
  | 2 => ("RankRings$Text", "told", "LRankRings$Field;", true)
  | 3 => ("RankRings$Text", "faultIndex", "I", false)
  | 4 => ("RankRings$Text", "faultReason", "I", false)
  | 5 => ("RankRings$Text", "at", "I", false)
  | 6 => ("RankRings$Text", "wayNumbers", "[I", true)
  | 7 => ("RankRings$Text", "wayIndexes", "[I", true)
  | _ => ("RankRings$Text", "wayCount", "I", false)
def tyX2 : Nat → FieldType := fun k => match k with
  | 0 => .array .char
  | 1 => .int
  | 2 => .object "RankRings$Field"
  | 3 => .int
  | 4 => .int
  | 5 => .int
  | 6 => .array .int
  | 7 => .array .int
  | _ => .int
abbrev wsX20 : List Cond := u_ws RX2 TX2 9
theorem nmX2 : ∀ a, a < 9 → ∀ b, b < 9 → a ≠ b → (TX2 a).2.1 ≠ (TX2 b).2.1 := by decide +kernel
theorem tyX2_ok : ∀ k, k < 9 → parseFieldDescriptor (TX2 k).2.2.1 = some (tyX2 k) := by decide +kernel
abbrev cX2_init : ByteArray := prog_4_method_1_code
def yX2_init : MethodName := ⟨RX2, "<init>", "()V"⟩
abbrev cX2_append : ByteArray := prog_4_method_2_code
def yX2_append : MethodName := ⟨RX2, "append", "(C)V"⟩
abbrev cX2_isField : ByteArray := prog_4_method_3_code
def yX2_isField : MethodName := ⟨RX2, "isField", "()Z"⟩
abbrev cX2_lookAtPlaces : ByteArray := prog_4_method_4_code
def yX2_lookAtPlaces : MethodName := ⟨RX2, "lookAtPlaces", "()Z"⟩
abbrev cX2_lookAtPlace : ByteArray := prog_4_method_5_code
def yX2_lookAtPlace : MethodName := ⟨RX2, "lookAtPlace", "()Z"⟩
abbrev cX2_lookAtWays : ByteArray := prog_4_method_6_code
def yX2_lookAtWays : MethodName := ⟨RX2, "lookAtWays", "()Z"⟩
abbrev cX2_isToldSince : ByteArray := prog_4_method_7_code
def yX2_isToldSince : MethodName := ⟨RX2, "isToldSince", "(II)Z"⟩
abbrev cX2_tellWay : ByteArray := prog_4_method_8_code
def yX2_tellWay : MethodName := ⟨RX2, "tellWay", "(II)V"⟩
abbrev cX2_lookForPlacesOfWays : ByteArray := prog_4_method_9_code
def yX2_lookForPlacesOfWays : MethodName := ⟨RX2, "lookForPlacesOfWays", "()Z"⟩
abbrev cX2_blame : ByteArray := prog_4_method_10_code
def yX2_blame : MethodName := ⟨RX2, "blame", "(II)Z"⟩
abbrev cX2_character : ByteArray := prog_4_method_11_code
def yX2_character : MethodName := ⟨RX2, "character", "()C"⟩
abbrev cX2_digit : ByteArray := prog_4_method_12_code
def yX2_digit : MethodName := ⟨RX2, "digit", "()I"⟩
def RX3 : String := "RankRings"
def TX3 : u_T := fun k => match k with
  | 0 => ("RankRings", "field", "LRankRings$Field;", true)
  | 1 => ("RankRings", "history", "[LRankRings$Field;", true)
  | 2 => ("RankRings", "states", "I", false)
  | 3 => ("RankRings", "snapshot", "LRankRings$Field;", true)
  | 4 => ("RankRings", "isKept", "Z", false)
  | 5 => ("RankRings", "text", "LRankRings$Text;", true)
  | 6 => ("RankRings", "trial", "LRankRings$Field;", true)
  | 7 => ("RankRings", "winnersKnown", "Z", false)
  | 8 => ("RankRings", "winsOf0", "I", false)
  | 9 => ("RankRings", "choicesKnown", "Z", false)
  | _ => ("RankRings", "choices", "[I", true)
def tyX3 : Nat → FieldType := fun k => match k with
  | 0 => .object "RankRings$Field"
  | 1 => .array (.object "RankRings$Field")
  | 2 => .int
  | 3 => .object "RankRings$Field"
  | 4 => .boolean
  | 5 => .object "RankRings$Text"
  | 6 => .object "RankRings$Field"
  | 7 => .boolean
  | 8 => .int
  | 9 => .boolean
  | _ => .array .int
abbrev wsX30 : List Cond := u_ws RX3 TX3 11
theorem nmX3 : ∀ a, a < 11 → ∀ b, b < 11 → a ≠ b → (TX3 a).2.1 ≠ (TX3 b).2.1 := by decide +kernel
theorem tyX3_ok : ∀ k, k < 11 → parseFieldDescriptor (TX3 k).2.2.1 = some (tyX3 k) := by decide +kernel
abbrev cX3_init : ByteArray := prog_1_method_1_code
def yX3_init : MethodName := ⟨RX3, "<init>", "()V"⟩
abbrev cX3_add : ByteArray := prog_1_method_2_code
def yX3_add : MethodName := ⟨RX3, "add", "(II)I"⟩
abbrev cX3_own : ByteArray := prog_1_method_3_code
def yX3_own : MethodName := ⟨RX3, "own", "(II)I"⟩
abbrev cX3_rank : ByteArray := prog_1_method_4_code
def yX3_rank : MethodName := ⟨RX3, "rank", "(II)I"⟩
abbrev cX3_way : ByteArray := prog_1_method_5_code
def yX3_way : MethodName := ⟨RX3, "way", "(III)I"⟩
abbrev cX3_drop : ByteArray := prog_1_method_6_code
def yX3_drop : MethodName := ⟨RX3, "drop", "(I)I"⟩
abbrev cX3_placeOf : ByteArray := prog_1_method_7_code
def yX3_placeOf : MethodName := ⟨RX3, "placeOf", "(II)I"⟩
abbrev cX3_count : ByteArray := prog_1_method_8_code
def yX3_count : MethodName := ⟨RX3, "count", "(I)I"⟩
abbrev cX3_pulled : ByteArray := prog_1_method_9_code
def yX3_pulled : MethodName := ⟨RX3, "pulled", "(II)I"⟩
abbrev cX3_steps : ByteArray := prog_1_method_10_code
def yX3_steps : MethodName := ⟨RX3, "steps", "(III)I"⟩
abbrev cX3_trap : ByteArray := prog_1_method_11_code
def yX3_trap : MethodName := ⟨RX3, "trap", "(II)I"⟩
abbrev cX3_greatestTrap : ByteArray := prog_1_method_12_code
def yX3_greatestTrap : MethodName := ⟨RX3, "greatestTrap", "(II)I"⟩
abbrev cX3_play : ByteArray := prog_1_method_13_code
def yX3_play : MethodName := ⟨RX3, "play", "(II)I"⟩
abbrev cX3_proves : ByteArray := prog_1_method_14_code
def yX3_proves : MethodName := ⟨RX3, "proves", "(I)I"⟩
abbrev cX3_only : ByteArray := prog_1_method_15_code
def yX3_only : MethodName := ⟨RX3, "only", "(II)I"⟩
abbrev cX3_littleChange : ByteArray := prog_1_method_16_code
def yX3_littleChange : MethodName := ⟨RX3, "littleChange", "(II)I"⟩
abbrev cX3_keep : ByteArray := prog_1_method_17_code
def yX3_keep : MethodName := ⟨RX3, "keep", "()I"⟩
abbrev cX3_restore : ByteArray := prog_1_method_18_code
def yX3_restore : MethodName := ⟨RX3, "restore", "()I"⟩
abbrev cX3_undo : ByteArray := prog_1_method_19_code
def yX3_undo : MethodName := ⟨RX3, "undo", "()I"⟩
abbrev cX3_type : ByteArray := prog_1_method_20_code
def yX3_type : MethodName := ⟨RX3, "type", "(I)I"⟩
abbrev cX3_clearText : ByteArray := prog_1_method_21_code
def yX3_clearText : MethodName := ⟨RX3, "clearText", "()I"⟩
abbrev cX3_fault : ByteArray := prog_1_method_22_code
def yX3_fault : MethodName := ⟨RX3, "fault", "(I)I"⟩
abbrev cX3_read : ByteArray := prog_1_method_23_code
def yX3_read : MethodName := ⟨RX3, "read", "()I"⟩
abbrev cX3_isPlayer : ByteArray := prog_1_method_24_code
def yX3_isPlayer : MethodName := ⟨RX3, "isPlayer", "(I)Z"⟩
abbrev cX3_isRank : ByteArray := prog_1_method_25_code
def yX3_isRank : MethodName := ⟨RX3, "isRank", "(I)Z"⟩
abbrev cX3_contains : ByteArray := prog_1_method_26_code
def yX3_contains : MethodName := ⟨RX3, "contains", "(II)Z"⟩
abbrev cX3_recordState : ByteArray := prog_1_method_27_code
def yX3_recordState : MethodName := ⟨RX3, "recordState", "()V"⟩
abbrev cX3_dropOldestState : ByteArray := prog_1_method_28_code
def yX3_dropOldestState : MethodName := ⟨RX3, "dropOldestState", "()V"⟩
abbrev cX3_forgetFindings : ByteArray := prog_1_method_29_code
def yX3_forgetFindings : MethodName := ⟨RX3, "forgetFindings", "()V"⟩
abbrev cX3_winsOf : ByteArray := prog_1_method_30_code
def yX3_winsOf : MethodName := ⟨RX3, "winsOf", "(I)I"⟩
abbrev cX3_winnerFrom : ByteArray := prog_1_method_31_code
def yX3_winnerFrom : MethodName := ⟨RX3, "winnerFrom", "(I)I"⟩
abbrev cX3_findChoices : ByteArray := prog_1_method_32_code
def yX3_findChoices : MethodName := ⟨RX3, "findChoices", "()V"⟩
abbrev cX3_settle : ByteArray := prog_1_method_33_code
def yX3_settle : MethodName := ⟨RX3, "settle", "(I)I"⟩
abbrev cX3_greatestRankOfRing : ByteArray := prog_1_method_34_code
def yX3_greatestRankOfRing : MethodName := ⟨RX3, "greatestRankOfRing", "(I)I"⟩
abbrev cX3_turnsWinner : ByteArray := prog_1_method_35_code
def yX3_turnsWinner : MethodName := ⟨RX3, "turnsWinner", "(III)Z"⟩
def RX4 : String := "RankRingsModel"
def TX4 : u_T := fun k => match k with
  | 0 => ("RankRingsModel", "s", "[I", true)
  | 1 => ("RankRingsModel", "past", "[I", true)
  | 2 => ("RankRingsModel", "kept", "[I", true)
  | 3 => ("RankRingsModel", "isKept", "Z", false)
  | 4 => ("RankRingsModel", "pasts", "I", false)
  | 5 => ("RankRingsModel", "text", "[I", true)
  | 6 => ("RankRingsModel", "typed", "I", false)
  | 7 => ("RankRingsModel", "measure", "[I", true)
  | 8 => ("RankRingsModel", "most1", "I", false)
  | 9 => ("RankRingsModel", "most3", "I", false)
  | 10 => ("RankRingsModel", "most5", "I", false)
  | 11 => ("RankRingsModel", "chosen", "[I", true)
  | 12 => ("RankRingsModel", "ways", "[I", true)
  | 13 => ("RankRingsModel", "spot", "I", false)
  | 14 => ("RankRingsModel", "reason", "I", false)
  | 15 => ("RankRingsModel", "places", "I", false)
  | 16 => ("RankRingsModel", "owners", "[I", true)
  | 17 => ("RankRingsModel", "ranks", "[I", true)
  | 18 => ("RankRingsModel", "sets", "[I", true)
  | 19 => ("RankRingsModel", "toldAt", "[I", true)
  | _ => ("RankRingsModel", "line", "[I", true)
def tyX4 : Nat → FieldType := fun k => match k with
  | 0 => .array .int
  | 1 => .array .int
  | 2 => .array .int
  | 3 => .boolean
  | 4 => .int
  | 5 => .array .int
  | 6 => .int
  | 7 => .array .int
  | 8 => .int
  | 9 => .int
  | 10 => .int
  | 11 => .array .int
  | 12 => .array .int
  | 13 => .int
  | 14 => .int
  | 15 => .int
  | 16 => .array .int
  | 17 => .array .int
  | 18 => .array .int
  | 19 => .array .int
  | _ => .array .int
abbrev wsX40 : List Cond := u_ws RX4 TX4 21
theorem nmX4 : ∀ a, a < 21 → ∀ b, b < 21 → a ≠ b → (TX4 a).2.1 ≠ (TX4 b).2.1 := by decide +kernel
theorem tyX4_ok : ∀ k, k < 21 → parseFieldDescriptor (TX4 k).2.2.1 = some (tyX4 k) := by decide +kernel
abbrev cX4_init : ByteArray := prog_6_method_1_code
def yX4_init : MethodName := ⟨RX4, "<init>", "()V"⟩
abbrev cX4_in : ByteArray := prog_6_method_3_code
def yX4_in : MethodName := ⟨RX4, "in", "(III)Z"⟩
abbrev cX4_copies : ByteArray := prog_6_method_4_code
def yX4_copies : MethodName := ⟨RX4, "copies", "([I[I)V"⟩
abbrev cX4_changes : ByteArray := prog_6_method_5_code
def yX4_changes : MethodName := ⟨RX4, "changes", "()V"⟩
abbrev cX4_isPlace : ByteArray := prog_6_method_6_code
def yX4_isPlace : MethodName := ⟨RX4, "isPlace", "(I)Z"⟩
abbrev cX4_all : ByteArray := prog_6_method_7_code
def yX4_all : MethodName := ⟨RX4, "all", "()I"⟩
abbrev cX4_hasWay : ByteArray := prog_6_method_8_code
def yX4_hasWay : MethodName := ⟨RX4, "hasWay", "(II)Z"⟩
abbrev cX4_ones : ByteArray := prog_6_method_9_code
def yX4_ones : MethodName := ⟨RX4, "ones", "(I)I"⟩
abbrev cX4_lowest : ByteArray := prog_6_method_10_code
def yX4_lowest : MethodName := ⟨RX4, "lowest", "(I)I"⟩
abbrev cX4_add : ByteArray := prog_6_method_11_code
def yX4_add : MethodName := ⟨RX4, "add", "(II)I"⟩
abbrev cX4_own : ByteArray := prog_6_method_12_code
def yX4_own : MethodName := ⟨RX4, "own", "(II)I"⟩
abbrev cX4_rank : ByteArray := prog_6_method_13_code
def yX4_rank : MethodName := ⟨RX4, "rank", "(II)I"⟩
abbrev cX4_way : ByteArray := prog_6_method_14_code
def yX4_way : MethodName := ⟨RX4, "way", "(III)I"⟩
abbrev cX4_drop : ByteArray := prog_6_method_15_code
def yX4_drop : MethodName := ⟨RX4, "drop", "(I)I"⟩
abbrev cX4_withRank : ByteArray := prog_6_method_16_code
def yX4_withRank : MethodName := ⟨RX4, "withRank", "(I)I"⟩
abbrev cX4_ahead : ByteArray := prog_6_method_17_code
def yX4_ahead : MethodName := ⟨RX4, "ahead", "(II)I"⟩
abbrev cX4_lifted : ByteArray := prog_6_method_18_code
def yX4_lifted : MethodName := ⟨RX4, "lifted", "(I)I"⟩
abbrev cX4_won : ByteArray := prog_6_method_19_code
def yX4_won : MethodName := ⟨RX4, "won", "()I"⟩
abbrev cX4_winner : ByteArray := prog_6_method_20_code
def yX4_winner : MethodName := ⟨RX4, "winner", "(II)I"⟩
abbrev cX4_chooses : ByteArray := prog_6_method_21_code
def yX4_chooses : MethodName := ⟨RX4, "chooses", "()I"⟩
abbrev cX4_into : ByteArray := prog_6_method_22_code
def yX4_into : MethodName := ⟨RX4, "into", "(I)I"⟩
abbrev cX4_choiceAt : ByteArray := prog_6_method_23_code
def yX4_choiceAt : MethodName := ⟨RX4, "choiceAt", "(I)I"⟩
abbrev cX4_placeOf : ByteArray := prog_6_method_24_code
def yX4_placeOf : MethodName := ⟨RX4, "placeOf", "(II)I"⟩
abbrev cX4_manyWays : ByteArray := prog_6_method_25_code
def yX4_manyWays : MethodName := ⟨RX4, "manyWays", "()I"⟩
abbrev cX4_dead : ByteArray := prog_6_method_26_code
def yX4_dead : MethodName := ⟨RX4, "dead", "()I"⟩
abbrev cX4_greatest : ByteArray := prog_6_method_27_code
def yX4_greatest : MethodName := ⟨RX4, "greatest", "()I"⟩
abbrev cX4_count : ByteArray := prog_6_method_28_code
def yX4_count : MethodName := ⟨RX4, "count", "(I)I"⟩
abbrev cX4_isSet : ByteArray := prog_6_method_29_code
def yX4_isSet : MethodName := ⟨RX4, "isSet", "(II)Z"⟩
abbrev cX4_pulls : ByteArray := prog_6_method_30_code
def yX4_pulls : MethodName := ⟨RX4, "pulls", "(II)I"⟩
abbrev cX4_pulled : ByteArray := prog_6_method_31_code
def yX4_pulled : MethodName := ⟨RX4, "pulled", "(II)I"⟩
abbrev cX4_steps : ByteArray := prog_6_method_32_code
def yX4_steps : MethodName := ⟨RX4, "steps", "(III)I"⟩
abbrev cX4_holding : ByteArray := prog_6_method_33_code
def yX4_holding : MethodName := ⟨RX4, "holding", "(II)I"⟩
abbrev cX4_trap : ByteArray := prog_6_method_34_code
def yX4_trap : MethodName := ⟨RX4, "trap", "(II)I"⟩
abbrev cX4_greatestTrap : ByteArray := prog_6_method_35_code
def yX4_greatestTrap : MethodName := ⟨RX4, "greatestTrap", "(II)I"⟩
abbrev cX4_play : ByteArray := prog_6_method_36_code
def yX4_play : MethodName := ⟨RX4, "play", "(II)I"⟩
abbrev cX4_proves : ByteArray := prog_6_method_37_code
def yX4_proves : MethodName := ⟨RX4, "proves", "(I)I"⟩
abbrev cX4_only : ByteArray := prog_6_method_38_code
def yX4_only : MethodName := ⟨RX4, "only", "(II)I"⟩
abbrev cX4_turns : ByteArray := prog_6_method_39_code
def yX4_turns : MethodName := ⟨RX4, "turns", "(IIII)Z"⟩
abbrev cX4_littleChange : ByteArray := prog_6_method_40_code
def yX4_littleChange : MethodName := ⟨RX4, "littleChange", "(II)I"⟩
abbrev cX4_keep : ByteArray := prog_6_method_41_code
def yX4_keep : MethodName := ⟨RX4, "keep", "()I"⟩
abbrev cX4_restore : ByteArray := prog_6_method_42_code
def yX4_restore : MethodName := ⟨RX4, "restore", "()I"⟩
abbrev cX4_undo : ByteArray := prog_6_method_43_code
def yX4_undo : MethodName := ⟨RX4, "undo", "()I"⟩
abbrev cX4_type : ByteArray := prog_6_method_44_code
def yX4_type : MethodName := ⟨RX4, "type", "(I)I"⟩
abbrev cX4_clearText : ByteArray := prog_6_method_45_code
def yX4_clearText : MethodName := ⟨RX4, "clearText", "()I"⟩
abbrev cX4_isAt : ByteArray := prog_6_method_46_code
def yX4_isAt : MethodName := ⟨RX4, "isAt", "(II)Z"⟩
abbrev cX4_fails : ByteArray := prog_6_method_47_code
def yX4_fails : MethodName := ⟨RX4, "fails", "(I)Z"⟩
abbrev cX4_readsWay : ByteArray := prog_6_method_48_code
def yX4_readsWay : MethodName := ⟨RX4, "readsWay", "()Z"⟩
abbrev cX4_readsPlace : ByteArray := prog_6_method_49_code
def yX4_readsPlace : MethodName := ⟨RX4, "readsPlace", "()Z"⟩
abbrev cX4_areThere : ByteArray := prog_6_method_50_code
def yX4_areThere : MethodName := ⟨RX4, "areThere", "()Z"⟩
abbrev cX4_isRight : ByteArray := prog_6_method_51_code
def yX4_isRight : MethodName := ⟨RX4, "isRight", "()Z"⟩
abbrev cX4_fault : ByteArray := prog_6_method_52_code
def yX4_fault : MethodName := ⟨RX4, "fault", "(I)I"⟩
abbrev cX4_read : ByteArray := prog_6_method_53_code
def yX4_read : MethodName := ⟨RX4, "read", "()I"⟩
def RJ6 : String := "java/lang/Integer"
def TJ6 : u_T := fun k => match k with
  | _ => ("", "", "", false)
def tyJ6 : Nat → FieldType := fun k => match k with
  | _ => .int
abbrev wsJ60 : List Cond := u_ws RJ6 TJ6 0
theorem nmJ6 : ∀ a, a < 0 → ∀ b, b < 0 → a ≠ b → (TJ6 a).2.1 ≠ (TJ6 b).2.1 := by decide +kernel
theorem tyJ6_ok : ∀ k, k < 0 → parseFieldDescriptor (TJ6 k).2.2.1 = some (tyJ6 k) := by decide +kernel
abbrev cJ6_numberOfTrailingZeros_0f7a4 : ByteArray := prog_7_method_48_code
def yJ6_numberOfTrailingZeros_0f7a4 : MethodName := ⟨RJ6, "numberOfTrailingZeros", "(I)I"⟩
abbrev cJ6_bitCount_0f7a4 : ByteArray := prog_7_method_49_code
def yJ6_bitCount_0f7a4 : MethodName := ⟨RJ6, "bitCount", "(I)I"⟩
def RJ9 : String := "java/lang/Math"
def TJ9 : u_T := fun k => match k with
  | _ => ("", "", "", false)
def tyJ9 : Nat → FieldType := fun k => match k with
  | _ => .int
abbrev wsJ90 : List Cond := u_ws RJ9 TJ9 0
theorem nmJ9 : ∀ a, a < 0 → ∀ b, b < 0 → a ≠ b → (TJ9 a).2.1 ≠ (TJ9 b).2.1 := by decide +kernel
theorem tyJ9_ok : ∀ k, k < 0 → parseFieldDescriptor (TJ9 k).2.2.1 = some (tyJ9 k) := by decide +kernel
abbrev cJ9_max_7cf53 : ByteArray := prog_8_method_65_code
def yJ9_max_7cf53 : MethodName := ⟨RJ9, "max", "(II)I"⟩
def RL : String := "RankRingsLaw"
abbrev cL_law : ByteArray := code
def yL_law : MethodName := ⟨RL, "law", "([I)Z"⟩
abbrev vwCl : List vw_C := [(RX0, TX0, 4), (RX2, TX2, 9), (RX3, TX3, 11), (RX4, TX4, 21)]
end
section
theorem dX0_init_0 : decode cX0_init 0 = .ok (.aload_n 0, 1) := by decide +kernel
theorem dX0_init_1 : decode cX0_init 1 = .ok (.invokespecial 3, 3) := by decide +kernel
theorem dX0_init_4 : decode cX0_init 4 = .ok (.aload_n 0, 1) := by decide +kernel
theorem dX0_init_5 : decode cX0_init 5 = .ok (.bipush 12, 2) := by decide +kernel
theorem dX0_init_7 : decode cX0_init 7 = .ok (.newarray .int, 2) := by decide +kernel
theorem dX0_init_9 : decode cX0_init 9 = .ok (.putfield 9, 3) := by decide +kernel
theorem dX0_init_12 : decode cX0_init 12 = .ok (.aload_n 0, 1) := by decide +kernel
theorem dX0_init_13 : decode cX0_init 13 = .ok (.bipush 12, 2) := by decide +kernel
theorem dX0_init_15 : decode cX0_init 15 = .ok (.newarray .int, 2) := by decide +kernel
theorem dX0_init_17 : decode cX0_init 17 = .ok (.putfield 15, 3) := by decide +kernel
theorem dX0_init_20 : decode cX0_init 20 = .ok (.aload_n 0, 1) := by decide +kernel
theorem dX0_init_21 : decode cX0_init 21 = .ok (.bipush 12, 2) := by decide +kernel
theorem dX0_init_23 : decode cX0_init 23 = .ok (.newarray .int, 2) := by decide +kernel
theorem dX0_init_25 : decode cX0_init 25 = .ok (.putfield 18, 3) := by decide +kernel
theorem dX0_init_28 : decode cX0_init 28 = .ok (.return_, 1) := by decide +kernel
theorem dX0_has_0 : decode cX0_has 0 = .ok (.iload_n 1, 1) := by decide +kernel
theorem dX0_has_1 : decode cX0_has 1 = .ok (.ifCond .lt 21, 3) := by decide +kernel
theorem dX0_has_4 : decode cX0_has 4 = .ok (.iload_n 1, 1) := by decide +kernel
theorem dX0_has_5 : decode cX0_has 5 = .ok (.aload_n 0, 1) := by decide +kernel
theorem dX0_has_6 : decode cX0_has 6 = .ok (.getfield 21, 3) := by decide +kernel
theorem dX0_has_9 : decode cX0_has 9 = .ok (.if_icmp .ge 13, 3) := by decide +kernel
theorem dX0_has_12 : decode cX0_has 12 = .ok (.iload_n 1, 1) := by decide +kernel
theorem dX0_has_13 : decode cX0_has 13 = .ok (.bipush 12, 2) := by decide +kernel
theorem dX0_has_15 : decode cX0_has 15 = .ok (.if_icmp .ge 7, 3) := by decide +kernel
theorem dX0_has_18 : decode cX0_has 18 = .ok (.iconst 1, 1) := by decide +kernel
theorem dX0_has_19 : decode cX0_has 19 = .ok (.goto 4, 3) := by decide +kernel
theorem dX0_has_22 : decode cX0_has 22 = .ok (.iconst 0, 1) := by decide +kernel
theorem dX0_has_23 : decode cX0_has 23 = .ok (.ireturn, 1) := by decide +kernel
theorem dX0_hasAll_0 : decode cX0_hasAll 0 = .ok (.iload_n 1, 1) := by decide +kernel
theorem dX0_hasAll_1 : decode cX0_hasAll 1 = .ok (.aload_n 0, 1) := by decide +kernel
theorem dX0_hasAll_2 : decode cX0_hasAll 2 = .ok (.invokevirtual 25, 3) := by decide +kernel
theorem dX0_hasAll_5 : decode cX0_hasAll 5 = .ok (.iconst (-1), 1) := by decide +kernel
theorem dX0_hasAll_6 : decode cX0_hasAll 6 = .ok (.ixor, 1) := by decide +kernel
theorem dX0_hasAll_7 : decode cX0_hasAll 7 = .ok (.iand, 1) := by decide +kernel
theorem dX0_hasAll_8 : decode cX0_hasAll 8 = .ok (.ifCond .ne 7, 3) := by decide +kernel
theorem dX0_hasAll_11 : decode cX0_hasAll 11 = .ok (.iconst 1, 1) := by decide +kernel
theorem dX0_hasAll_12 : decode cX0_hasAll 12 = .ok (.goto 4, 3) := by decide +kernel
theorem dX0_hasAll_15 : decode cX0_hasAll 15 = .ok (.iconst 0, 1) := by decide +kernel
theorem dX0_hasAll_16 : decode cX0_hasAll 16 = .ok (.ireturn, 1) := by decide +kernel
theorem dX0_all_0 : decode cX0_all 0 = .ok (.iconst 1, 1) := by decide +kernel
theorem dX0_all_1 : decode cX0_all 1 = .ok (.aload_n 0, 1) := by decide +kernel
theorem dX0_all_2 : decode cX0_all 2 = .ok (.getfield 21, 3) := by decide +kernel
theorem dX0_all_5 : decode cX0_all 5 = .ok (.ishl, 1) := by decide +kernel
theorem dX0_all_6 : decode cX0_all 6 = .ok (.iconst 1, 1) := by decide +kernel
theorem dX0_all_7 : decode cX0_all 7 = .ok (.isub, 1) := by decide +kernel
theorem dX0_all_8 : decode cX0_all 8 = .ok (.ireturn, 1) := by decide +kernel
theorem dX0_waysTo_0 : decode cX0_waysTo 0 = .ok (.iconst 0, 1) := by decide +kernel
theorem dX0_waysTo_1 : decode cX0_waysTo 1 = .ok (.istore_n 2, 1) := by decide +kernel
theorem dX0_waysTo_2 : decode cX0_waysTo 2 = .ok (.iconst 0, 1) := by decide +kernel
theorem dX0_waysTo_3 : decode cX0_waysTo 3 = .ok (.istore_n 3, 1) := by decide +kernel
theorem dX0_waysTo_4 : decode cX0_waysTo 4 = .ok (.iload_n 3, 1) := by decide +kernel
theorem dX0_waysTo_5 : decode cX0_waysTo 5 = .ok (.aload_n 0, 1) := by decide +kernel
theorem dX0_waysTo_6 : decode cX0_waysTo 6 = .ok (.getfield 21, 3) := by decide +kernel
theorem dX0_waysTo_9 : decode cX0_waysTo 9 = .ok (.if_icmp .ge 28, 3) := by decide +kernel
theorem dX0_waysTo_12 : decode cX0_waysTo 12 = .ok (.aload_n 0, 1) := by decide +kernel
theorem dX0_waysTo_13 : decode cX0_waysTo 13 = .ok (.getfield 18, 3) := by decide +kernel
theorem dX0_waysTo_16 : decode cX0_waysTo 16 = .ok (.iload_n 3, 1) := by decide +kernel
theorem dX0_waysTo_17 : decode cX0_waysTo 17 = .ok (.iaload, 1) := by decide +kernel
theorem dX0_waysTo_18 : decode cX0_waysTo 18 = .ok (.iload_n 1, 1) := by decide +kernel
theorem dX0_waysTo_19 : decode cX0_waysTo 19 = .ok (.invokestatic 29, 3) := by decide +kernel
theorem dX0_waysTo_22 : decode cX0_waysTo 22 = .ok (.ifCond .eq 9, 3) := by decide +kernel
theorem dX0_waysTo_25 : decode cX0_waysTo 25 = .ok (.iload_n 2, 1) := by decide +kernel
theorem dX0_waysTo_26 : decode cX0_waysTo 26 = .ok (.iconst 1, 1) := by decide +kernel
theorem dX0_waysTo_27 : decode cX0_waysTo 27 = .ok (.iload_n 3, 1) := by decide +kernel
theorem dX0_waysTo_28 : decode cX0_waysTo 28 = .ok (.ishl, 1) := by decide +kernel
theorem dX0_waysTo_29 : decode cX0_waysTo 29 = .ok (.ior, 1) := by decide +kernel
theorem dX0_waysTo_30 : decode cX0_waysTo 30 = .ok (.istore_n 2, 1) := by decide +kernel
theorem dX0_waysTo_31 : decode cX0_waysTo 31 = .ok (.iinc 3 1, 3) := by decide +kernel
theorem dX0_waysTo_34 : decode cX0_waysTo 34 = .ok (.goto (-30), 3) := by decide +kernel
theorem dX0_waysTo_37 : decode cX0_waysTo 37 = .ok (.iload_n 2, 1) := by decide +kernel
theorem dX0_waysTo_38 : decode cX0_waysTo 38 = .ok (.ireturn, 1) := by decide +kernel
theorem dX0_numberOfWays_0 : decode cX0_numberOfWays 0 = .ok (.iconst 0, 1) := by decide +kernel
theorem dX0_numberOfWays_1 : decode cX0_numberOfWays 1 = .ok (.istore_n 1, 1) := by decide +kernel
theorem dX0_numberOfWays_2 : decode cX0_numberOfWays 2 = .ok (.iconst 0, 1) := by decide +kernel
theorem dX0_numberOfWays_3 : decode cX0_numberOfWays 3 = .ok (.istore_n 2, 1) := by decide +kernel
theorem dX0_numberOfWays_4 : decode cX0_numberOfWays 4 = .ok (.iload_n 2, 1) := by decide +kernel
theorem dX0_numberOfWays_5 : decode cX0_numberOfWays 5 = .ok (.aload_n 0, 1) := by decide +kernel
theorem dX0_numberOfWays_6 : decode cX0_numberOfWays 6 = .ok (.getfield 21, 3) := by decide +kernel
theorem dX0_numberOfWays_9 : decode cX0_numberOfWays 9 = .ok (.if_icmp .ge 21, 3) := by decide +kernel
theorem dX0_numberOfWays_12 : decode cX0_numberOfWays 12 = .ok (.iload_n 1, 1) := by decide +kernel
theorem dX0_numberOfWays_13 : decode cX0_numberOfWays 13 = .ok (.aload_n 0, 1) := by decide +kernel
theorem dX0_numberOfWays_14 : decode cX0_numberOfWays 14 = .ok (.getfield 18, 3) := by decide +kernel
theorem dX0_numberOfWays_17 : decode cX0_numberOfWays 17 = .ok (.iload_n 2, 1) := by decide +kernel
theorem dX0_numberOfWays_18 : decode cX0_numberOfWays 18 = .ok (.iaload, 1) := by decide +kernel
theorem dX0_numberOfWays_19 : decode cX0_numberOfWays 19 = .ok (.invokestatic 33, 3) := by decide +kernel
theorem dX0_numberOfWays_22 : decode cX0_numberOfWays 22 = .ok (.iadd, 1) := by decide +kernel
theorem dX0_numberOfWays_23 : decode cX0_numberOfWays 23 = .ok (.istore_n 1, 1) := by decide +kernel
theorem dX0_numberOfWays_24 : decode cX0_numberOfWays 24 = .ok (.iinc 2 1, 3) := by decide +kernel
theorem dX0_numberOfWays_27 : decode cX0_numberOfWays 27 = .ok (.goto (-23), 3) := by decide +kernel
theorem dX0_numberOfWays_30 : decode cX0_numberOfWays 30 = .ok (.iload_n 1, 1) := by decide +kernel
theorem dX0_numberOfWays_31 : decode cX0_numberOfWays 31 = .ok (.ireturn, 1) := by decide +kernel
theorem dX0_greatestRank_0 : decode cX0_greatestRank 0 = .ok (.iconst 0, 1) := by decide +kernel
theorem dX0_greatestRank_1 : decode cX0_greatestRank 1 = .ok (.istore_n 1, 1) := by decide +kernel
theorem dX0_greatestRank_2 : decode cX0_greatestRank 2 = .ok (.iconst 0, 1) := by decide +kernel
theorem dX0_greatestRank_3 : decode cX0_greatestRank 3 = .ok (.istore_n 2, 1) := by decide +kernel
theorem dX0_greatestRank_4 : decode cX0_greatestRank 4 = .ok (.iload_n 2, 1) := by decide +kernel
theorem dX0_greatestRank_5 : decode cX0_greatestRank 5 = .ok (.aload_n 0, 1) := by decide +kernel
theorem dX0_greatestRank_6 : decode cX0_greatestRank 6 = .ok (.getfield 21, 3) := by decide +kernel
theorem dX0_greatestRank_9 : decode cX0_greatestRank 9 = .ok (.if_icmp .ge 20, 3) := by decide +kernel
theorem dX0_greatestRank_12 : decode cX0_greatestRank 12 = .ok (.iload_n 1, 1) := by decide +kernel
theorem dX0_greatestRank_13 : decode cX0_greatestRank 13 = .ok (.aload_n 0, 1) := by decide +kernel
theorem dX0_greatestRank_14 : decode cX0_greatestRank 14 = .ok (.getfield 15, 3) := by decide +kernel
theorem dX0_greatestRank_17 : decode cX0_greatestRank 17 = .ok (.iload_n 2, 1) := by decide +kernel
theorem dX0_greatestRank_18 : decode cX0_greatestRank 18 = .ok (.iaload, 1) := by decide +kernel
theorem dX0_greatestRank_19 : decode cX0_greatestRank 19 = .ok (.invokestatic 39, 3) := by decide +kernel
theorem dX0_greatestRank_22 : decode cX0_greatestRank 22 = .ok (.istore_n 1, 1) := by decide +kernel
theorem dX0_greatestRank_23 : decode cX0_greatestRank 23 = .ok (.iinc 2 1, 3) := by decide +kernel
theorem dX0_greatestRank_26 : decode cX0_greatestRank 26 = .ok (.goto (-22), 3) := by decide +kernel
theorem dX0_greatestRank_29 : decode cX0_greatestRank 29 = .ok (.iload_n 1, 1) := by decide +kernel
theorem dX0_greatestRank_30 : decode cX0_greatestRank 30 = .ok (.ireturn, 1) := by decide +kernel
theorem dX0_endsOf_0 : decode cX0_endsOf 0 = .ok (.iconst 0, 1) := by decide +kernel
theorem dX0_endsOf_1 : decode cX0_endsOf 1 = .ok (.istore_n 2, 1) := by decide +kernel
theorem dX0_endsOf_2 : decode cX0_endsOf 2 = .ok (.iconst 0, 1) := by decide +kernel
theorem dX0_endsOf_3 : decode cX0_endsOf 3 = .ok (.istore_n 3, 1) := by decide +kernel
theorem dX0_endsOf_4 : decode cX0_endsOf 4 = .ok (.iload_n 3, 1) := by decide +kernel
theorem dX0_endsOf_5 : decode cX0_endsOf 5 = .ok (.aload_n 0, 1) := by decide +kernel
theorem dX0_endsOf_6 : decode cX0_endsOf 6 = .ok (.getfield 21, 3) := by decide +kernel
theorem dX0_endsOf_9 : decode cX0_endsOf 9 = .ok (.if_icmp .ge 34, 3) := by decide +kernel
theorem dX0_endsOf_12 : decode cX0_endsOf 12 = .ok (.aload_n 0, 1) := by decide +kernel
theorem dX0_endsOf_13 : decode cX0_endsOf 13 = .ok (.getfield 18, 3) := by decide +kernel
theorem dX0_endsOf_16 : decode cX0_endsOf 16 = .ok (.iload_n 3, 1) := by decide +kernel
theorem dX0_endsOf_17 : decode cX0_endsOf 17 = .ok (.iaload, 1) := by decide +kernel
theorem dX0_endsOf_18 : decode cX0_endsOf 18 = .ok (.ifCond .ne 19, 3) := by decide +kernel
theorem dX0_endsOf_21 : decode cX0_endsOf 21 = .ok (.aload_n 0, 1) := by decide +kernel
theorem dX0_endsOf_22 : decode cX0_endsOf 22 = .ok (.getfield 9, 3) := by decide +kernel
theorem dX0_endsOf_25 : decode cX0_endsOf 25 = .ok (.iload_n 3, 1) := by decide +kernel
theorem dX0_endsOf_26 : decode cX0_endsOf 26 = .ok (.iaload, 1) := by decide +kernel
theorem dX0_endsOf_27 : decode cX0_endsOf 27 = .ok (.iload_n 1, 1) := by decide +kernel
theorem dX0_endsOf_28 : decode cX0_endsOf 28 = .ok (.if_icmp .ne 9, 3) := by decide +kernel
theorem dX0_endsOf_31 : decode cX0_endsOf 31 = .ok (.iload_n 2, 1) := by decide +kernel
theorem dX0_endsOf_32 : decode cX0_endsOf 32 = .ok (.iconst 1, 1) := by decide +kernel
theorem dX0_endsOf_33 : decode cX0_endsOf 33 = .ok (.iload_n 3, 1) := by decide +kernel
theorem dX0_endsOf_34 : decode cX0_endsOf 34 = .ok (.ishl, 1) := by decide +kernel
theorem dX0_endsOf_35 : decode cX0_endsOf 35 = .ok (.ior, 1) := by decide +kernel
theorem dX0_endsOf_36 : decode cX0_endsOf 36 = .ok (.istore_n 2, 1) := by decide +kernel
theorem dX0_endsOf_37 : decode cX0_endsOf 37 = .ok (.iinc 3 1, 3) := by decide +kernel
theorem dX0_endsOf_40 : decode cX0_endsOf 40 = .ok (.goto (-36), 3) := by decide +kernel
theorem dX0_endsOf_43 : decode cX0_endsOf 43 = .ok (.iload_n 2, 1) := by decide +kernel
theorem dX0_endsOf_44 : decode cX0_endsOf 44 = .ok (.ireturn, 1) := by decide +kernel
theorem dX0_ranked_0 : decode cX0_ranked 0 = .ok (.iconst 0, 1) := by decide +kernel
theorem dX0_ranked_1 : decode cX0_ranked 1 = .ok (.istore_n 2, 1) := by decide +kernel
theorem dX0_ranked_2 : decode cX0_ranked 2 = .ok (.iconst 0, 1) := by decide +kernel
theorem dX0_ranked_3 : decode cX0_ranked 3 = .ok (.istore_n 3, 1) := by decide +kernel
theorem dX0_ranked_4 : decode cX0_ranked 4 = .ok (.iload_n 3, 1) := by decide +kernel
theorem dX0_ranked_5 : decode cX0_ranked 5 = .ok (.aload_n 0, 1) := by decide +kernel
theorem dX0_ranked_6 : decode cX0_ranked 6 = .ok (.getfield 21, 3) := by decide +kernel
theorem dX0_ranked_9 : decode cX0_ranked 9 = .ok (.if_icmp .ge 25, 3) := by decide +kernel
theorem dX0_ranked_12 : decode cX0_ranked 12 = .ok (.aload_n 0, 1) := by decide +kernel
theorem dX0_ranked_13 : decode cX0_ranked 13 = .ok (.getfield 15, 3) := by decide +kernel
theorem dX0_ranked_16 : decode cX0_ranked 16 = .ok (.iload_n 3, 1) := by decide +kernel
theorem dX0_ranked_17 : decode cX0_ranked 17 = .ok (.iaload, 1) := by decide +kernel
theorem dX0_ranked_18 : decode cX0_ranked 18 = .ok (.iload_n 1, 1) := by decide +kernel
theorem dX0_ranked_19 : decode cX0_ranked 19 = .ok (.if_icmp .ne 9, 3) := by decide +kernel
theorem dX0_ranked_22 : decode cX0_ranked 22 = .ok (.iload_n 2, 1) := by decide +kernel
theorem dX0_ranked_23 : decode cX0_ranked 23 = .ok (.iconst 1, 1) := by decide +kernel
theorem dX0_ranked_24 : decode cX0_ranked 24 = .ok (.iload_n 3, 1) := by decide +kernel
theorem dX0_ranked_25 : decode cX0_ranked 25 = .ok (.ishl, 1) := by decide +kernel
theorem dX0_ranked_26 : decode cX0_ranked 26 = .ok (.ior, 1) := by decide +kernel
theorem dX0_ranked_27 : decode cX0_ranked 27 = .ok (.istore_n 2, 1) := by decide +kernel
theorem dX0_ranked_28 : decode cX0_ranked 28 = .ok (.iinc 3 1, 3) := by decide +kernel
theorem dX0_ranked_31 : decode cX0_ranked 31 = .ok (.goto (-27), 3) := by decide +kernel
theorem dX0_ranked_34 : decode cX0_ranked 34 = .ok (.iload_n 2, 1) := by decide +kernel
theorem dX0_ranked_35 : decode cX0_ranked 35 = .ok (.ireturn, 1) := by decide +kernel
theorem dX0_append_0 : decode cX0_append 0 = .ok (.aload_n 0, 1) := by decide +kernel
theorem dX0_append_1 : decode cX0_append 1 = .ok (.getfield 21, 3) := by decide +kernel
theorem dX0_append_4 : decode cX0_append 4 = .ok (.bipush 12, 2) := by decide +kernel
theorem dX0_append_6 : decode cX0_append 6 = .ok (.if_icmp .ge 43, 3) := by decide +kernel
theorem dX0_append_9 : decode cX0_append 9 = .ok (.aload_n 0, 1) := by decide +kernel
theorem dX0_append_10 : decode cX0_append 10 = .ok (.getfield 9, 3) := by decide +kernel
theorem dX0_append_13 : decode cX0_append 13 = .ok (.aload_n 0, 1) := by decide +kernel
theorem dX0_append_14 : decode cX0_append 14 = .ok (.getfield 21, 3) := by decide +kernel
theorem dX0_append_17 : decode cX0_append 17 = .ok (.iload_n 1, 1) := by decide +kernel
theorem dX0_append_18 : decode cX0_append 18 = .ok (.iastore, 1) := by decide +kernel
theorem dX0_append_19 : decode cX0_append 19 = .ok (.aload_n 0, 1) := by decide +kernel
theorem dX0_append_20 : decode cX0_append 20 = .ok (.getfield 15, 3) := by decide +kernel
theorem dX0_append_23 : decode cX0_append 23 = .ok (.aload_n 0, 1) := by decide +kernel
theorem dX0_append_24 : decode cX0_append 24 = .ok (.getfield 21, 3) := by decide +kernel
theorem dX0_append_27 : decode cX0_append 27 = .ok (.iload_n 2, 1) := by decide +kernel
theorem dX0_append_28 : decode cX0_append 28 = .ok (.iastore, 1) := by decide +kernel
theorem dX0_append_29 : decode cX0_append 29 = .ok (.aload_n 0, 1) := by decide +kernel
theorem dX0_append_30 : decode cX0_append 30 = .ok (.getfield 18, 3) := by decide +kernel
theorem dX0_append_33 : decode cX0_append 33 = .ok (.aload_n 0, 1) := by decide +kernel
theorem dX0_append_34 : decode cX0_append 34 = .ok (.getfield 21, 3) := by decide +kernel
theorem dX0_append_37 : decode cX0_append 37 = .ok (.iconst 0, 1) := by decide +kernel
theorem dX0_append_38 : decode cX0_append 38 = .ok (.iastore, 1) := by decide +kernel
theorem dX0_append_39 : decode cX0_append 39 = .ok (.aload_n 0, 1) := by decide +kernel
theorem dX0_append_40 : decode cX0_append 40 = .ok (.dup, 1) := by decide +kernel
theorem dX0_append_41 : decode cX0_append 41 = .ok (.getfield 21, 3) := by decide +kernel
theorem dX0_append_44 : decode cX0_append 44 = .ok (.iconst 1, 1) := by decide +kernel
theorem dX0_append_45 : decode cX0_append 45 = .ok (.iadd, 1) := by decide +kernel
theorem dX0_append_46 : decode cX0_append 46 = .ok (.putfield 21, 3) := by decide +kernel
theorem dX0_append_49 : decode cX0_append 49 = .ok (.return_, 1) := by decide +kernel
theorem dX0_remove_0 : decode cX0_remove 0 = .ok (.iload_n 1, 1) := by decide +kernel
theorem dX0_remove_1 : decode cX0_remove 1 = .ok (.istore_n 2, 1) := by decide +kernel
theorem dX0_remove_2 : decode cX0_remove 2 = .ok (.iload_n 2, 1) := by decide +kernel
theorem dX0_remove_3 : decode cX0_remove 3 = .ok (.iconst 1, 1) := by decide +kernel
theorem dX0_remove_4 : decode cX0_remove 4 = .ok (.iadd, 1) := by decide +kernel
theorem dX0_remove_5 : decode cX0_remove 5 = .ok (.aload_n 0, 1) := by decide +kernel
theorem dX0_remove_6 : decode cX0_remove 6 = .ok (.getfield 21, 3) := by decide +kernel
theorem dX0_remove_9 : decode cX0_remove 9 = .ok (.if_icmp .ge 51, 3) := by decide +kernel
theorem dX0_remove_12 : decode cX0_remove 12 = .ok (.aload_n 0, 1) := by decide +kernel
theorem dX0_remove_13 : decode cX0_remove 13 = .ok (.getfield 9, 3) := by decide +kernel
theorem dX0_remove_16 : decode cX0_remove 16 = .ok (.iload_n 2, 1) := by decide +kernel
theorem dX0_remove_17 : decode cX0_remove 17 = .ok (.aload_n 0, 1) := by decide +kernel
theorem dX0_remove_18 : decode cX0_remove 18 = .ok (.getfield 9, 3) := by decide +kernel
theorem dX0_remove_21 : decode cX0_remove 21 = .ok (.iload_n 2, 1) := by decide +kernel
theorem dX0_remove_22 : decode cX0_remove 22 = .ok (.iconst 1, 1) := by decide +kernel
theorem dX0_remove_23 : decode cX0_remove 23 = .ok (.iadd, 1) := by decide +kernel
theorem dX0_remove_24 : decode cX0_remove 24 = .ok (.iaload, 1) := by decide +kernel
theorem dX0_remove_25 : decode cX0_remove 25 = .ok (.iastore, 1) := by decide +kernel
theorem dX0_remove_26 : decode cX0_remove 26 = .ok (.aload_n 0, 1) := by decide +kernel
theorem dX0_remove_27 : decode cX0_remove 27 = .ok (.getfield 15, 3) := by decide +kernel
theorem dX0_remove_30 : decode cX0_remove 30 = .ok (.iload_n 2, 1) := by decide +kernel
theorem dX0_remove_31 : decode cX0_remove 31 = .ok (.aload_n 0, 1) := by decide +kernel
theorem dX0_remove_32 : decode cX0_remove 32 = .ok (.getfield 15, 3) := by decide +kernel
theorem dX0_remove_35 : decode cX0_remove 35 = .ok (.iload_n 2, 1) := by decide +kernel
theorem dX0_remove_36 : decode cX0_remove 36 = .ok (.iconst 1, 1) := by decide +kernel
theorem dX0_remove_37 : decode cX0_remove 37 = .ok (.iadd, 1) := by decide +kernel
theorem dX0_remove_38 : decode cX0_remove 38 = .ok (.iaload, 1) := by decide +kernel
theorem dX0_remove_39 : decode cX0_remove 39 = .ok (.iastore, 1) := by decide +kernel
theorem dX0_remove_40 : decode cX0_remove 40 = .ok (.aload_n 0, 1) := by decide +kernel
theorem dX0_remove_41 : decode cX0_remove 41 = .ok (.getfield 18, 3) := by decide +kernel
theorem dX0_remove_44 : decode cX0_remove 44 = .ok (.iload_n 2, 1) := by decide +kernel
theorem dX0_remove_45 : decode cX0_remove 45 = .ok (.aload_n 0, 1) := by decide +kernel
theorem dX0_remove_46 : decode cX0_remove 46 = .ok (.getfield 18, 3) := by decide +kernel
theorem dX0_remove_49 : decode cX0_remove 49 = .ok (.iload_n 2, 1) := by decide +kernel
theorem dX0_remove_50 : decode cX0_remove 50 = .ok (.iconst 1, 1) := by decide +kernel
theorem dX0_remove_51 : decode cX0_remove 51 = .ok (.iadd, 1) := by decide +kernel
theorem dX0_remove_52 : decode cX0_remove 52 = .ok (.iaload, 1) := by decide +kernel
theorem dX0_remove_53 : decode cX0_remove 53 = .ok (.iastore, 1) := by decide +kernel
theorem dX0_remove_54 : decode cX0_remove 54 = .ok (.iinc 2 1, 3) := by decide +kernel
theorem dX0_remove_57 : decode cX0_remove 57 = .ok (.goto (-55), 3) := by decide +kernel
theorem dX0_remove_60 : decode cX0_remove 60 = .ok (.aload_n 0, 1) := by decide +kernel
theorem dX0_remove_61 : decode cX0_remove 61 = .ok (.dup, 1) := by decide +kernel
theorem dX0_remove_62 : decode cX0_remove 62 = .ok (.getfield 21, 3) := by decide +kernel
theorem dX0_remove_65 : decode cX0_remove 65 = .ok (.iconst 1, 1) := by decide +kernel
theorem dX0_remove_66 : decode cX0_remove 66 = .ok (.isub, 1) := by decide +kernel
theorem dX0_remove_67 : decode cX0_remove 67 = .ok (.putfield 21, 3) := by decide +kernel
theorem dX0_remove_70 : decode cX0_remove 70 = .ok (.iconst 1, 1) := by decide +kernel
theorem dX0_remove_71 : decode cX0_remove 71 = .ok (.iload_n 1, 1) := by decide +kernel
theorem dX0_remove_72 : decode cX0_remove 72 = .ok (.ishl, 1) := by decide +kernel
theorem dX0_remove_73 : decode cX0_remove 73 = .ok (.iconst 1, 1) := by decide +kernel
theorem dX0_remove_74 : decode cX0_remove 74 = .ok (.isub, 1) := by decide +kernel
theorem dX0_remove_75 : decode cX0_remove 75 = .ok (.istore_n 2, 1) := by decide +kernel
theorem dX0_remove_76 : decode cX0_remove 76 = .ok (.iconst 0, 1) := by decide +kernel
theorem dX0_remove_77 : decode cX0_remove 77 = .ok (.istore_n 3, 1) := by decide +kernel
theorem dX0_remove_78 : decode cX0_remove 78 = .ok (.iload_n 3, 1) := by decide +kernel
theorem dX0_remove_79 : decode cX0_remove 79 = .ok (.aload_n 0, 1) := by decide +kernel
theorem dX0_remove_80 : decode cX0_remove 80 = .ok (.getfield 21, 3) := by decide +kernel
theorem dX0_remove_83 : decode cX0_remove 83 = .ok (.if_icmp .ge 36, 3) := by decide +kernel
theorem dX0_remove_86 : decode cX0_remove 86 = .ok (.aload_n 0, 1) := by decide +kernel
theorem dX0_remove_87 : decode cX0_remove 87 = .ok (.getfield 18, 3) := by decide +kernel
theorem dX0_remove_90 : decode cX0_remove 90 = .ok (.iload_n 3, 1) := by decide +kernel
theorem dX0_remove_91 : decode cX0_remove 91 = .ok (.aload_n 0, 1) := by decide +kernel
theorem dX0_remove_92 : decode cX0_remove 92 = .ok (.getfield 18, 3) := by decide +kernel
theorem dX0_remove_95 : decode cX0_remove 95 = .ok (.iload_n 3, 1) := by decide +kernel
theorem dX0_remove_96 : decode cX0_remove 96 = .ok (.iaload, 1) := by decide +kernel
theorem dX0_remove_97 : decode cX0_remove 97 = .ok (.iload_n 2, 1) := by decide +kernel
theorem dX0_remove_98 : decode cX0_remove 98 = .ok (.iand, 1) := by decide +kernel
theorem dX0_remove_99 : decode cX0_remove 99 = .ok (.aload_n 0, 1) := by decide +kernel
theorem dX0_remove_100 : decode cX0_remove 100 = .ok (.getfield 18, 3) := by decide +kernel
theorem dX0_remove_103 : decode cX0_remove 103 = .ok (.iload_n 3, 1) := by decide +kernel
theorem dX0_remove_104 : decode cX0_remove 104 = .ok (.iaload, 1) := by decide +kernel
theorem dX0_remove_105 : decode cX0_remove 105 = .ok (.iconst 1, 1) := by decide +kernel
theorem dX0_remove_106 : decode cX0_remove 106 = .ok (.ishr, 1) := by decide +kernel
theorem dX0_remove_107 : decode cX0_remove 107 = .ok (.iload_n 2, 1) := by decide +kernel
theorem dX0_remove_108 : decode cX0_remove 108 = .ok (.iconst (-1), 1) := by decide +kernel
theorem dX0_remove_109 : decode cX0_remove 109 = .ok (.ixor, 1) := by decide +kernel
theorem dX0_remove_110 : decode cX0_remove 110 = .ok (.iand, 1) := by decide +kernel
theorem dX0_remove_111 : decode cX0_remove 111 = .ok (.ior, 1) := by decide +kernel
theorem dX0_remove_112 : decode cX0_remove 112 = .ok (.iastore, 1) := by decide +kernel
theorem dX0_remove_113 : decode cX0_remove 113 = .ok (.iinc 3 1, 3) := by decide +kernel
theorem dX0_remove_116 : decode cX0_remove 116 = .ok (.goto (-38), 3) := by decide +kernel
theorem dX0_remove_119 : decode cX0_remove 119 = .ok (.return_, 1) := by decide +kernel
theorem dX0_copyFrom_0 : decode cX0_copyFrom 0 = .ok (.aload_n 0, 1) := by decide +kernel
theorem dX0_copyFrom_1 : decode cX0_copyFrom 1 = .ok (.aload_n 1, 1) := by decide +kernel
theorem dX0_copyFrom_2 : decode cX0_copyFrom 2 = .ok (.getfield 21, 3) := by decide +kernel
theorem dX0_copyFrom_5 : decode cX0_copyFrom 5 = .ok (.putfield 21, 3) := by decide +kernel
theorem dX0_copyFrom_8 : decode cX0_copyFrom 8 = .ok (.iconst 0, 1) := by decide +kernel
theorem dX0_copyFrom_9 : decode cX0_copyFrom 9 = .ok (.istore_n 2, 1) := by decide +kernel
theorem dX0_copyFrom_10 : decode cX0_copyFrom 10 = .ok (.iload_n 2, 1) := by decide +kernel
theorem dX0_copyFrom_11 : decode cX0_copyFrom 11 = .ok (.aload_n 0, 1) := by decide +kernel
theorem dX0_copyFrom_12 : decode cX0_copyFrom 12 = .ok (.getfield 21, 3) := by decide +kernel
theorem dX0_copyFrom_15 : decode cX0_copyFrom 15 = .ok (.if_icmp .ge 45, 3) := by decide +kernel
theorem dX0_copyFrom_18 : decode cX0_copyFrom 18 = .ok (.aload_n 0, 1) := by decide +kernel
theorem dX0_copyFrom_19 : decode cX0_copyFrom 19 = .ok (.getfield 9, 3) := by decide +kernel
theorem dX0_copyFrom_22 : decode cX0_copyFrom 22 = .ok (.iload_n 2, 1) := by decide +kernel
theorem dX0_copyFrom_23 : decode cX0_copyFrom 23 = .ok (.aload_n 1, 1) := by decide +kernel
theorem dX0_copyFrom_24 : decode cX0_copyFrom 24 = .ok (.getfield 9, 3) := by decide +kernel
theorem dX0_copyFrom_27 : decode cX0_copyFrom 27 = .ok (.iload_n 2, 1) := by decide +kernel
theorem dX0_copyFrom_28 : decode cX0_copyFrom 28 = .ok (.iaload, 1) := by decide +kernel
theorem dX0_copyFrom_29 : decode cX0_copyFrom 29 = .ok (.iastore, 1) := by decide +kernel
theorem dX0_copyFrom_30 : decode cX0_copyFrom 30 = .ok (.aload_n 0, 1) := by decide +kernel
theorem dX0_copyFrom_31 : decode cX0_copyFrom 31 = .ok (.getfield 15, 3) := by decide +kernel
theorem dX0_copyFrom_34 : decode cX0_copyFrom 34 = .ok (.iload_n 2, 1) := by decide +kernel
theorem dX0_copyFrom_35 : decode cX0_copyFrom 35 = .ok (.aload_n 1, 1) := by decide +kernel
theorem dX0_copyFrom_36 : decode cX0_copyFrom 36 = .ok (.getfield 15, 3) := by decide +kernel
theorem dX0_copyFrom_39 : decode cX0_copyFrom 39 = .ok (.iload_n 2, 1) := by decide +kernel
theorem dX0_copyFrom_40 : decode cX0_copyFrom 40 = .ok (.iaload, 1) := by decide +kernel
theorem dX0_copyFrom_41 : decode cX0_copyFrom 41 = .ok (.iastore, 1) := by decide +kernel
theorem dX0_copyFrom_42 : decode cX0_copyFrom 42 = .ok (.aload_n 0, 1) := by decide +kernel
theorem dX0_copyFrom_43 : decode cX0_copyFrom 43 = .ok (.getfield 18, 3) := by decide +kernel
theorem dX0_copyFrom_46 : decode cX0_copyFrom 46 = .ok (.iload_n 2, 1) := by decide +kernel
theorem dX0_copyFrom_47 : decode cX0_copyFrom 47 = .ok (.aload_n 1, 1) := by decide +kernel
theorem dX0_copyFrom_48 : decode cX0_copyFrom 48 = .ok (.getfield 18, 3) := by decide +kernel
theorem dX0_copyFrom_51 : decode cX0_copyFrom 51 = .ok (.iload_n 2, 1) := by decide +kernel
theorem dX0_copyFrom_52 : decode cX0_copyFrom 52 = .ok (.iaload, 1) := by decide +kernel
theorem dX0_copyFrom_53 : decode cX0_copyFrom 53 = .ok (.iastore, 1) := by decide +kernel
theorem dX0_copyFrom_54 : decode cX0_copyFrom 54 = .ok (.iinc 2 1, 3) := by decide +kernel
theorem dX0_copyFrom_57 : decode cX0_copyFrom 57 = .ok (.goto (-47), 3) := by decide +kernel
theorem dX0_copyFrom_60 : decode cX0_copyFrom 60 = .ok (.return_, 1) := by decide +kernel
theorem dX1_winsOf0_0 : decode cX1_winsOf0 0 = .ok (.aload_n 0, 1) := by decide +kernel
theorem dX1_winsOf0_1 : decode cX1_winsOf0 1 = .ok (.invokevirtual 9, 3) := by decide +kernel
theorem dX1_winsOf0_4 : decode cX1_winsOf0 4 = .ok (.istore_n 1, 1) := by decide +kernel
theorem dX1_winsOf0_5 : decode cX1_winsOf0 5 = .ok (.aload_n 0, 1) := by decide +kernel
theorem dX1_winsOf0_6 : decode cX1_winsOf0 6 = .ok (.iconst 0, 1) := by decide +kernel
theorem dX1_winsOf0_7 : decode cX1_winsOf0 7 = .ok (.aload_n 0, 1) := by decide +kernel
theorem dX1_winsOf0_8 : decode cX1_winsOf0 8 = .ok (.iconst 1, 1) := by decide +kernel
theorem dX1_winsOf0_9 : decode cX1_winsOf0 9 = .ok (.invokevirtual 15, 3) := by decide +kernel
theorem dX1_winsOf0_12 : decode cX1_winsOf0 12 = .ok (.iload_n 1, 1) := by decide +kernel
theorem dX1_winsOf0_13 : decode cX1_winsOf0 13 = .ok (.invokestatic 19, 3) := by decide +kernel
theorem dX1_winsOf0_16 : decode cX1_winsOf0 16 = .ok (.istore_n 2, 1) := by decide +kernel
theorem dX1_winsOf0_17 : decode cX1_winsOf0 17 = .ok (.aload_n 0, 1) := by decide +kernel
theorem dX1_winsOf0_18 : decode cX1_winsOf0 18 = .ok (.iconst 1, 1) := by decide +kernel
theorem dX1_winsOf0_19 : decode cX1_winsOf0 19 = .ok (.aload_n 0, 1) := by decide +kernel
theorem dX1_winsOf0_20 : decode cX1_winsOf0 20 = .ok (.iconst 0, 1) := by decide +kernel
theorem dX1_winsOf0_21 : decode cX1_winsOf0 21 = .ok (.invokevirtual 15, 3) := by decide +kernel
theorem dX1_winsOf0_24 : decode cX1_winsOf0 24 = .ok (.iload_n 1, 1) := by decide +kernel
theorem dX1_winsOf0_25 : decode cX1_winsOf0 25 = .ok (.invokestatic 19, 3) := by decide +kernel
theorem dX1_winsOf0_28 : decode cX1_winsOf0 28 = .ok (.istore_n 3, 1) := by decide +kernel
theorem dX1_winsOf0_29 : decode cX1_winsOf0 29 = .ok (.iload_n 2, 1) := by decide +kernel
theorem dX1_winsOf0_30 : decode cX1_winsOf0 30 = .ok (.aload_n 0, 1) := by decide +kernel
theorem dX1_winsOf0_31 : decode cX1_winsOf0 31 = .ok (.iconst 0, 1) := by decide +kernel
theorem dX1_winsOf0_32 : decode cX1_winsOf0 32 = .ok (.iload_n 1, 1) := by decide +kernel
theorem dX1_winsOf0_33 : decode cX1_winsOf0 33 = .ok (.iload_n 2, 1) := by decide +kernel
theorem dX1_winsOf0_34 : decode cX1_winsOf0 34 = .ok (.iconst (-1), 1) := by decide +kernel
theorem dX1_winsOf0_35 : decode cX1_winsOf0 35 = .ok (.ixor, 1) := by decide +kernel
theorem dX1_winsOf0_36 : decode cX1_winsOf0 36 = .ok (.iand, 1) := by decide +kernel
theorem dX1_winsOf0_37 : decode cX1_winsOf0 37 = .ok (.iload_n 3, 1) := by decide +kernel
theorem dX1_winsOf0_38 : decode cX1_winsOf0 38 = .ok (.iconst (-1), 1) := by decide +kernel
theorem dX1_winsOf0_39 : decode cX1_winsOf0 39 = .ok (.ixor, 1) := by decide +kernel
theorem dX1_winsOf0_40 : decode cX1_winsOf0 40 = .ok (.iand, 1) := by decide +kernel
theorem dX1_winsOf0_41 : decode cX1_winsOf0 41 = .ok (.iconst 5, 1) := by decide +kernel
theorem dX1_winsOf0_42 : decode cX1_winsOf0 42 = .ok (.invokestatic 25, 3) := by decide +kernel
theorem dX1_winsOf0_45 : decode cX1_winsOf0 45 = .ok (.ior, 1) := by decide +kernel
theorem dX1_winsOf0_46 : decode cX1_winsOf0 46 = .ok (.ireturn, 1) := by decide +kernel
theorem dX1_winsWithin_0 : decode cX1_winsWithin 0 = .ok (.iload_n 2, 1) := by decide +kernel
theorem dX1_winsWithin_1 : decode cX1_winsWithin 1 = .ok (.ifCond .eq 7, 3) := by decide +kernel
theorem dX1_winsWithin_4 : decode cX1_winsWithin 4 = .ok (.iload_n 3, 1) := by decide +kernel
theorem dX1_winsWithin_5 : decode cX1_winsWithin 5 = .ok (.ifCond .ge 5, 3) := by decide +kernel
theorem dX1_winsWithin_8 : decode cX1_winsWithin 8 = .ok (.iconst 0, 1) := by decide +kernel
theorem dX1_winsWithin_9 : decode cX1_winsWithin 9 = .ok (.ireturn, 1) := by decide +kernel
theorem dX1_winsWithin_10 : decode cX1_winsWithin 10 = .ok (.aload_n 0, 1) := by decide +kernel
theorem dX1_winsWithin_11 : decode cX1_winsWithin 11 = .ok (.iload_n 3, 1) := by decide +kernel
theorem dX1_winsWithin_12 : decode cX1_winsWithin 12 = .ok (.invokevirtual 28, 3) := by decide +kernel
theorem dX1_winsWithin_15 : decode cX1_winsWithin 15 = .ok (.istore 4, 2) := by decide +kernel
theorem dX1_winsWithin_17 : decode cX1_winsWithin 17 = .ok (.iload_n 3, 1) := by decide +kernel
theorem dX1_winsWithin_18 : decode cX1_winsWithin 18 = .ok (.iconst 2, 1) := by decide +kernel
theorem dX1_winsWithin_19 : decode cX1_winsWithin 19 = .ok (.irem, 1) := by decide +kernel
theorem dX1_winsWithin_20 : decode cX1_winsWithin 20 = .ok (.istore 5, 2) := by decide +kernel
theorem dX1_winsWithin_22 : decode cX1_winsWithin 22 = .ok (.iconst 1, 1) := by decide +kernel
theorem dX1_winsWithin_23 : decode cX1_winsWithin 23 = .ok (.iload 5, 2) := by decide +kernel
theorem dX1_winsWithin_25 : decode cX1_winsWithin 25 = .ok (.isub, 1) := by decide +kernel
theorem dX1_winsWithin_26 : decode cX1_winsWithin 26 = .ok (.istore 6, 2) := by decide +kernel
theorem dX1_winsWithin_28 : decode cX1_winsWithin 28 = .ok (.iload_n 2, 1) := by decide +kernel
theorem dX1_winsWithin_29 : decode cX1_winsWithin 29 = .ok (.istore 7, 2) := by decide +kernel
theorem dX1_winsWithin_31 : decode cX1_winsWithin 31 = .ok (.iconst 0, 1) := by decide +kernel
theorem dX1_winsWithin_32 : decode cX1_winsWithin 32 = .ok (.istore 8, 2) := by decide +kernel
theorem dX1_winsWithin_34 : decode cX1_winsWithin 34 = .ok (.iload 8, 2) := by decide +kernel
theorem dX1_winsWithin_36 : decode cX1_winsWithin 36 = .ok (.bipush 12, 2) := by decide +kernel
theorem dX1_winsWithin_38 : decode cX1_winsWithin 38 = .ok (.if_icmp .gt 91, 3) := by decide +kernel
theorem dX1_winsWithin_41 : decode cX1_winsWithin 41 = .ok (.iload 7, 2) := by decide +kernel
theorem dX1_winsWithin_43 : decode cX1_winsWithin 43 = .ok (.iload 4, 2) := by decide +kernel
theorem dX1_winsWithin_45 : decode cX1_winsWithin 45 = .ok (.iand, 1) := by decide +kernel
theorem dX1_winsWithin_46 : decode cX1_winsWithin 46 = .ok (.ifCond .ne 19, 3) := by decide +kernel
theorem dX1_winsWithin_49 : decode cX1_winsWithin 49 = .ok (.aload_n 0, 1) := by decide +kernel
theorem dX1_winsWithin_50 : decode cX1_winsWithin 50 = .ok (.iload 5, 2) := by decide +kernel
theorem dX1_winsWithin_52 : decode cX1_winsWithin 52 = .ok (.iload 7, 2) := by decide +kernel
theorem dX1_winsWithin_54 : decode cX1_winsWithin 54 = .ok (.iload_n 3, 1) := by decide +kernel
theorem dX1_winsWithin_55 : decode cX1_winsWithin 55 = .ok (.iconst 1, 1) := by decide +kernel
theorem dX1_winsWithin_56 : decode cX1_winsWithin 56 = .ok (.isub, 1) := by decide +kernel
theorem dX1_winsWithin_57 : decode cX1_winsWithin 57 = .ok (.invokestatic 25, 3) := by decide +kernel
theorem dX1_winsWithin_60 : decode cX1_winsWithin 60 = .ok (.istore 7, 2) := by decide +kernel
theorem dX1_winsWithin_62 : decode cX1_winsWithin 62 = .ok (.goto 67, 3) := by decide +kernel
theorem dX1_winsWithin_65 : decode cX1_winsWithin 65 = .ok (.iload 7, 2) := by decide +kernel
theorem dX1_winsWithin_67 : decode cX1_winsWithin 67 = .ok (.aload_n 0, 1) := by decide +kernel
theorem dX1_winsWithin_68 : decode cX1_winsWithin 68 = .ok (.iload 5, 2) := by decide +kernel
theorem dX1_winsWithin_70 : decode cX1_winsWithin 70 = .ok (.iload 7, 2) := by decide +kernel
theorem dX1_winsWithin_72 : decode cX1_winsWithin 72 = .ok (.iload 4, 2) := by decide +kernel
theorem dX1_winsWithin_74 : decode cX1_winsWithin 74 = .ok (.iand, 1) := by decide +kernel
theorem dX1_winsWithin_75 : decode cX1_winsWithin 75 = .ok (.iload 7, 2) := by decide +kernel
theorem dX1_winsWithin_77 : decode cX1_winsWithin 77 = .ok (.invokestatic 19, 3) := by decide +kernel
theorem dX1_winsWithin_80 : decode cX1_winsWithin 80 = .ok (.iconst (-1), 1) := by decide +kernel
theorem dX1_winsWithin_81 : decode cX1_winsWithin 81 = .ok (.ixor, 1) := by decide +kernel
theorem dX1_winsWithin_82 : decode cX1_winsWithin 82 = .ok (.iand, 1) := by decide +kernel
theorem dX1_winsWithin_83 : decode cX1_winsWithin 83 = .ok (.istore 9, 2) := by decide +kernel
theorem dX1_winsWithin_85 : decode cX1_winsWithin 85 = .ok (.aload_n 0, 1) := by decide +kernel
theorem dX1_winsWithin_86 : decode cX1_winsWithin 86 = .ok (.iload 6, 2) := by decide +kernel
theorem dX1_winsWithin_88 : decode cX1_winsWithin 88 = .ok (.iload 9, 2) := by decide +kernel
theorem dX1_winsWithin_90 : decode cX1_winsWithin 90 = .ok (.iload_n 3, 1) := by decide +kernel
theorem dX1_winsWithin_91 : decode cX1_winsWithin 91 = .ok (.iconst 1, 1) := by decide +kernel
theorem dX1_winsWithin_92 : decode cX1_winsWithin 92 = .ok (.isub, 1) := by decide +kernel
theorem dX1_winsWithin_93 : decode cX1_winsWithin 93 = .ok (.invokestatic 25, 3) := by decide +kernel
theorem dX1_winsWithin_96 : decode cX1_winsWithin 96 = .ok (.istore 10, 2) := by decide +kernel
theorem dX1_winsWithin_98 : decode cX1_winsWithin 98 = .ok (.iload 10, 2) := by decide +kernel
theorem dX1_winsWithin_100 : decode cX1_winsWithin 100 = .ok (.ifCond .ne 6, 3) := by decide +kernel
theorem dX1_winsWithin_103 : decode cX1_winsWithin 103 = .ok (.goto 26, 3) := by decide +kernel
theorem dX1_winsWithin_106 : decode cX1_winsWithin 106 = .ok (.iload 7, 2) := by decide +kernel
theorem dX1_winsWithin_108 : decode cX1_winsWithin 108 = .ok (.aload_n 0, 1) := by decide +kernel
theorem dX1_winsWithin_109 : decode cX1_winsWithin 109 = .ok (.iload 6, 2) := by decide +kernel
theorem dX1_winsWithin_111 : decode cX1_winsWithin 111 = .ok (.iload 10, 2) := by decide +kernel
theorem dX1_winsWithin_113 : decode cX1_winsWithin 113 = .ok (.iload 7, 2) := by decide +kernel
theorem dX1_winsWithin_115 : decode cX1_winsWithin 115 = .ok (.invokestatic 19, 3) := by decide +kernel
theorem dX1_winsWithin_118 : decode cX1_winsWithin 118 = .ok (.iconst (-1), 1) := by decide +kernel
theorem dX1_winsWithin_119 : decode cX1_winsWithin 119 = .ok (.ixor, 1) := by decide +kernel
theorem dX1_winsWithin_120 : decode cX1_winsWithin 120 = .ok (.iand, 1) := by decide +kernel
theorem dX1_winsWithin_121 : decode cX1_winsWithin 121 = .ok (.istore 7, 2) := by decide +kernel
theorem dX1_winsWithin_123 : decode cX1_winsWithin 123 = .ok (.iinc 8 1, 3) := by decide +kernel
theorem dX1_winsWithin_126 : decode cX1_winsWithin 126 = .ok (.goto (-92), 3) := by decide +kernel
theorem dX1_winsWithin_129 : decode cX1_winsWithin 129 = .ok (.iload_n 1, 1) := by decide +kernel
theorem dX1_winsWithin_130 : decode cX1_winsWithin 130 = .ok (.iload 5, 2) := by decide +kernel
theorem dX1_winsWithin_132 : decode cX1_winsWithin 132 = .ok (.if_icmp .ne 8, 3) := by decide +kernel
theorem dX1_winsWithin_135 : decode cX1_winsWithin 135 = .ok (.iload 7, 2) := by decide +kernel
theorem dX1_winsWithin_137 : decode cX1_winsWithin 137 = .ok (.goto 9, 3) := by decide +kernel
theorem dX1_winsWithin_140 : decode cX1_winsWithin 140 = .ok (.iload_n 2, 1) := by decide +kernel
theorem dX1_winsWithin_141 : decode cX1_winsWithin 141 = .ok (.iload 7, 2) := by decide +kernel
theorem dX1_winsWithin_143 : decode cX1_winsWithin 143 = .ok (.iconst (-1), 1) := by decide +kernel
theorem dX1_winsWithin_144 : decode cX1_winsWithin 144 = .ok (.ixor, 1) := by decide +kernel
theorem dX1_winsWithin_145 : decode cX1_winsWithin 145 = .ok (.iand, 1) := by decide +kernel
theorem dX1_winsWithin_146 : decode cX1_winsWithin 146 = .ok (.ireturn, 1) := by decide +kernel
theorem dX1_pull_0 : decode cX1_pull 0 = .ok (.iload_n 2, 1) := by decide +kernel
theorem dX1_pull_1 : decode cX1_pull 1 = .ok (.istore 4, 2) := by decide +kernel
theorem dX1_pull_3 : decode cX1_pull 3 = .ok (.iconst 0, 1) := by decide +kernel
theorem dX1_pull_4 : decode cX1_pull 4 = .ok (.istore 5, 2) := by decide +kernel
theorem dX1_pull_6 : decode cX1_pull 6 = .ok (.iload 5, 2) := by decide +kernel
theorem dX1_pull_8 : decode cX1_pull 8 = .ok (.bipush 12, 2) := by decide +kernel
theorem dX1_pull_10 : decode cX1_pull 10 = .ok (.if_icmp .ge 33, 3) := by decide +kernel
theorem dX1_pull_13 : decode cX1_pull 13 = .ok (.aload_n 0, 1) := by decide +kernel
theorem dX1_pull_14 : decode cX1_pull 14 = .ok (.iload_n 1, 1) := by decide +kernel
theorem dX1_pull_15 : decode cX1_pull 15 = .ok (.iload 4, 2) := by decide +kernel
theorem dX1_pull_17 : decode cX1_pull 17 = .ok (.iload_n 3, 1) := by decide +kernel
theorem dX1_pull_18 : decode cX1_pull 18 = .ok (.invokestatic 31, 3) := by decide +kernel
theorem dX1_pull_21 : decode cX1_pull 21 = .ok (.istore 6, 2) := by decide +kernel
theorem dX1_pull_23 : decode cX1_pull 23 = .ok (.iload 6, 2) := by decide +kernel
theorem dX1_pull_25 : decode cX1_pull 25 = .ok (.iload 4, 2) := by decide +kernel
theorem dX1_pull_27 : decode cX1_pull 27 = .ok (.if_icmp .ne 6, 3) := by decide +kernel
theorem dX1_pull_30 : decode cX1_pull 30 = .ok (.goto 13, 3) := by decide +kernel
theorem dX1_pull_33 : decode cX1_pull 33 = .ok (.iload 6, 2) := by decide +kernel
theorem dX1_pull_35 : decode cX1_pull 35 = .ok (.istore 4, 2) := by decide +kernel
theorem dX1_pull_37 : decode cX1_pull 37 = .ok (.iinc 5 1, 3) := by decide +kernel
theorem dX1_pull_40 : decode cX1_pull 40 = .ok (.goto (-34), 3) := by decide +kernel
theorem dX1_pull_43 : decode cX1_pull 43 = .ok (.iload 4, 2) := by decide +kernel
theorem dX1_pull_45 : decode cX1_pull 45 = .ok (.ireturn, 1) := by decide +kernel
theorem dX1_pullOnce_0 : decode cX1_pullOnce 0 = .ok (.iload_n 2, 1) := by decide +kernel
theorem dX1_pullOnce_1 : decode cX1_pullOnce 1 = .ok (.istore 4, 2) := by decide +kernel
theorem dX1_pullOnce_3 : decode cX1_pullOnce 3 = .ok (.iconst 0, 1) := by decide +kernel
theorem dX1_pullOnce_4 : decode cX1_pullOnce 4 = .ok (.istore 5, 2) := by decide +kernel
theorem dX1_pullOnce_6 : decode cX1_pullOnce 6 = .ok (.iload 5, 2) := by decide +kernel
theorem dX1_pullOnce_8 : decode cX1_pullOnce 8 = .ok (.aload_n 0, 1) := by decide +kernel
theorem dX1_pullOnce_9 : decode cX1_pullOnce 9 = .ok (.getfield 34, 3) := by decide +kernel
theorem dX1_pullOnce_12 : decode cX1_pullOnce 12 = .ok (.if_icmp .ge 71, 3) := by decide +kernel
theorem dX1_pullOnce_15 : decode cX1_pullOnce 15 = .ok (.iload_n 3, 1) := by decide +kernel
theorem dX1_pullOnce_16 : decode cX1_pullOnce 16 = .ok (.iload_n 2, 1) := by decide +kernel
theorem dX1_pullOnce_17 : decode cX1_pullOnce 17 = .ok (.iconst (-1), 1) := by decide +kernel
theorem dX1_pullOnce_18 : decode cX1_pullOnce 18 = .ok (.ixor, 1) := by decide +kernel
theorem dX1_pullOnce_19 : decode cX1_pullOnce 19 = .ok (.iand, 1) := by decide +kernel
theorem dX1_pullOnce_20 : decode cX1_pullOnce 20 = .ok (.iload 5, 2) := by decide +kernel
theorem dX1_pullOnce_22 : decode cX1_pullOnce 22 = .ok (.invokestatic 38, 3) := by decide +kernel
theorem dX1_pullOnce_25 : decode cX1_pullOnce 25 = .ok (.ifCond .eq 52, 3) := by decide +kernel
theorem dX1_pullOnce_28 : decode cX1_pullOnce 28 = .ok (.aload_n 0, 1) := by decide +kernel
theorem dX1_pullOnce_29 : decode cX1_pullOnce 29 = .ok (.getfield 42, 3) := by decide +kernel
theorem dX1_pullOnce_32 : decode cX1_pullOnce 32 = .ok (.iload 5, 2) := by decide +kernel
theorem dX1_pullOnce_34 : decode cX1_pullOnce 34 = .ok (.iaload, 1) := by decide +kernel
theorem dX1_pullOnce_35 : decode cX1_pullOnce 35 = .ok (.iload_n 3, 1) := by decide +kernel
theorem dX1_pullOnce_36 : decode cX1_pullOnce 36 = .ok (.iand, 1) := by decide +kernel
theorem dX1_pullOnce_37 : decode cX1_pullOnce 37 = .ok (.istore 6, 2) := by decide +kernel
theorem dX1_pullOnce_39 : decode cX1_pullOnce 39 = .ok (.iload 6, 2) := by decide +kernel
theorem dX1_pullOnce_41 : decode cX1_pullOnce 41 = .ok (.iload_n 2, 1) := by decide +kernel
theorem dX1_pullOnce_42 : decode cX1_pullOnce 42 = .ok (.iand, 1) := by decide +kernel
theorem dX1_pullOnce_43 : decode cX1_pullOnce 43 = .ok (.istore 7, 2) := by decide +kernel
theorem dX1_pullOnce_45 : decode cX1_pullOnce 45 = .ok (.iload 7, 2) := by decide +kernel
theorem dX1_pullOnce_47 : decode cX1_pullOnce 47 = .ok (.ifCond .eq 30, 3) := by decide +kernel
theorem dX1_pullOnce_50 : decode cX1_pullOnce 50 = .ok (.aload_n 0, 1) := by decide +kernel
theorem dX1_pullOnce_51 : decode cX1_pullOnce 51 = .ok (.getfield 46, 3) := by decide +kernel
theorem dX1_pullOnce_54 : decode cX1_pullOnce 54 = .ok (.iload 5, 2) := by decide +kernel
theorem dX1_pullOnce_56 : decode cX1_pullOnce 56 = .ok (.iaload, 1) := by decide +kernel
theorem dX1_pullOnce_57 : decode cX1_pullOnce 57 = .ok (.iload_n 1, 1) := by decide +kernel
theorem dX1_pullOnce_58 : decode cX1_pullOnce 58 = .ok (.if_icmp .eq 10, 3) := by decide +kernel
theorem dX1_pullOnce_61 : decode cX1_pullOnce 61 = .ok (.iload 7, 2) := by decide +kernel
theorem dX1_pullOnce_63 : decode cX1_pullOnce 63 = .ok (.iload 6, 2) := by decide +kernel
theorem dX1_pullOnce_65 : decode cX1_pullOnce 65 = .ok (.if_icmp .ne 12, 3) := by decide +kernel
theorem dX1_pullOnce_68 : decode cX1_pullOnce 68 = .ok (.iload 4, 2) := by decide +kernel
theorem dX1_pullOnce_70 : decode cX1_pullOnce 70 = .ok (.iconst 1, 1) := by decide +kernel
theorem dX1_pullOnce_71 : decode cX1_pullOnce 71 = .ok (.iload 5, 2) := by decide +kernel
theorem dX1_pullOnce_73 : decode cX1_pullOnce 73 = .ok (.ishl, 1) := by decide +kernel
theorem dX1_pullOnce_74 : decode cX1_pullOnce 74 = .ok (.ior, 1) := by decide +kernel
theorem dX1_pullOnce_75 : decode cX1_pullOnce 75 = .ok (.istore 4, 2) := by decide +kernel
theorem dX1_pullOnce_77 : decode cX1_pullOnce 77 = .ok (.iinc 5 1, 3) := by decide +kernel
theorem dX1_pullOnce_80 : decode cX1_pullOnce 80 = .ok (.goto (-74), 3) := by decide +kernel
theorem dX1_pullOnce_83 : decode cX1_pullOnce 83 = .ok (.iload 4, 2) := by decide +kernel
theorem dX1_pullOnce_85 : decode cX1_pullOnce 85 = .ok (.ireturn, 1) := by decide +kernel
theorem dX1_held_0 : decode cX1_held 0 = .ok (.iconst 0, 1) := by decide +kernel
theorem dX1_held_1 : decode cX1_held 1 = .ok (.istore_n 3, 1) := by decide +kernel
theorem dX1_held_2 : decode cX1_held 2 = .ok (.iconst 0, 1) := by decide +kernel
theorem dX1_held_3 : decode cX1_held 3 = .ok (.istore 4, 2) := by decide +kernel
theorem dX1_held_5 : decode cX1_held 5 = .ok (.iload 4, 2) := by decide +kernel
theorem dX1_held_7 : decode cX1_held 7 = .ok (.aload_n 0, 1) := by decide +kernel
theorem dX1_held_8 : decode cX1_held 8 = .ok (.getfield 34, 3) := by decide +kernel
theorem dX1_held_11 : decode cX1_held 11 = .ok (.if_icmp .ge 63, 3) := by decide +kernel
theorem dX1_held_14 : decode cX1_held 14 = .ok (.iload_n 2, 1) := by decide +kernel
theorem dX1_held_15 : decode cX1_held 15 = .ok (.iload 4, 2) := by decide +kernel
theorem dX1_held_17 : decode cX1_held 17 = .ok (.invokestatic 38, 3) := by decide +kernel
theorem dX1_held_20 : decode cX1_held 20 = .ok (.ifCond .eq 48, 3) := by decide +kernel
theorem dX1_held_23 : decode cX1_held 23 = .ok (.aload_n 0, 1) := by decide +kernel
theorem dX1_held_24 : decode cX1_held 24 = .ok (.getfield 42, 3) := by decide +kernel
theorem dX1_held_27 : decode cX1_held 27 = .ok (.iload 4, 2) := by decide +kernel
theorem dX1_held_29 : decode cX1_held 29 = .ok (.iaload, 1) := by decide +kernel
theorem dX1_held_30 : decode cX1_held 30 = .ok (.istore 5, 2) := by decide +kernel
theorem dX1_held_32 : decode cX1_held 32 = .ok (.iload 5, 2) := by decide +kernel
theorem dX1_held_34 : decode cX1_held 34 = .ok (.iload_n 2, 1) := by decide +kernel
theorem dX1_held_35 : decode cX1_held 35 = .ok (.iand, 1) := by decide +kernel
theorem dX1_held_36 : decode cX1_held 36 = .ok (.istore 6, 2) := by decide +kernel
theorem dX1_held_38 : decode cX1_held 38 = .ok (.iload 6, 2) := by decide +kernel
theorem dX1_held_40 : decode cX1_held 40 = .ok (.iload 5, 2) := by decide +kernel
theorem dX1_held_42 : decode cX1_held 42 = .ok (.if_icmp .eq 19, 3) := by decide +kernel
theorem dX1_held_45 : decode cX1_held 45 = .ok (.iload 6, 2) := by decide +kernel
theorem dX1_held_47 : decode cX1_held 47 = .ok (.ifCond .eq 21, 3) := by decide +kernel
theorem dX1_held_50 : decode cX1_held 50 = .ok (.aload_n 0, 1) := by decide +kernel
theorem dX1_held_51 : decode cX1_held 51 = .ok (.getfield 46, 3) := by decide +kernel
theorem dX1_held_54 : decode cX1_held 54 = .ok (.iload 4, 2) := by decide +kernel
theorem dX1_held_56 : decode cX1_held 56 = .ok (.iaload, 1) := by decide +kernel
theorem dX1_held_57 : decode cX1_held 57 = .ok (.iload_n 1, 1) := by decide +kernel
theorem dX1_held_58 : decode cX1_held 58 = .ok (.if_icmp .eq 10, 3) := by decide +kernel
theorem dX1_held_61 : decode cX1_held 61 = .ok (.iload_n 3, 1) := by decide +kernel
theorem dX1_held_62 : decode cX1_held 62 = .ok (.iconst 1, 1) := by decide +kernel
theorem dX1_held_63 : decode cX1_held 63 = .ok (.iload 4, 2) := by decide +kernel
theorem dX1_held_65 : decode cX1_held 65 = .ok (.ishl, 1) := by decide +kernel
theorem dX1_held_66 : decode cX1_held 66 = .ok (.ior, 1) := by decide +kernel
theorem dX1_held_67 : decode cX1_held 67 = .ok (.istore_n 3, 1) := by decide +kernel
theorem dX1_held_68 : decode cX1_held 68 = .ok (.iinc 4 1, 3) := by decide +kernel
theorem dX1_held_71 : decode cX1_held 71 = .ok (.goto (-66), 3) := by decide +kernel
theorem dX1_held_74 : decode cX1_held 74 = .ok (.iload_n 3, 1) := by decide +kernel
theorem dX1_held_75 : decode cX1_held 75 = .ok (.ireturn, 1) := by decide +kernel
theorem dX2_init_0 : decode cX2_init 0 = .ok (.aload_n 0, 1) := by decide +kernel
theorem dX2_init_1 : decode cX2_init 1 = .ok (.invokespecial 3, 3) := by decide +kernel
theorem dX2_init_4 : decode cX2_init 4 = .ok (.aload_n 0, 1) := by decide +kernel
theorem dX2_init_5 : decode cX2_init 5 = .ok (.bipush 80, 2) := by decide +kernel
theorem dX2_init_7 : decode cX2_init 7 = .ok (.newarray .char, 2) := by decide +kernel
theorem dX2_init_9 : decode cX2_init 9 = .ok (.putfield 9, 3) := by decide +kernel
theorem dX2_init_12 : decode cX2_init 12 = .ok (.aload_n 0, 1) := by decide +kernel
theorem dX2_init_13 : decode cX2_init 13 = .ok (.new 15, 3) := by decide +kernel
theorem dX2_init_16 : decode cX2_init 16 = .ok (.dup, 1) := by decide +kernel
theorem dX2_init_17 : decode cX2_init 17 = .ok (.invokespecial 17, 3) := by decide +kernel
theorem dX2_init_20 : decode cX2_init 20 = .ok (.putfield 18, 3) := by decide +kernel
theorem dX2_init_23 : decode cX2_init 23 = .ok (.aload_n 0, 1) := by decide +kernel
theorem dX2_init_24 : decode cX2_init 24 = .ok (.bipush 80, 2) := by decide +kernel
theorem dX2_init_26 : decode cX2_init 26 = .ok (.newarray .int, 2) := by decide +kernel
theorem dX2_init_28 : decode cX2_init 28 = .ok (.putfield 22, 3) := by decide +kernel
theorem dX2_init_31 : decode cX2_init 31 = .ok (.aload_n 0, 1) := by decide +kernel
theorem dX2_init_32 : decode cX2_init 32 = .ok (.bipush 80, 2) := by decide +kernel
theorem dX2_init_34 : decode cX2_init 34 = .ok (.newarray .int, 2) := by decide +kernel
theorem dX2_init_36 : decode cX2_init 36 = .ok (.putfield 26, 3) := by decide +kernel
theorem dX2_init_39 : decode cX2_init 39 = .ok (.return_, 1) := by decide +kernel
theorem dX2_append_0 : decode cX2_append 0 = .ok (.aload_n 0, 1) := by decide +kernel
theorem dX2_append_1 : decode cX2_append 1 = .ok (.getfield 29, 3) := by decide +kernel
theorem dX2_append_4 : decode cX2_append 4 = .ok (.bipush 80, 2) := by decide +kernel
theorem dX2_append_6 : decode cX2_append 6 = .ok (.if_icmp .ge 23, 3) := by decide +kernel
theorem dX2_append_9 : decode cX2_append 9 = .ok (.aload_n 0, 1) := by decide +kernel
theorem dX2_append_10 : decode cX2_append 10 = .ok (.getfield 9, 3) := by decide +kernel
theorem dX2_append_13 : decode cX2_append 13 = .ok (.aload_n 0, 1) := by decide +kernel
theorem dX2_append_14 : decode cX2_append 14 = .ok (.getfield 29, 3) := by decide +kernel
theorem dX2_append_17 : decode cX2_append 17 = .ok (.iload_n 1, 1) := by decide +kernel
theorem dX2_append_18 : decode cX2_append 18 = .ok (.castore, 1) := by decide +kernel
theorem dX2_append_19 : decode cX2_append 19 = .ok (.aload_n 0, 1) := by decide +kernel
theorem dX2_append_20 : decode cX2_append 20 = .ok (.dup, 1) := by decide +kernel
theorem dX2_append_21 : decode cX2_append 21 = .ok (.getfield 29, 3) := by decide +kernel
theorem dX2_append_24 : decode cX2_append 24 = .ok (.iconst 1, 1) := by decide +kernel
theorem dX2_append_25 : decode cX2_append 25 = .ok (.iadd, 1) := by decide +kernel
theorem dX2_append_26 : decode cX2_append 26 = .ok (.putfield 29, 3) := by decide +kernel
theorem dX2_append_29 : decode cX2_append 29 = .ok (.return_, 1) := by decide +kernel
theorem dX2_isField_0 : decode cX2_isField 0 = .ok (.aload_n 0, 1) := by decide +kernel
theorem dX2_isField_1 : decode cX2_isField 1 = .ok (.iconst 0, 1) := by decide +kernel
theorem dX2_isField_2 : decode cX2_isField 2 = .ok (.putfield 33, 3) := by decide +kernel
theorem dX2_isField_5 : decode cX2_isField 5 = .ok (.aload_n 0, 1) := by decide +kernel
theorem dX2_isField_6 : decode cX2_isField 6 = .ok (.iconst 0, 1) := by decide +kernel
theorem dX2_isField_7 : decode cX2_isField 7 = .ok (.putfield 36, 3) := by decide +kernel
theorem dX2_isField_10 : decode cX2_isField 10 = .ok (.aload_n 0, 1) := by decide +kernel
theorem dX2_isField_11 : decode cX2_isField 11 = .ok (.getfield 18, 3) := by decide +kernel
theorem dX2_isField_14 : decode cX2_isField 14 = .ok (.iconst 0, 1) := by decide +kernel
theorem dX2_isField_15 : decode cX2_isField 15 = .ok (.putfield 39, 3) := by decide +kernel
theorem dX2_isField_18 : decode cX2_isField 18 = .ok (.aload_n 0, 1) := by decide +kernel
theorem dX2_isField_19 : decode cX2_isField 19 = .ok (.invokevirtual 42, 3) := by decide +kernel
theorem dX2_isField_22 : decode cX2_isField 22 = .ok (.ifCond .eq 14, 3) := by decide +kernel
theorem dX2_isField_25 : decode cX2_isField 25 = .ok (.aload_n 0, 1) := by decide +kernel
theorem dX2_isField_26 : decode cX2_isField 26 = .ok (.invokevirtual 46, 3) := by decide +kernel
theorem dX2_isField_29 : decode cX2_isField 29 = .ok (.ifCond .eq 7, 3) := by decide +kernel
theorem dX2_isField_32 : decode cX2_isField 32 = .ok (.iconst 1, 1) := by decide +kernel
theorem dX2_isField_33 : decode cX2_isField 33 = .ok (.goto 4, 3) := by decide +kernel
theorem dX2_isField_36 : decode cX2_isField 36 = .ok (.iconst 0, 1) := by decide +kernel
theorem dX2_isField_37 : decode cX2_isField 37 = .ok (.ireturn, 1) := by decide +kernel
theorem dX2_lookAtPlaces_0 : decode cX2_lookAtPlaces 0 = .ok (.iconst 0, 1) := by decide +kernel
theorem dX2_lookAtPlaces_1 : decode cX2_lookAtPlaces 1 = .ok (.istore_n 1, 1) := by decide +kernel
theorem dX2_lookAtPlaces_2 : decode cX2_lookAtPlaces 2 = .ok (.iload_n 1, 1) := by decide +kernel
theorem dX2_lookAtPlaces_3 : decode cX2_lookAtPlaces 3 = .ok (.bipush 12, 2) := by decide +kernel
theorem dX2_lookAtPlaces_5 : decode cX2_lookAtPlaces 5 = .ok (.if_icmp .ge 60, 3) := by decide +kernel
theorem dX2_lookAtPlaces_8 : decode cX2_lookAtPlaces 8 = .ok (.aload_n 0, 1) := by decide +kernel
theorem dX2_lookAtPlaces_9 : decode cX2_lookAtPlaces 9 = .ok (.invokevirtual 49, 3) := by decide +kernel
theorem dX2_lookAtPlaces_12 : decode cX2_lookAtPlaces 12 = .ok (.ifCond .ne 5, 3) := by decide +kernel
theorem dX2_lookAtPlaces_15 : decode cX2_lookAtPlaces 15 = .ok (.iconst 0, 1) := by decide +kernel
theorem dX2_lookAtPlaces_16 : decode cX2_lookAtPlaces 16 = .ok (.ireturn, 1) := by decide +kernel
theorem dX2_lookAtPlaces_17 : decode cX2_lookAtPlaces 17 = .ok (.aload_n 0, 1) := by decide +kernel
theorem dX2_lookAtPlaces_18 : decode cX2_lookAtPlaces 18 = .ok (.getfield 33, 3) := by decide +kernel
theorem dX2_lookAtPlaces_21 : decode cX2_lookAtPlaces 21 = .ok (.aload_n 0, 1) := by decide +kernel
theorem dX2_lookAtPlaces_22 : decode cX2_lookAtPlaces 22 = .ok (.getfield 29, 3) := by decide +kernel
theorem dX2_lookAtPlaces_25 : decode cX2_lookAtPlaces 25 = .ok (.if_icmp .lt 5, 3) := by decide +kernel
theorem dX2_lookAtPlaces_28 : decode cX2_lookAtPlaces 28 = .ok (.iconst 1, 1) := by decide +kernel
theorem dX2_lookAtPlaces_29 : decode cX2_lookAtPlaces 29 = .ok (.ireturn, 1) := by decide +kernel
theorem dX2_lookAtPlaces_30 : decode cX2_lookAtPlaces 30 = .ok (.aload_n 0, 1) := by decide +kernel
theorem dX2_lookAtPlaces_31 : decode cX2_lookAtPlaces 31 = .ok (.invokevirtual 52, 3) := by decide +kernel
theorem dX2_lookAtPlaces_34 : decode cX2_lookAtPlaces 34 = .ok (.bipush 59, 2) := by decide +kernel
theorem dX2_lookAtPlaces_36 : decode cX2_lookAtPlaces 36 = .ok (.if_icmp .eq 13, 3) := by decide +kernel
theorem dX2_lookAtPlaces_39 : decode cX2_lookAtPlaces 39 = .ok (.aload_n 0, 1) := by decide +kernel
theorem dX2_lookAtPlaces_40 : decode cX2_lookAtPlaces 40 = .ok (.aload_n 0, 1) := by decide +kernel
theorem dX2_lookAtPlaces_41 : decode cX2_lookAtPlaces 41 = .ok (.getfield 33, 3) := by decide +kernel
theorem dX2_lookAtPlaces_44 : decode cX2_lookAtPlaces 44 = .ok (.iconst 1, 1) := by decide +kernel
theorem dX2_lookAtPlaces_45 : decode cX2_lookAtPlaces 45 = .ok (.invokevirtual 56, 3) := by decide +kernel
theorem dX2_lookAtPlaces_48 : decode cX2_lookAtPlaces 48 = .ok (.ireturn, 1) := by decide +kernel
theorem dX2_lookAtPlaces_49 : decode cX2_lookAtPlaces 49 = .ok (.aload_n 0, 1) := by decide +kernel
theorem dX2_lookAtPlaces_50 : decode cX2_lookAtPlaces 50 = .ok (.dup, 1) := by decide +kernel
theorem dX2_lookAtPlaces_51 : decode cX2_lookAtPlaces 51 = .ok (.getfield 33, 3) := by decide +kernel
theorem dX2_lookAtPlaces_54 : decode cX2_lookAtPlaces 54 = .ok (.iconst 1, 1) := by decide +kernel
theorem dX2_lookAtPlaces_55 : decode cX2_lookAtPlaces 55 = .ok (.iadd, 1) := by decide +kernel
theorem dX2_lookAtPlaces_56 : decode cX2_lookAtPlaces 56 = .ok (.putfield 33, 3) := by decide +kernel
theorem dX2_lookAtPlaces_59 : decode cX2_lookAtPlaces 59 = .ok (.iinc 1 1, 3) := by decide +kernel
theorem dX2_lookAtPlaces_62 : decode cX2_lookAtPlaces 62 = .ok (.goto (-60), 3) := by decide +kernel
theorem dX2_lookAtPlaces_65 : decode cX2_lookAtPlaces 65 = .ok (.aload_n 0, 1) := by decide +kernel
theorem dX2_lookAtPlaces_66 : decode cX2_lookAtPlaces 66 = .ok (.aload_n 0, 1) := by decide +kernel
theorem dX2_lookAtPlaces_67 : decode cX2_lookAtPlaces 67 = .ok (.getfield 33, 3) := by decide +kernel
theorem dX2_lookAtPlaces_70 : decode cX2_lookAtPlaces 70 = .ok (.iconst 1, 1) := by decide +kernel
theorem dX2_lookAtPlaces_71 : decode cX2_lookAtPlaces 71 = .ok (.isub, 1) := by decide +kernel
theorem dX2_lookAtPlaces_72 : decode cX2_lookAtPlaces 72 = .ok (.iconst 4, 1) := by decide +kernel
theorem dX2_lookAtPlaces_73 : decode cX2_lookAtPlaces 73 = .ok (.invokevirtual 56, 3) := by decide +kernel
theorem dX2_lookAtPlaces_76 : decode cX2_lookAtPlaces 76 = .ok (.ireturn, 1) := by decide +kernel
theorem dX2_lookAtPlace_0 : decode cX2_lookAtPlace 0 = .ok (.aload_n 0, 1) := by decide +kernel
theorem dX2_lookAtPlace_1 : decode cX2_lookAtPlace 1 = .ok (.invokevirtual 52, 3) := by decide +kernel
theorem dX2_lookAtPlace_4 : decode cX2_lookAtPlace 4 = .ok (.bipush 101, 2) := by decide +kernel
theorem dX2_lookAtPlace_6 : decode cX2_lookAtPlace 6 = .ok (.if_icmp .ne 7, 3) := by decide +kernel
theorem dX2_lookAtPlace_9 : decode cX2_lookAtPlace 9 = .ok (.iconst 0, 1) := by decide +kernel
theorem dX2_lookAtPlace_10 : decode cX2_lookAtPlace 10 = .ok (.goto 4, 3) := by decide +kernel
theorem dX2_lookAtPlace_13 : decode cX2_lookAtPlace 13 = .ok (.iconst 1, 1) := by decide +kernel
theorem dX2_lookAtPlace_14 : decode cX2_lookAtPlace 14 = .ok (.istore_n 1, 1) := by decide +kernel
theorem dX2_lookAtPlace_15 : decode cX2_lookAtPlace 15 = .ok (.iload_n 1, 1) := by decide +kernel
theorem dX2_lookAtPlace_16 : decode cX2_lookAtPlace 16 = .ok (.iconst 1, 1) := by decide +kernel
theorem dX2_lookAtPlace_17 : decode cX2_lookAtPlace 17 = .ok (.if_icmp .ne 22, 3) := by decide +kernel
theorem dX2_lookAtPlace_20 : decode cX2_lookAtPlace 20 = .ok (.aload_n 0, 1) := by decide +kernel
theorem dX2_lookAtPlace_21 : decode cX2_lookAtPlace 21 = .ok (.invokevirtual 52, 3) := by decide +kernel
theorem dX2_lookAtPlace_24 : decode cX2_lookAtPlace 24 = .ok (.bipush 111, 2) := by decide +kernel
theorem dX2_lookAtPlace_26 : decode cX2_lookAtPlace 26 = .ok (.if_icmp .eq 13, 3) := by decide +kernel
theorem dX2_lookAtPlace_29 : decode cX2_lookAtPlace 29 = .ok (.aload_n 0, 1) := by decide +kernel
theorem dX2_lookAtPlace_30 : decode cX2_lookAtPlace 30 = .ok (.aload_n 0, 1) := by decide +kernel
theorem dX2_lookAtPlace_31 : decode cX2_lookAtPlace 31 = .ok (.getfield 33, 3) := by decide +kernel
theorem dX2_lookAtPlace_34 : decode cX2_lookAtPlace 34 = .ok (.iconst 1, 1) := by decide +kernel
theorem dX2_lookAtPlace_35 : decode cX2_lookAtPlace 35 = .ok (.invokevirtual 56, 3) := by decide +kernel
theorem dX2_lookAtPlace_38 : decode cX2_lookAtPlace 38 = .ok (.ireturn, 1) := by decide +kernel
theorem dX2_lookAtPlace_39 : decode cX2_lookAtPlace 39 = .ok (.aload_n 0, 1) := by decide +kernel
theorem dX2_lookAtPlace_40 : decode cX2_lookAtPlace 40 = .ok (.dup, 1) := by decide +kernel
theorem dX2_lookAtPlace_41 : decode cX2_lookAtPlace 41 = .ok (.getfield 33, 3) := by decide +kernel
theorem dX2_lookAtPlace_44 : decode cX2_lookAtPlace 44 = .ok (.iconst 1, 1) := by decide +kernel
theorem dX2_lookAtPlace_45 : decode cX2_lookAtPlace 45 = .ok (.iadd, 1) := by decide +kernel
theorem dX2_lookAtPlace_46 : decode cX2_lookAtPlace 46 = .ok (.putfield 33, 3) := by decide +kernel
theorem dX2_lookAtPlace_49 : decode cX2_lookAtPlace 49 = .ok (.aload_n 0, 1) := by decide +kernel
theorem dX2_lookAtPlace_50 : decode cX2_lookAtPlace 50 = .ok (.invokevirtual 60, 3) := by decide +kernel
theorem dX2_lookAtPlace_53 : decode cX2_lookAtPlace 53 = .ok (.istore_n 2, 1) := by decide +kernel
theorem dX2_lookAtPlace_54 : decode cX2_lookAtPlace 54 = .ok (.iload_n 2, 1) := by decide +kernel
theorem dX2_lookAtPlace_55 : decode cX2_lookAtPlace 55 = .ok (.ifCond .ge 13, 3) := by decide +kernel
theorem dX2_lookAtPlace_58 : decode cX2_lookAtPlace 58 = .ok (.aload_n 0, 1) := by decide +kernel
theorem dX2_lookAtPlace_59 : decode cX2_lookAtPlace 59 = .ok (.aload_n 0, 1) := by decide +kernel
theorem dX2_lookAtPlace_60 : decode cX2_lookAtPlace 60 = .ok (.getfield 33, 3) := by decide +kernel
theorem dX2_lookAtPlace_63 : decode cX2_lookAtPlace 63 = .ok (.iconst 1, 1) := by decide +kernel
theorem dX2_lookAtPlace_64 : decode cX2_lookAtPlace 64 = .ok (.invokevirtual 56, 3) := by decide +kernel
theorem dX2_lookAtPlace_67 : decode cX2_lookAtPlace 67 = .ok (.ireturn, 1) := by decide +kernel
theorem dX2_lookAtPlace_68 : decode cX2_lookAtPlace 68 = .ok (.iload_n 2, 1) := by decide +kernel
theorem dX2_lookAtPlace_69 : decode cX2_lookAtPlace 69 = .ok (.invokestatic 64, 3) := by decide +kernel
theorem dX2_lookAtPlace_72 : decode cX2_lookAtPlace 72 = .ok (.ifCond .ne 13, 3) := by decide +kernel
theorem dX2_lookAtPlace_75 : decode cX2_lookAtPlace 75 = .ok (.aload_n 0, 1) := by decide +kernel
theorem dX2_lookAtPlace_76 : decode cX2_lookAtPlace 76 = .ok (.aload_n 0, 1) := by decide +kernel
theorem dX2_lookAtPlace_77 : decode cX2_lookAtPlace 77 = .ok (.getfield 33, 3) := by decide +kernel
theorem dX2_lookAtPlace_80 : decode cX2_lookAtPlace 80 = .ok (.iconst 2, 1) := by decide +kernel
theorem dX2_lookAtPlace_81 : decode cX2_lookAtPlace 81 = .ok (.invokevirtual 56, 3) := by decide +kernel
theorem dX2_lookAtPlace_84 : decode cX2_lookAtPlace 84 = .ok (.ireturn, 1) := by decide +kernel
theorem dX2_lookAtPlace_85 : decode cX2_lookAtPlace 85 = .ok (.aload_n 0, 1) := by decide +kernel
theorem dX2_lookAtPlace_86 : decode cX2_lookAtPlace 86 = .ok (.dup, 1) := by decide +kernel
theorem dX2_lookAtPlace_87 : decode cX2_lookAtPlace 87 = .ok (.getfield 33, 3) := by decide +kernel
theorem dX2_lookAtPlace_90 : decode cX2_lookAtPlace 90 = .ok (.iconst 1, 1) := by decide +kernel
theorem dX2_lookAtPlace_91 : decode cX2_lookAtPlace 91 = .ok (.iadd, 1) := by decide +kernel
theorem dX2_lookAtPlace_92 : decode cX2_lookAtPlace 92 = .ok (.putfield 33, 3) := by decide +kernel
theorem dX2_lookAtPlace_95 : decode cX2_lookAtPlace 95 = .ok (.aload_n 0, 1) := by decide +kernel
theorem dX2_lookAtPlace_96 : decode cX2_lookAtPlace 96 = .ok (.getfield 18, 3) := by decide +kernel
theorem dX2_lookAtPlace_99 : decode cX2_lookAtPlace 99 = .ok (.iload_n 1, 1) := by decide +kernel
theorem dX2_lookAtPlace_100 : decode cX2_lookAtPlace 100 = .ok (.iload_n 2, 1) := by decide +kernel
theorem dX2_lookAtPlace_101 : decode cX2_lookAtPlace 101 = .ok (.invokevirtual 68, 3) := by decide +kernel
theorem dX2_lookAtPlace_104 : decode cX2_lookAtPlace 104 = .ok (.aload_n 0, 1) := by decide +kernel
theorem dX2_lookAtPlace_105 : decode cX2_lookAtPlace 105 = .ok (.invokevirtual 52, 3) := by decide +kernel
theorem dX2_lookAtPlace_108 : decode cX2_lookAtPlace 108 = .ok (.bipush 58, 2) := by decide +kernel
theorem dX2_lookAtPlace_110 : decode cX2_lookAtPlace 110 = .ok (.if_icmp .eq 5, 3) := by decide +kernel
theorem dX2_lookAtPlace_113 : decode cX2_lookAtPlace 113 = .ok (.iconst 1, 1) := by decide +kernel
theorem dX2_lookAtPlace_114 : decode cX2_lookAtPlace 114 = .ok (.ireturn, 1) := by decide +kernel
theorem dX2_lookAtPlace_115 : decode cX2_lookAtPlace 115 = .ok (.aload_n 0, 1) := by decide +kernel
theorem dX2_lookAtPlace_116 : decode cX2_lookAtPlace 116 = .ok (.dup, 1) := by decide +kernel
theorem dX2_lookAtPlace_117 : decode cX2_lookAtPlace 117 = .ok (.getfield 33, 3) := by decide +kernel
theorem dX2_lookAtPlace_120 : decode cX2_lookAtPlace 120 = .ok (.iconst 1, 1) := by decide +kernel
theorem dX2_lookAtPlace_121 : decode cX2_lookAtPlace 121 = .ok (.iadd, 1) := by decide +kernel
theorem dX2_lookAtPlace_122 : decode cX2_lookAtPlace 122 = .ok (.putfield 33, 3) := by decide +kernel
theorem dX2_lookAtPlace_125 : decode cX2_lookAtPlace 125 = .ok (.aload_n 0, 1) := by decide +kernel
theorem dX2_lookAtPlace_126 : decode cX2_lookAtPlace 126 = .ok (.invokevirtual 72, 3) := by decide +kernel
theorem dX2_lookAtPlace_129 : decode cX2_lookAtPlace 129 = .ok (.ireturn, 1) := by decide +kernel
theorem dX2_lookAtWays_0 : decode cX2_lookAtWays 0 = .ok (.aload_n 0, 1) := by decide +kernel
theorem dX2_lookAtWays_1 : decode cX2_lookAtWays 1 = .ok (.getfield 36, 3) := by decide +kernel
theorem dX2_lookAtWays_4 : decode cX2_lookAtWays 4 = .ok (.istore_n 1, 1) := by decide +kernel
theorem dX2_lookAtWays_5 : decode cX2_lookAtWays 5 = .ok (.iconst 0, 1) := by decide +kernel
theorem dX2_lookAtWays_6 : decode cX2_lookAtWays 6 = .ok (.istore_n 2, 1) := by decide +kernel
theorem dX2_lookAtWays_7 : decode cX2_lookAtWays 7 = .ok (.iload_n 2, 1) := by decide +kernel
theorem dX2_lookAtWays_8 : decode cX2_lookAtWays 8 = .ok (.bipush 80, 2) := by decide +kernel
theorem dX2_lookAtWays_10 : decode cX2_lookAtWays 10 = .ok (.if_icmp .ge 125, 3) := by decide +kernel
theorem dX2_lookAtWays_13 : decode cX2_lookAtWays 13 = .ok (.aload_n 0, 1) := by decide +kernel
theorem dX2_lookAtWays_14 : decode cX2_lookAtWays 14 = .ok (.getfield 33, 3) := by decide +kernel
theorem dX2_lookAtWays_17 : decode cX2_lookAtWays 17 = .ok (.istore_n 3, 1) := by decide +kernel
theorem dX2_lookAtWays_18 : decode cX2_lookAtWays 18 = .ok (.aload_n 0, 1) := by decide +kernel
theorem dX2_lookAtWays_19 : decode cX2_lookAtWays 19 = .ok (.invokevirtual 60, 3) := by decide +kernel
theorem dX2_lookAtWays_22 : decode cX2_lookAtWays 22 = .ok (.istore 4, 2) := by decide +kernel
theorem dX2_lookAtWays_24 : decode cX2_lookAtWays 24 = .ok (.iload 4, 2) := by decide +kernel
theorem dX2_lookAtWays_26 : decode cX2_lookAtWays 26 = .ok (.ifCond .ge 13, 3) := by decide +kernel
theorem dX2_lookAtWays_29 : decode cX2_lookAtWays 29 = .ok (.aload_n 0, 1) := by decide +kernel
theorem dX2_lookAtWays_30 : decode cX2_lookAtWays 30 = .ok (.aload_n 0, 1) := by decide +kernel
theorem dX2_lookAtWays_31 : decode cX2_lookAtWays 31 = .ok (.getfield 33, 3) := by decide +kernel
theorem dX2_lookAtWays_34 : decode cX2_lookAtWays 34 = .ok (.iconst 1, 1) := by decide +kernel
theorem dX2_lookAtWays_35 : decode cX2_lookAtWays 35 = .ok (.invokevirtual 56, 3) := by decide +kernel
theorem dX2_lookAtWays_38 : decode cX2_lookAtWays 38 = .ok (.ireturn, 1) := by decide +kernel
theorem dX2_lookAtWays_39 : decode cX2_lookAtWays 39 = .ok (.aload_n 0, 1) := by decide +kernel
theorem dX2_lookAtWays_40 : decode cX2_lookAtWays 40 = .ok (.dup, 1) := by decide +kernel
theorem dX2_lookAtWays_41 : decode cX2_lookAtWays 41 = .ok (.getfield 33, 3) := by decide +kernel
theorem dX2_lookAtWays_44 : decode cX2_lookAtWays 44 = .ok (.iconst 1, 1) := by decide +kernel
theorem dX2_lookAtWays_45 : decode cX2_lookAtWays 45 = .ok (.iadd, 1) := by decide +kernel
theorem dX2_lookAtWays_46 : decode cX2_lookAtWays 46 = .ok (.putfield 33, 3) := by decide +kernel
theorem dX2_lookAtWays_49 : decode cX2_lookAtWays 49 = .ok (.iload 4, 2) := by decide +kernel
theorem dX2_lookAtWays_51 : decode cX2_lookAtWays 51 = .ok (.ifCond .le 32, 3) := by decide +kernel
theorem dX2_lookAtWays_54 : decode cX2_lookAtWays 54 = .ok (.aload_n 0, 1) := by decide +kernel
theorem dX2_lookAtWays_55 : decode cX2_lookAtWays 55 = .ok (.invokevirtual 60, 3) := by decide +kernel
theorem dX2_lookAtWays_58 : decode cX2_lookAtWays 58 = .ok (.ifCond .lt 25, 3) := by decide +kernel
theorem dX2_lookAtWays_61 : decode cX2_lookAtWays 61 = .ok (.iload 4, 2) := by decide +kernel
theorem dX2_lookAtWays_63 : decode cX2_lookAtWays 63 = .ok (.bipush 10, 2) := by decide +kernel
theorem dX2_lookAtWays_65 : decode cX2_lookAtWays 65 = .ok (.imul, 1) := by decide +kernel
theorem dX2_lookAtWays_66 : decode cX2_lookAtWays 66 = .ok (.aload_n 0, 1) := by decide +kernel
theorem dX2_lookAtWays_67 : decode cX2_lookAtWays 67 = .ok (.invokevirtual 60, 3) := by decide +kernel
theorem dX2_lookAtWays_70 : decode cX2_lookAtWays 70 = .ok (.iadd, 1) := by decide +kernel
theorem dX2_lookAtWays_71 : decode cX2_lookAtWays 71 = .ok (.istore 4, 2) := by decide +kernel
theorem dX2_lookAtWays_73 : decode cX2_lookAtWays 73 = .ok (.aload_n 0, 1) := by decide +kernel
theorem dX2_lookAtWays_74 : decode cX2_lookAtWays 74 = .ok (.dup, 1) := by decide +kernel
theorem dX2_lookAtWays_75 : decode cX2_lookAtWays 75 = .ok (.getfield 33, 3) := by decide +kernel
theorem dX2_lookAtWays_78 : decode cX2_lookAtWays 78 = .ok (.iconst 1, 1) := by decide +kernel
theorem dX2_lookAtWays_79 : decode cX2_lookAtWays 79 = .ok (.iadd, 1) := by decide +kernel
theorem dX2_lookAtWays_80 : decode cX2_lookAtWays 80 = .ok (.putfield 33, 3) := by decide +kernel
theorem dX2_lookAtWays_83 : decode cX2_lookAtWays 83 = .ok (.aload_n 0, 1) := by decide +kernel
theorem dX2_lookAtWays_84 : decode cX2_lookAtWays 84 = .ok (.iload_n 1, 1) := by decide +kernel
theorem dX2_lookAtWays_85 : decode cX2_lookAtWays 85 = .ok (.iload 4, 2) := by decide +kernel
theorem dX2_lookAtWays_87 : decode cX2_lookAtWays 87 = .ok (.invokevirtual 75, 3) := by decide +kernel
theorem dX2_lookAtWays_90 : decode cX2_lookAtWays 90 = .ok (.ifCond .eq 10, 3) := by decide +kernel
theorem dX2_lookAtWays_93 : decode cX2_lookAtWays 93 = .ok (.aload_n 0, 1) := by decide +kernel
theorem dX2_lookAtWays_94 : decode cX2_lookAtWays 94 = .ok (.iload_n 3, 1) := by decide +kernel
theorem dX2_lookAtWays_95 : decode cX2_lookAtWays 95 = .ok (.iconst 3, 1) := by decide +kernel
theorem dX2_lookAtWays_96 : decode cX2_lookAtWays 96 = .ok (.invokevirtual 56, 3) := by decide +kernel
theorem dX2_lookAtWays_99 : decode cX2_lookAtWays 99 = .ok (.ireturn, 1) := by decide +kernel
theorem dX2_lookAtWays_100 : decode cX2_lookAtWays 100 = .ok (.aload_n 0, 1) := by decide +kernel
theorem dX2_lookAtWays_101 : decode cX2_lookAtWays 101 = .ok (.iload_n 3, 1) := by decide +kernel
theorem dX2_lookAtWays_102 : decode cX2_lookAtWays 102 = .ok (.iload 4, 2) := by decide +kernel
theorem dX2_lookAtWays_104 : decode cX2_lookAtWays 104 = .ok (.invokevirtual 78, 3) := by decide +kernel
theorem dX2_lookAtWays_107 : decode cX2_lookAtWays 107 = .ok (.aload_n 0, 1) := by decide +kernel
theorem dX2_lookAtWays_108 : decode cX2_lookAtWays 108 = .ok (.invokevirtual 52, 3) := by decide +kernel
theorem dX2_lookAtWays_111 : decode cX2_lookAtWays 111 = .ok (.bipush 44, 2) := by decide +kernel
theorem dX2_lookAtWays_113 : decode cX2_lookAtWays 113 = .ok (.if_icmp .eq 6, 3) := by decide +kernel
theorem dX2_lookAtWays_116 : decode cX2_lookAtWays 116 = .ok (.goto 19, 3) := by decide +kernel
theorem dX2_lookAtWays_119 : decode cX2_lookAtWays 119 = .ok (.aload_n 0, 1) := by decide +kernel
theorem dX2_lookAtWays_120 : decode cX2_lookAtWays 120 = .ok (.dup, 1) := by decide +kernel
theorem dX2_lookAtWays_121 : decode cX2_lookAtWays 121 = .ok (.getfield 33, 3) := by decide +kernel
theorem dX2_lookAtWays_124 : decode cX2_lookAtWays 124 = .ok (.iconst 1, 1) := by decide +kernel
theorem dX2_lookAtWays_125 : decode cX2_lookAtWays 125 = .ok (.iadd, 1) := by decide +kernel
theorem dX2_lookAtWays_126 : decode cX2_lookAtWays 126 = .ok (.putfield 33, 3) := by decide +kernel
theorem dX2_lookAtWays_129 : decode cX2_lookAtWays 129 = .ok (.iinc 2 1, 3) := by decide +kernel
theorem dX2_lookAtWays_132 : decode cX2_lookAtWays 132 = .ok (.goto (-125), 3) := by decide +kernel
theorem dX2_lookAtWays_135 : decode cX2_lookAtWays 135 = .ok (.iconst 1, 1) := by decide +kernel
theorem dX2_lookAtWays_136 : decode cX2_lookAtWays 136 = .ok (.ireturn, 1) := by decide +kernel
theorem dX2_isToldSince_0 : decode cX2_isToldSince 0 = .ok (.iload_n 1, 1) := by decide +kernel
theorem dX2_isToldSince_1 : decode cX2_isToldSince 1 = .ok (.istore_n 3, 1) := by decide +kernel
theorem dX2_isToldSince_2 : decode cX2_isToldSince 2 = .ok (.iload_n 3, 1) := by decide +kernel
theorem dX2_isToldSince_3 : decode cX2_isToldSince 3 = .ok (.aload_n 0, 1) := by decide +kernel
theorem dX2_isToldSince_4 : decode cX2_isToldSince 4 = .ok (.getfield 36, 3) := by decide +kernel
theorem dX2_isToldSince_7 : decode cX2_isToldSince 7 = .ok (.if_icmp .ge 21, 3) := by decide +kernel
theorem dX2_isToldSince_10 : decode cX2_isToldSince 10 = .ok (.aload_n 0, 1) := by decide +kernel
theorem dX2_isToldSince_11 : decode cX2_isToldSince 11 = .ok (.getfield 22, 3) := by decide +kernel
theorem dX2_isToldSince_14 : decode cX2_isToldSince 14 = .ok (.iload_n 3, 1) := by decide +kernel
theorem dX2_isToldSince_15 : decode cX2_isToldSince 15 = .ok (.iaload, 1) := by decide +kernel
theorem dX2_isToldSince_16 : decode cX2_isToldSince 16 = .ok (.iload_n 2, 1) := by decide +kernel
theorem dX2_isToldSince_17 : decode cX2_isToldSince 17 = .ok (.if_icmp .ne 5, 3) := by decide +kernel
theorem dX2_isToldSince_20 : decode cX2_isToldSince 20 = .ok (.iconst 1, 1) := by decide +kernel
theorem dX2_isToldSince_21 : decode cX2_isToldSince 21 = .ok (.ireturn, 1) := by decide +kernel
theorem dX2_isToldSince_22 : decode cX2_isToldSince 22 = .ok (.iinc 3 1, 3) := by decide +kernel
theorem dX2_isToldSince_25 : decode cX2_isToldSince 25 = .ok (.goto (-23), 3) := by decide +kernel
theorem dX2_isToldSince_28 : decode cX2_isToldSince 28 = .ok (.iconst 0, 1) := by decide +kernel
theorem dX2_isToldSince_29 : decode cX2_isToldSince 29 = .ok (.ireturn, 1) := by decide +kernel
theorem dX2_tellWay_0 : decode cX2_tellWay 0 = .ok (.aload_n 0, 1) := by decide +kernel
theorem dX2_tellWay_1 : decode cX2_tellWay 1 = .ok (.getfield 36, 3) := by decide +kernel
theorem dX2_tellWay_4 : decode cX2_tellWay 4 = .ok (.bipush 80, 2) := by decide +kernel
theorem dX2_tellWay_6 : decode cX2_tellWay 6 = .ok (.if_icmp .ge 33, 3) := by decide +kernel
theorem dX2_tellWay_9 : decode cX2_tellWay 9 = .ok (.aload_n 0, 1) := by decide +kernel
theorem dX2_tellWay_10 : decode cX2_tellWay 10 = .ok (.getfield 26, 3) := by decide +kernel
theorem dX2_tellWay_13 : decode cX2_tellWay 13 = .ok (.aload_n 0, 1) := by decide +kernel
theorem dX2_tellWay_14 : decode cX2_tellWay 14 = .ok (.getfield 36, 3) := by decide +kernel
theorem dX2_tellWay_17 : decode cX2_tellWay 17 = .ok (.iload_n 1, 1) := by decide +kernel
theorem dX2_tellWay_18 : decode cX2_tellWay 18 = .ok (.iastore, 1) := by decide +kernel
theorem dX2_tellWay_19 : decode cX2_tellWay 19 = .ok (.aload_n 0, 1) := by decide +kernel
theorem dX2_tellWay_20 : decode cX2_tellWay 20 = .ok (.getfield 22, 3) := by decide +kernel
theorem dX2_tellWay_23 : decode cX2_tellWay 23 = .ok (.aload_n 0, 1) := by decide +kernel
theorem dX2_tellWay_24 : decode cX2_tellWay 24 = .ok (.getfield 36, 3) := by decide +kernel
theorem dX2_tellWay_27 : decode cX2_tellWay 27 = .ok (.iload_n 2, 1) := by decide +kernel
theorem dX2_tellWay_28 : decode cX2_tellWay 28 = .ok (.iastore, 1) := by decide +kernel
theorem dX2_tellWay_29 : decode cX2_tellWay 29 = .ok (.aload_n 0, 1) := by decide +kernel
theorem dX2_tellWay_30 : decode cX2_tellWay 30 = .ok (.dup, 1) := by decide +kernel
theorem dX2_tellWay_31 : decode cX2_tellWay 31 = .ok (.getfield 36, 3) := by decide +kernel
theorem dX2_tellWay_34 : decode cX2_tellWay 34 = .ok (.iconst 1, 1) := by decide +kernel
theorem dX2_tellWay_35 : decode cX2_tellWay 35 = .ok (.iadd, 1) := by decide +kernel
theorem dX2_tellWay_36 : decode cX2_tellWay 36 = .ok (.putfield 36, 3) := by decide +kernel
theorem dX2_tellWay_39 : decode cX2_tellWay 39 = .ok (.aload_n 0, 1) := by decide +kernel
theorem dX2_tellWay_40 : decode cX2_tellWay 40 = .ok (.getfield 18, 3) := by decide +kernel
theorem dX2_tellWay_43 : decode cX2_tellWay 43 = .ok (.getfield 39, 3) := by decide +kernel
theorem dX2_tellWay_46 : decode cX2_tellWay 46 = .ok (.iconst 1, 1) := by decide +kernel
theorem dX2_tellWay_47 : decode cX2_tellWay 47 = .ok (.isub, 1) := by decide +kernel
theorem dX2_tellWay_48 : decode cX2_tellWay 48 = .ok (.istore_n 3, 1) := by decide +kernel
theorem dX2_tellWay_49 : decode cX2_tellWay 49 = .ok (.aload_n 0, 1) := by decide +kernel
theorem dX2_tellWay_50 : decode cX2_tellWay 50 = .ok (.getfield 18, 3) := by decide +kernel
theorem dX2_tellWay_53 : decode cX2_tellWay 53 = .ok (.iload_n 3, 1) := by decide +kernel
theorem dX2_tellWay_54 : decode cX2_tellWay 54 = .ok (.invokevirtual 81, 3) := by decide +kernel
theorem dX2_tellWay_57 : decode cX2_tellWay 57 = .ok (.ifCond .eq 24, 3) := by decide +kernel
theorem dX2_tellWay_60 : decode cX2_tellWay 60 = .ok (.iload_n 2, 1) := by decide +kernel
theorem dX2_tellWay_61 : decode cX2_tellWay 61 = .ok (.bipush 12, 2) := by decide +kernel
theorem dX2_tellWay_63 : decode cX2_tellWay 63 = .ok (.if_icmp .ge 18, 3) := by decide +kernel
theorem dX2_tellWay_66 : decode cX2_tellWay 66 = .ok (.aload_n 0, 1) := by decide +kernel
theorem dX2_tellWay_67 : decode cX2_tellWay 67 = .ok (.getfield 18, 3) := by decide +kernel
theorem dX2_tellWay_70 : decode cX2_tellWay 70 = .ok (.getfield 84, 3) := by decide +kernel
theorem dX2_tellWay_73 : decode cX2_tellWay 73 = .ok (.iload_n 3, 1) := by decide +kernel
theorem dX2_tellWay_74 : decode cX2_tellWay 74 = .ok (.dup2, 1) := by decide +kernel
theorem dX2_tellWay_75 : decode cX2_tellWay 75 = .ok (.iaload, 1) := by decide +kernel
theorem dX2_tellWay_76 : decode cX2_tellWay 76 = .ok (.iconst 1, 1) := by decide +kernel
theorem dX2_tellWay_77 : decode cX2_tellWay 77 = .ok (.iload_n 2, 1) := by decide +kernel
theorem dX2_tellWay_78 : decode cX2_tellWay 78 = .ok (.ishl, 1) := by decide +kernel
theorem dX2_tellWay_79 : decode cX2_tellWay 79 = .ok (.ior, 1) := by decide +kernel
theorem dX2_tellWay_80 : decode cX2_tellWay 80 = .ok (.iastore, 1) := by decide +kernel
theorem dX2_tellWay_81 : decode cX2_tellWay 81 = .ok (.return_, 1) := by decide +kernel
theorem dX2_lookForPlacesOfWays_0 : decode cX2_lookForPlacesOfWays 0 = .ok (.iconst 0, 1) := by decide +kernel
theorem dX2_lookForPlacesOfWays_1 : decode cX2_lookForPlacesOfWays 1 = .ok (.istore_n 1, 1) := by decide +kernel
theorem dX2_lookForPlacesOfWays_2 : decode cX2_lookForPlacesOfWays 2 = .ok (.iload_n 1, 1) := by decide +kernel
theorem dX2_lookForPlacesOfWays_3 : decode cX2_lookForPlacesOfWays 3 = .ok (.aload_n 0, 1) := by decide +kernel
theorem dX2_lookForPlacesOfWays_4 : decode cX2_lookForPlacesOfWays 4 = .ok (.getfield 36, 3) := by decide +kernel
theorem dX2_lookForPlacesOfWays_7 : decode cX2_lookForPlacesOfWays 7 = .ok (.if_icmp .ge 37, 3) := by decide +kernel
theorem dX2_lookForPlacesOfWays_10 : decode cX2_lookForPlacesOfWays 10 = .ok (.aload_n 0, 1) := by decide +kernel
theorem dX2_lookForPlacesOfWays_11 : decode cX2_lookForPlacesOfWays 11 = .ok (.getfield 18, 3) := by decide +kernel
theorem dX2_lookForPlacesOfWays_14 : decode cX2_lookForPlacesOfWays 14 = .ok (.aload_n 0, 1) := by decide +kernel
theorem dX2_lookForPlacesOfWays_15 : decode cX2_lookForPlacesOfWays 15 = .ok (.getfield 22, 3) := by decide +kernel
theorem dX2_lookForPlacesOfWays_18 : decode cX2_lookForPlacesOfWays 18 = .ok (.iload_n 1, 1) := by decide +kernel
theorem dX2_lookForPlacesOfWays_19 : decode cX2_lookForPlacesOfWays 19 = .ok (.iaload, 1) := by decide +kernel
theorem dX2_lookForPlacesOfWays_20 : decode cX2_lookForPlacesOfWays 20 = .ok (.invokevirtual 81, 3) := by decide +kernel
theorem dX2_lookForPlacesOfWays_23 : decode cX2_lookForPlacesOfWays 23 = .ok (.ifCond .ne 15, 3) := by decide +kernel
theorem dX2_lookForPlacesOfWays_26 : decode cX2_lookForPlacesOfWays 26 = .ok (.aload_n 0, 1) := by decide +kernel
theorem dX2_lookForPlacesOfWays_27 : decode cX2_lookForPlacesOfWays 27 = .ok (.aload_n 0, 1) := by decide +kernel
theorem dX2_lookForPlacesOfWays_28 : decode cX2_lookForPlacesOfWays 28 = .ok (.getfield 26, 3) := by decide +kernel
theorem dX2_lookForPlacesOfWays_31 : decode cX2_lookForPlacesOfWays 31 = .ok (.iload_n 1, 1) := by decide +kernel
theorem dX2_lookForPlacesOfWays_32 : decode cX2_lookForPlacesOfWays 32 = .ok (.iaload, 1) := by decide +kernel
theorem dX2_lookForPlacesOfWays_33 : decode cX2_lookForPlacesOfWays 33 = .ok (.iconst 5, 1) := by decide +kernel
theorem dX2_lookForPlacesOfWays_34 : decode cX2_lookForPlacesOfWays 34 = .ok (.invokevirtual 56, 3) := by decide +kernel
theorem dX2_lookForPlacesOfWays_37 : decode cX2_lookForPlacesOfWays 37 = .ok (.ireturn, 1) := by decide +kernel
theorem dX2_lookForPlacesOfWays_38 : decode cX2_lookForPlacesOfWays 38 = .ok (.iinc 1 1, 3) := by decide +kernel
theorem dX2_lookForPlacesOfWays_41 : decode cX2_lookForPlacesOfWays 41 = .ok (.goto (-39), 3) := by decide +kernel
theorem dX2_lookForPlacesOfWays_44 : decode cX2_lookForPlacesOfWays 44 = .ok (.iconst 1, 1) := by decide +kernel
theorem dX2_lookForPlacesOfWays_45 : decode cX2_lookForPlacesOfWays 45 = .ok (.ireturn, 1) := by decide +kernel
theorem dX2_blame_0 : decode cX2_blame 0 = .ok (.aload_n 0, 1) := by decide +kernel
theorem dX2_blame_1 : decode cX2_blame 1 = .ok (.iload_n 1, 1) := by decide +kernel
theorem dX2_blame_2 : decode cX2_blame 2 = .ok (.putfield 87, 3) := by decide +kernel
theorem dX2_blame_5 : decode cX2_blame 5 = .ok (.aload_n 0, 1) := by decide +kernel
theorem dX2_blame_6 : decode cX2_blame 6 = .ok (.iload_n 2, 1) := by decide +kernel
theorem dX2_blame_7 : decode cX2_blame 7 = .ok (.putfield 90, 3) := by decide +kernel
theorem dX2_blame_10 : decode cX2_blame 10 = .ok (.iconst 0, 1) := by decide +kernel
theorem dX2_blame_11 : decode cX2_blame 11 = .ok (.ireturn, 1) := by decide +kernel
theorem dX2_character_0 : decode cX2_character 0 = .ok (.aload_n 0, 1) := by decide +kernel
theorem dX2_character_1 : decode cX2_character 1 = .ok (.getfield 33, 3) := by decide +kernel
theorem dX2_character_4 : decode cX2_character 4 = .ok (.ifCond .lt 35, 3) := by decide +kernel
theorem dX2_character_7 : decode cX2_character 7 = .ok (.aload_n 0, 1) := by decide +kernel
theorem dX2_character_8 : decode cX2_character 8 = .ok (.getfield 33, 3) := by decide +kernel
theorem dX2_character_11 : decode cX2_character 11 = .ok (.aload_n 0, 1) := by decide +kernel
theorem dX2_character_12 : decode cX2_character 12 = .ok (.getfield 29, 3) := by decide +kernel
theorem dX2_character_15 : decode cX2_character 15 = .ok (.if_icmp .ge 24, 3) := by decide +kernel
theorem dX2_character_18 : decode cX2_character 18 = .ok (.aload_n 0, 1) := by decide +kernel
theorem dX2_character_19 : decode cX2_character 19 = .ok (.getfield 33, 3) := by decide +kernel
theorem dX2_character_22 : decode cX2_character 22 = .ok (.bipush 80, 2) := by decide +kernel
theorem dX2_character_24 : decode cX2_character 24 = .ok (.if_icmp .ge 15, 3) := by decide +kernel
theorem dX2_character_27 : decode cX2_character 27 = .ok (.aload_n 0, 1) := by decide +kernel
theorem dX2_character_28 : decode cX2_character 28 = .ok (.getfield 9, 3) := by decide +kernel
theorem dX2_character_31 : decode cX2_character 31 = .ok (.aload_n 0, 1) := by decide +kernel
theorem dX2_character_32 : decode cX2_character 32 = .ok (.getfield 33, 3) := by decide +kernel
theorem dX2_character_35 : decode cX2_character 35 = .ok (.caload, 1) := by decide +kernel
theorem dX2_character_36 : decode cX2_character 36 = .ok (.goto 4, 3) := by decide +kernel
theorem dX2_character_39 : decode cX2_character 39 = .ok (.iconst 0, 1) := by decide +kernel
theorem dX2_character_40 : decode cX2_character 40 = .ok (.ireturn, 1) := by decide +kernel
theorem dX2_digit_0 : decode cX2_digit 0 = .ok (.aload_n 0, 1) := by decide +kernel
theorem dX2_digit_1 : decode cX2_digit 1 = .ok (.invokevirtual 52, 3) := by decide +kernel
theorem dX2_digit_4 : decode cX2_digit 4 = .ok (.istore_n 1, 1) := by decide +kernel
theorem dX2_digit_5 : decode cX2_digit 5 = .ok (.iload_n 1, 1) := by decide +kernel
theorem dX2_digit_6 : decode cX2_digit 6 = .ok (.bipush 48, 2) := by decide +kernel
theorem dX2_digit_8 : decode cX2_digit 8 = .ok (.if_icmp .lt 16, 3) := by decide +kernel
theorem dX2_digit_11 : decode cX2_digit 11 = .ok (.iload_n 1, 1) := by decide +kernel
theorem dX2_digit_12 : decode cX2_digit 12 = .ok (.bipush 57, 2) := by decide +kernel
theorem dX2_digit_14 : decode cX2_digit 14 = .ok (.if_icmp .gt 10, 3) := by decide +kernel
theorem dX2_digit_17 : decode cX2_digit 17 = .ok (.iload_n 1, 1) := by decide +kernel
theorem dX2_digit_18 : decode cX2_digit 18 = .ok (.bipush 48, 2) := by decide +kernel
theorem dX2_digit_20 : decode cX2_digit 20 = .ok (.isub, 1) := by decide +kernel
theorem dX2_digit_21 : decode cX2_digit 21 = .ok (.goto 4, 3) := by decide +kernel
theorem dX2_digit_24 : decode cX2_digit 24 = .ok (.iconst (-1), 1) := by decide +kernel
theorem dX2_digit_25 : decode cX2_digit 25 = .ok (.ireturn, 1) := by decide +kernel
theorem dX3_init_0 : decode cX3_init 0 = .ok (.aload_n 0, 1) := by decide +kernel
theorem dX3_init_1 : decode cX3_init 1 = .ok (.invokespecial 1, 3) := by decide +kernel
theorem dX3_init_4 : decode cX3_init 4 = .ok (.aload_n 0, 1) := by decide +kernel
theorem dX3_init_5 : decode cX3_init 5 = .ok (.new 7, 3) := by decide +kernel
theorem dX3_init_8 : decode cX3_init 8 = .ok (.dup, 1) := by decide +kernel
theorem dX3_init_9 : decode cX3_init 9 = .ok (.invokespecial 9, 3) := by decide +kernel
theorem dX3_init_12 : decode cX3_init 12 = .ok (.putfield 10, 3) := by decide +kernel
theorem dX3_init_15 : decode cX3_init 15 = .ok (.aload_n 0, 1) := by decide +kernel
theorem dX3_init_16 : decode cX3_init 16 = .ok (.iconst 4, 1) := by decide +kernel
theorem dX3_init_17 : decode cX3_init 17 = .ok (.anewarray 7, 3) := by decide +kernel
theorem dX3_init_20 : decode cX3_init 20 = .ok (.putfield 16, 3) := by decide +kernel
theorem dX3_init_23 : decode cX3_init 23 = .ok (.iconst 0, 1) := by decide +kernel
theorem dX3_init_24 : decode cX3_init 24 = .ok (.istore_n 1, 1) := by decide +kernel
theorem dX3_init_25 : decode cX3_init 25 = .ok (.iload_n 1, 1) := by decide +kernel
theorem dX3_init_26 : decode cX3_init 26 = .ok (.iconst 4, 1) := by decide +kernel
theorem dX3_init_27 : decode cX3_init 27 = .ok (.if_icmp .ge 22, 3) := by decide +kernel
theorem dX3_init_30 : decode cX3_init 30 = .ok (.aload_n 0, 1) := by decide +kernel
theorem dX3_init_31 : decode cX3_init 31 = .ok (.getfield 16, 3) := by decide +kernel
theorem dX3_init_34 : decode cX3_init 34 = .ok (.iload_n 1, 1) := by decide +kernel
theorem dX3_init_35 : decode cX3_init 35 = .ok (.new 7, 3) := by decide +kernel
theorem dX3_init_38 : decode cX3_init 38 = .ok (.dup, 1) := by decide +kernel
theorem dX3_init_39 : decode cX3_init 39 = .ok (.invokespecial 9, 3) := by decide +kernel
theorem dX3_init_42 : decode cX3_init 42 = .ok (.aastore, 1) := by decide +kernel
theorem dX3_init_43 : decode cX3_init 43 = .ok (.iinc 1 1, 3) := by decide +kernel
theorem dX3_init_46 : decode cX3_init 46 = .ok (.goto (-21), 3) := by decide +kernel
theorem dX3_init_49 : decode cX3_init 49 = .ok (.aload_n 0, 1) := by decide +kernel
theorem dX3_init_50 : decode cX3_init 50 = .ok (.new 7, 3) := by decide +kernel
theorem dX3_init_53 : decode cX3_init 53 = .ok (.dup, 1) := by decide +kernel
theorem dX3_init_54 : decode cX3_init 54 = .ok (.invokespecial 9, 3) := by decide +kernel
theorem dX3_init_57 : decode cX3_init 57 = .ok (.putfield 20, 3) := by decide +kernel
theorem dX3_init_60 : decode cX3_init 60 = .ok (.aload_n 0, 1) := by decide +kernel
theorem dX3_init_61 : decode cX3_init 61 = .ok (.new 23, 3) := by decide +kernel
theorem dX3_init_64 : decode cX3_init 64 = .ok (.dup, 1) := by decide +kernel
theorem dX3_init_65 : decode cX3_init 65 = .ok (.invokespecial 25, 3) := by decide +kernel
theorem dX3_init_68 : decode cX3_init 68 = .ok (.putfield 26, 3) := by decide +kernel
theorem dX3_init_71 : decode cX3_init 71 = .ok (.aload_n 0, 1) := by decide +kernel
theorem dX3_init_72 : decode cX3_init 72 = .ok (.new 7, 3) := by decide +kernel
theorem dX3_init_75 : decode cX3_init 75 = .ok (.dup, 1) := by decide +kernel
theorem dX3_init_76 : decode cX3_init 76 = .ok (.invokespecial 9, 3) := by decide +kernel
theorem dX3_init_79 : decode cX3_init 79 = .ok (.putfield 30, 3) := by decide +kernel
theorem dX3_init_82 : decode cX3_init 82 = .ok (.aload_n 0, 1) := by decide +kernel
theorem dX3_init_83 : decode cX3_init 83 = .ok (.bipush 12, 2) := by decide +kernel
theorem dX3_init_85 : decode cX3_init 85 = .ok (.newarray .int, 2) := by decide +kernel
theorem dX3_init_87 : decode cX3_init 87 = .ok (.putfield 33, 3) := by decide +kernel
theorem dX3_init_90 : decode cX3_init 90 = .ok (.return_, 1) := by decide +kernel
theorem dX3_add_0 : decode cX3_add 0 = .ok (.iload_n 1, 1) := by decide +kernel
theorem dX3_add_1 : decode cX3_add 1 = .ok (.invokestatic 37, 3) := by decide +kernel
theorem dX3_add_4 : decode cX3_add 4 = .ok (.ifCond .eq 10, 3) := by decide +kernel
theorem dX3_add_7 : decode cX3_add 7 = .ok (.iload_n 2, 1) := by decide +kernel
theorem dX3_add_8 : decode cX3_add 8 = .ok (.invokestatic 41, 3) := by decide +kernel
theorem dX3_add_11 : decode cX3_add 11 = .ok (.ifCond .ne 5, 3) := by decide +kernel
theorem dX3_add_14 : decode cX3_add 14 = .ok (.iconst (-1), 1) := by decide +kernel
theorem dX3_add_15 : decode cX3_add 15 = .ok (.ireturn, 1) := by decide +kernel
theorem dX3_add_16 : decode cX3_add 16 = .ok (.aload_n 0, 1) := by decide +kernel
theorem dX3_add_17 : decode cX3_add 17 = .ok (.getfield 10, 3) := by decide +kernel
theorem dX3_add_20 : decode cX3_add 20 = .ok (.getfield 44, 3) := by decide +kernel
theorem dX3_add_23 : decode cX3_add 23 = .ok (.bipush 12, 2) := by decide +kernel
theorem dX3_add_25 : decode cX3_add 25 = .ok (.if_icmp .lt 6, 3) := by decide +kernel
theorem dX3_add_28 : decode cX3_add 28 = .ok (.bipush (-3), 2) := by decide +kernel
theorem dX3_add_30 : decode cX3_add 30 = .ok (.ireturn, 1) := by decide +kernel
theorem dX3_add_31 : decode cX3_add 31 = .ok (.aload_n 0, 1) := by decide +kernel
theorem dX3_add_32 : decode cX3_add 32 = .ok (.invokevirtual 48, 3) := by decide +kernel
theorem dX3_add_35 : decode cX3_add 35 = .ok (.aload_n 0, 1) := by decide +kernel
theorem dX3_add_36 : decode cX3_add 36 = .ok (.getfield 10, 3) := by decide +kernel
theorem dX3_add_39 : decode cX3_add 39 = .ok (.iload_n 1, 1) := by decide +kernel
theorem dX3_add_40 : decode cX3_add 40 = .ok (.iload_n 2, 1) := by decide +kernel
theorem dX3_add_41 : decode cX3_add 41 = .ok (.invokevirtual 51, 3) := by decide +kernel
theorem dX3_add_44 : decode cX3_add 44 = .ok (.aload_n 0, 1) := by decide +kernel
theorem dX3_add_45 : decode cX3_add 45 = .ok (.getfield 10, 3) := by decide +kernel
theorem dX3_add_48 : decode cX3_add 48 = .ok (.getfield 44, 3) := by decide +kernel
theorem dX3_add_51 : decode cX3_add 51 = .ok (.iconst 1, 1) := by decide +kernel
theorem dX3_add_52 : decode cX3_add 52 = .ok (.isub, 1) := by decide +kernel
theorem dX3_add_53 : decode cX3_add 53 = .ok (.ireturn, 1) := by decide +kernel
theorem dX3_own_0 : decode cX3_own 0 = .ok (.aload_n 0, 1) := by decide +kernel
theorem dX3_own_1 : decode cX3_own 1 = .ok (.getfield 10, 3) := by decide +kernel
theorem dX3_own_4 : decode cX3_own 4 = .ok (.iload_n 1, 1) := by decide +kernel
theorem dX3_own_5 : decode cX3_own 5 = .ok (.invokevirtual 55, 3) := by decide +kernel
theorem dX3_own_8 : decode cX3_own 8 = .ok (.ifCond .eq 10, 3) := by decide +kernel
theorem dX3_own_11 : decode cX3_own 11 = .ok (.iload_n 2, 1) := by decide +kernel
theorem dX3_own_12 : decode cX3_own 12 = .ok (.invokestatic 37, 3) := by decide +kernel
theorem dX3_own_15 : decode cX3_own 15 = .ok (.ifCond .ne 5, 3) := by decide +kernel
theorem dX3_own_18 : decode cX3_own 18 = .ok (.iconst (-1), 1) := by decide +kernel
theorem dX3_own_19 : decode cX3_own 19 = .ok (.ireturn, 1) := by decide +kernel
theorem dX3_own_20 : decode cX3_own 20 = .ok (.aload_n 0, 1) := by decide +kernel
theorem dX3_own_21 : decode cX3_own 21 = .ok (.invokevirtual 48, 3) := by decide +kernel
theorem dX3_own_24 : decode cX3_own 24 = .ok (.aload_n 0, 1) := by decide +kernel
theorem dX3_own_25 : decode cX3_own 25 = .ok (.getfield 10, 3) := by decide +kernel
theorem dX3_own_28 : decode cX3_own 28 = .ok (.getfield 58, 3) := by decide +kernel
theorem dX3_own_31 : decode cX3_own 31 = .ok (.iload_n 1, 1) := by decide +kernel
theorem dX3_own_32 : decode cX3_own 32 = .ok (.iaload, 1) := by decide +kernel
theorem dX3_own_33 : decode cX3_own 33 = .ok (.istore_n 3, 1) := by decide +kernel
theorem dX3_own_34 : decode cX3_own 34 = .ok (.aload_n 0, 1) := by decide +kernel
theorem dX3_own_35 : decode cX3_own 35 = .ok (.getfield 10, 3) := by decide +kernel
theorem dX3_own_38 : decode cX3_own 38 = .ok (.getfield 58, 3) := by decide +kernel
theorem dX3_own_41 : decode cX3_own 41 = .ok (.iload_n 1, 1) := by decide +kernel
theorem dX3_own_42 : decode cX3_own 42 = .ok (.iload_n 2, 1) := by decide +kernel
theorem dX3_own_43 : decode cX3_own 43 = .ok (.iastore, 1) := by decide +kernel
theorem dX3_own_44 : decode cX3_own 44 = .ok (.iload_n 3, 1) := by decide +kernel
theorem dX3_own_45 : decode cX3_own 45 = .ok (.ireturn, 1) := by decide +kernel
theorem dX3_rank_0 : decode cX3_rank 0 = .ok (.aload_n 0, 1) := by decide +kernel
theorem dX3_rank_1 : decode cX3_rank 1 = .ok (.getfield 10, 3) := by decide +kernel
theorem dX3_rank_4 : decode cX3_rank 4 = .ok (.iload_n 1, 1) := by decide +kernel
theorem dX3_rank_5 : decode cX3_rank 5 = .ok (.invokevirtual 55, 3) := by decide +kernel
theorem dX3_rank_8 : decode cX3_rank 8 = .ok (.ifCond .eq 10, 3) := by decide +kernel
theorem dX3_rank_11 : decode cX3_rank 11 = .ok (.iload_n 2, 1) := by decide +kernel
theorem dX3_rank_12 : decode cX3_rank 12 = .ok (.invokestatic 41, 3) := by decide +kernel
theorem dX3_rank_15 : decode cX3_rank 15 = .ok (.ifCond .ne 5, 3) := by decide +kernel
theorem dX3_rank_18 : decode cX3_rank 18 = .ok (.iconst (-1), 1) := by decide +kernel
theorem dX3_rank_19 : decode cX3_rank 19 = .ok (.ireturn, 1) := by decide +kernel
theorem dX3_rank_20 : decode cX3_rank 20 = .ok (.aload_n 0, 1) := by decide +kernel
theorem dX3_rank_21 : decode cX3_rank 21 = .ok (.invokevirtual 48, 3) := by decide +kernel
theorem dX3_rank_24 : decode cX3_rank 24 = .ok (.aload_n 0, 1) := by decide +kernel
theorem dX3_rank_25 : decode cX3_rank 25 = .ok (.getfield 10, 3) := by decide +kernel
theorem dX3_rank_28 : decode cX3_rank 28 = .ok (.getfield 61, 3) := by decide +kernel
theorem dX3_rank_31 : decode cX3_rank 31 = .ok (.iload_n 1, 1) := by decide +kernel
theorem dX3_rank_32 : decode cX3_rank 32 = .ok (.iaload, 1) := by decide +kernel
theorem dX3_rank_33 : decode cX3_rank 33 = .ok (.istore_n 3, 1) := by decide +kernel
theorem dX3_rank_34 : decode cX3_rank 34 = .ok (.aload_n 0, 1) := by decide +kernel
theorem dX3_rank_35 : decode cX3_rank 35 = .ok (.getfield 10, 3) := by decide +kernel
theorem dX3_rank_38 : decode cX3_rank 38 = .ok (.getfield 61, 3) := by decide +kernel
theorem dX3_rank_41 : decode cX3_rank 41 = .ok (.iload_n 1, 1) := by decide +kernel
theorem dX3_rank_42 : decode cX3_rank 42 = .ok (.iload_n 2, 1) := by decide +kernel
theorem dX3_rank_43 : decode cX3_rank 43 = .ok (.iastore, 1) := by decide +kernel
theorem dX3_rank_44 : decode cX3_rank 44 = .ok (.iload_n 3, 1) := by decide +kernel
theorem dX3_rank_45 : decode cX3_rank 45 = .ok (.ireturn, 1) := by decide +kernel
theorem dX3_way_0 : decode cX3_way 0 = .ok (.aload_n 0, 1) := by decide +kernel
theorem dX3_way_1 : decode cX3_way 1 = .ok (.getfield 10, 3) := by decide +kernel
theorem dX3_way_4 : decode cX3_way 4 = .ok (.iload_n 1, 1) := by decide +kernel
theorem dX3_way_5 : decode cX3_way 5 = .ok (.invokevirtual 55, 3) := by decide +kernel
theorem dX3_way_8 : decode cX3_way 8 = .ok (.ifCond .eq 23, 3) := by decide +kernel
theorem dX3_way_11 : decode cX3_way 11 = .ok (.aload_n 0, 1) := by decide +kernel
theorem dX3_way_12 : decode cX3_way 12 = .ok (.getfield 10, 3) := by decide +kernel
theorem dX3_way_15 : decode cX3_way 15 = .ok (.iload_n 2, 1) := by decide +kernel
theorem dX3_way_16 : decode cX3_way 16 = .ok (.invokevirtual 55, 3) := by decide +kernel
theorem dX3_way_19 : decode cX3_way 19 = .ok (.ifCond .eq 12, 3) := by decide +kernel
theorem dX3_way_22 : decode cX3_way 22 = .ok (.iload_n 3, 1) := by decide +kernel
theorem dX3_way_23 : decode cX3_way 23 = .ok (.ifCond .lt 8, 3) := by decide +kernel
theorem dX3_way_26 : decode cX3_way 26 = .ok (.iload_n 3, 1) := by decide +kernel
theorem dX3_way_27 : decode cX3_way 27 = .ok (.iconst 1, 1) := by decide +kernel
theorem dX3_way_28 : decode cX3_way 28 = .ok (.if_icmp .le 5, 3) := by decide +kernel
theorem dX3_way_31 : decode cX3_way 31 = .ok (.iconst (-1), 1) := by decide +kernel
theorem dX3_way_32 : decode cX3_way 32 = .ok (.ireturn, 1) := by decide +kernel
theorem dX3_way_33 : decode cX3_way 33 = .ok (.aload_n 0, 1) := by decide +kernel
theorem dX3_way_34 : decode cX3_way 34 = .ok (.getfield 10, 3) := by decide +kernel
theorem dX3_way_37 : decode cX3_way 37 = .ok (.getfield 64, 3) := by decide +kernel
theorem dX3_way_40 : decode cX3_way 40 = .ok (.iload_n 1, 1) := by decide +kernel
theorem dX3_way_41 : decode cX3_way 41 = .ok (.iaload, 1) := by decide +kernel
theorem dX3_way_42 : decode cX3_way 42 = .ok (.iload_n 2, 1) := by decide +kernel
theorem dX3_way_43 : decode cX3_way 43 = .ok (.invokestatic 67, 3) := by decide +kernel
theorem dX3_way_46 : decode cX3_way 46 = .ok (.iload_n 3, 1) := by decide +kernel
theorem dX3_way_47 : decode cX3_way 47 = .ok (.iconst 1, 1) := by decide +kernel
theorem dX3_way_48 : decode cX3_way 48 = .ok (.if_icmp .ne 7, 3) := by decide +kernel
theorem dX3_way_51 : decode cX3_way 51 = .ok (.iconst 1, 1) := by decide +kernel
theorem dX3_way_52 : decode cX3_way 52 = .ok (.goto 4, 3) := by decide +kernel
theorem dX3_way_55 : decode cX3_way 55 = .ok (.iconst 0, 1) := by decide +kernel
theorem dX3_way_56 : decode cX3_way 56 = .ok (.if_icmp .ne 6, 3) := by decide +kernel
theorem dX3_way_59 : decode cX3_way 59 = .ok (.bipush (-2), 2) := by decide +kernel
theorem dX3_way_61 : decode cX3_way 61 = .ok (.ireturn, 1) := by decide +kernel
theorem dX3_way_62 : decode cX3_way 62 = .ok (.aload_n 0, 1) := by decide +kernel
theorem dX3_way_63 : decode cX3_way 63 = .ok (.invokevirtual 48, 3) := by decide +kernel
theorem dX3_way_66 : decode cX3_way 66 = .ok (.aload_n 0, 1) := by decide +kernel
theorem dX3_way_67 : decode cX3_way 67 = .ok (.getfield 10, 3) := by decide +kernel
theorem dX3_way_70 : decode cX3_way 70 = .ok (.getfield 64, 3) := by decide +kernel
theorem dX3_way_73 : decode cX3_way 73 = .ok (.iload_n 1, 1) := by decide +kernel
theorem dX3_way_74 : decode cX3_way 74 = .ok (.dup2, 1) := by decide +kernel
theorem dX3_way_75 : decode cX3_way 75 = .ok (.iaload, 1) := by decide +kernel
theorem dX3_way_76 : decode cX3_way 76 = .ok (.iconst 1, 1) := by decide +kernel
theorem dX3_way_77 : decode cX3_way 77 = .ok (.iload_n 2, 1) := by decide +kernel
theorem dX3_way_78 : decode cX3_way 78 = .ok (.ishl, 1) := by decide +kernel
theorem dX3_way_79 : decode cX3_way 79 = .ok (.ixor, 1) := by decide +kernel
theorem dX3_way_80 : decode cX3_way 80 = .ok (.iastore, 1) := by decide +kernel
theorem dX3_way_81 : decode cX3_way 81 = .ok (.aload_n 0, 1) := by decide +kernel
theorem dX3_way_82 : decode cX3_way 82 = .ok (.getfield 10, 3) := by decide +kernel
theorem dX3_way_85 : decode cX3_way 85 = .ok (.getfield 64, 3) := by decide +kernel
theorem dX3_way_88 : decode cX3_way 88 = .ok (.iload_n 1, 1) := by decide +kernel
theorem dX3_way_89 : decode cX3_way 89 = .ok (.iaload, 1) := by decide +kernel
theorem dX3_way_90 : decode cX3_way 90 = .ok (.invokestatic 71, 3) := by decide +kernel
theorem dX3_way_93 : decode cX3_way 93 = .ok (.ireturn, 1) := by decide +kernel
theorem dX3_drop_0 : decode cX3_drop 0 = .ok (.aload_n 0, 1) := by decide +kernel
theorem dX3_drop_1 : decode cX3_drop 1 = .ok (.getfield 10, 3) := by decide +kernel
theorem dX3_drop_4 : decode cX3_drop 4 = .ok (.iload_n 1, 1) := by decide +kernel
theorem dX3_drop_5 : decode cX3_drop 5 = .ok (.invokevirtual 55, 3) := by decide +kernel
theorem dX3_drop_8 : decode cX3_drop 8 = .ok (.ifCond .ne 5, 3) := by decide +kernel
theorem dX3_drop_11 : decode cX3_drop 11 = .ok (.iconst (-1), 1) := by decide +kernel
theorem dX3_drop_12 : decode cX3_drop 12 = .ok (.ireturn, 1) := by decide +kernel
theorem dX3_drop_13 : decode cX3_drop 13 = .ok (.aload_n 0, 1) := by decide +kernel
theorem dX3_drop_14 : decode cX3_drop 14 = .ok (.invokevirtual 48, 3) := by decide +kernel
theorem dX3_drop_17 : decode cX3_drop 17 = .ok (.aload_n 0, 1) := by decide +kernel
theorem dX3_drop_18 : decode cX3_drop 18 = .ok (.getfield 10, 3) := by decide +kernel
theorem dX3_drop_21 : decode cX3_drop 21 = .ok (.iload_n 1, 1) := by decide +kernel
theorem dX3_drop_22 : decode cX3_drop 22 = .ok (.invokevirtual 77, 3) := by decide +kernel
theorem dX3_drop_25 : decode cX3_drop 25 = .ok (.aload_n 0, 1) := by decide +kernel
theorem dX3_drop_26 : decode cX3_drop 26 = .ok (.getfield 10, 3) := by decide +kernel
theorem dX3_drop_29 : decode cX3_drop 29 = .ok (.getfield 44, 3) := by decide +kernel
theorem dX3_drop_32 : decode cX3_drop 32 = .ok (.ireturn, 1) := by decide +kernel
theorem dX3_placeOf_0 : decode cX3_placeOf 0 = .ok (.aload_n 0, 1) := by decide +kernel
theorem dX3_placeOf_1 : decode cX3_placeOf 1 = .ok (.getfield 10, 3) := by decide +kernel
theorem dX3_placeOf_4 : decode cX3_placeOf 4 = .ok (.iload_n 1, 1) := by decide +kernel
theorem dX3_placeOf_5 : decode cX3_placeOf 5 = .ok (.invokevirtual 55, 3) := by decide +kernel
theorem dX3_placeOf_8 : decode cX3_placeOf 8 = .ok (.ifCond .ne 5, 3) := by decide +kernel
theorem dX3_placeOf_11 : decode cX3_placeOf 11 = .ok (.iconst (-1), 1) := by decide +kernel
theorem dX3_placeOf_12 : decode cX3_placeOf 12 = .ok (.ireturn, 1) := by decide +kernel
theorem dX3_placeOf_13 : decode cX3_placeOf 13 = .ok (.iload_n 2, 1) := by decide +kernel
theorem dX3_placeOf_14 : decode cX3_placeOf 14 = .ok (.tableswitch 94 0 5 #[38, 48, 58, 68, 77, 83], 38) := by decide +kernel
theorem dX3_placeOf_52 : decode cX3_placeOf 52 = .ok (.aload_n 0, 1) := by decide +kernel
theorem dX3_placeOf_53 : decode cX3_placeOf 53 = .ok (.getfield 10, 3) := by decide +kernel
theorem dX3_placeOf_56 : decode cX3_placeOf 56 = .ok (.getfield 58, 3) := by decide +kernel
theorem dX3_placeOf_59 : decode cX3_placeOf 59 = .ok (.iload_n 1, 1) := by decide +kernel
theorem dX3_placeOf_60 : decode cX3_placeOf 60 = .ok (.iaload, 1) := by decide +kernel
theorem dX3_placeOf_61 : decode cX3_placeOf 61 = .ok (.ireturn, 1) := by decide +kernel
theorem dX3_placeOf_62 : decode cX3_placeOf 62 = .ok (.aload_n 0, 1) := by decide +kernel
theorem dX3_placeOf_63 : decode cX3_placeOf 63 = .ok (.getfield 10, 3) := by decide +kernel
theorem dX3_placeOf_66 : decode cX3_placeOf 66 = .ok (.getfield 61, 3) := by decide +kernel
theorem dX3_placeOf_69 : decode cX3_placeOf 69 = .ok (.iload_n 1, 1) := by decide +kernel
theorem dX3_placeOf_70 : decode cX3_placeOf 70 = .ok (.iaload, 1) := by decide +kernel
theorem dX3_placeOf_71 : decode cX3_placeOf 71 = .ok (.ireturn, 1) := by decide +kernel
theorem dX3_placeOf_72 : decode cX3_placeOf 72 = .ok (.aload_n 0, 1) := by decide +kernel
theorem dX3_placeOf_73 : decode cX3_placeOf 73 = .ok (.getfield 10, 3) := by decide +kernel
theorem dX3_placeOf_76 : decode cX3_placeOf 76 = .ok (.getfield 64, 3) := by decide +kernel
theorem dX3_placeOf_79 : decode cX3_placeOf 79 = .ok (.iload_n 1, 1) := by decide +kernel
theorem dX3_placeOf_80 : decode cX3_placeOf 80 = .ok (.iaload, 1) := by decide +kernel
theorem dX3_placeOf_81 : decode cX3_placeOf 81 = .ok (.ireturn, 1) := by decide +kernel
theorem dX3_placeOf_82 : decode cX3_placeOf 82 = .ok (.aload_n 0, 1) := by decide +kernel
theorem dX3_placeOf_83 : decode cX3_placeOf 83 = .ok (.getfield 10, 3) := by decide +kernel
theorem dX3_placeOf_86 : decode cX3_placeOf 86 = .ok (.iload_n 1, 1) := by decide +kernel
theorem dX3_placeOf_87 : decode cX3_placeOf 87 = .ok (.invokevirtual 81, 3) := by decide +kernel
theorem dX3_placeOf_90 : decode cX3_placeOf 90 = .ok (.ireturn, 1) := by decide +kernel
theorem dX3_placeOf_91 : decode cX3_placeOf 91 = .ok (.aload_n 0, 1) := by decide +kernel
theorem dX3_placeOf_92 : decode cX3_placeOf 92 = .ok (.iload_n 1, 1) := by decide +kernel
theorem dX3_placeOf_93 : decode cX3_placeOf 93 = .ok (.invokevirtual 84, 3) := by decide +kernel
theorem dX3_placeOf_96 : decode cX3_placeOf 96 = .ok (.ireturn, 1) := by decide +kernel
theorem dX3_placeOf_97 : decode cX3_placeOf 97 = .ok (.aload_n 0, 1) := by decide +kernel
theorem dX3_placeOf_98 : decode cX3_placeOf 98 = .ok (.invokevirtual 87, 3) := by decide +kernel
theorem dX3_placeOf_101 : decode cX3_placeOf 101 = .ok (.aload_n 0, 1) := by decide +kernel
theorem dX3_placeOf_102 : decode cX3_placeOf 102 = .ok (.getfield 33, 3) := by decide +kernel
theorem dX3_placeOf_105 : decode cX3_placeOf 105 = .ok (.iload_n 1, 1) := by decide +kernel
theorem dX3_placeOf_106 : decode cX3_placeOf 106 = .ok (.iaload, 1) := by decide +kernel
theorem dX3_placeOf_107 : decode cX3_placeOf 107 = .ok (.ireturn, 1) := by decide +kernel
theorem dX3_placeOf_108 : decode cX3_placeOf 108 = .ok (.iconst (-1), 1) := by decide +kernel
theorem dX3_placeOf_109 : decode cX3_placeOf 109 = .ok (.ireturn, 1) := by decide +kernel
theorem dX3_count_0 : decode cX3_count 0 = .ok (.iload_n 1, 1) := by decide +kernel
theorem dX3_count_1 : decode cX3_count 1 = .ok (.tableswitch 146 0 8 #[51, 59, 67, 73, 79, 97, 120, 125, 133], 51) := by decide +kernel
theorem dX3_count_52 : decode cX3_count 52 = .ok (.aload_n 0, 1) := by decide +kernel
theorem dX3_count_53 : decode cX3_count 53 = .ok (.getfield 10, 3) := by decide +kernel
theorem dX3_count_56 : decode cX3_count 56 = .ok (.getfield 44, 3) := by decide +kernel
theorem dX3_count_59 : decode cX3_count 59 = .ok (.ireturn, 1) := by decide +kernel
theorem dX3_count_60 : decode cX3_count 60 = .ok (.aload_n 0, 1) := by decide +kernel
theorem dX3_count_61 : decode cX3_count 61 = .ok (.getfield 10, 3) := by decide +kernel
theorem dX3_count_64 : decode cX3_count 64 = .ok (.invokevirtual 90, 3) := by decide +kernel
theorem dX3_count_67 : decode cX3_count 67 = .ok (.ireturn, 1) := by decide +kernel
theorem dX3_count_68 : decode cX3_count 68 = .ok (.aload_n 0, 1) := by decide +kernel
theorem dX3_count_69 : decode cX3_count 69 = .ok (.iconst 0, 1) := by decide +kernel
theorem dX3_count_70 : decode cX3_count 70 = .ok (.invokevirtual 94, 3) := by decide +kernel
theorem dX3_count_73 : decode cX3_count 73 = .ok (.ireturn, 1) := by decide +kernel
theorem dX3_count_74 : decode cX3_count 74 = .ok (.aload_n 0, 1) := by decide +kernel
theorem dX3_count_75 : decode cX3_count 75 = .ok (.iconst 1, 1) := by decide +kernel
theorem dX3_count_76 : decode cX3_count 76 = .ok (.invokevirtual 94, 3) := by decide +kernel
theorem dX3_count_79 : decode cX3_count 79 = .ok (.ireturn, 1) := by decide +kernel
theorem dX3_count_80 : decode cX3_count 80 = .ok (.aload_n 0, 1) := by decide +kernel
theorem dX3_count_81 : decode cX3_count 81 = .ok (.getfield 10, 3) := by decide +kernel
theorem dX3_count_84 : decode cX3_count 84 = .ok (.iconst 0, 1) := by decide +kernel
theorem dX3_count_85 : decode cX3_count 85 = .ok (.invokevirtual 97, 3) := by decide +kernel
theorem dX3_count_88 : decode cX3_count 88 = .ok (.aload_n 0, 1) := by decide +kernel
theorem dX3_count_89 : decode cX3_count 89 = .ok (.getfield 10, 3) := by decide +kernel
theorem dX3_count_92 : decode cX3_count 92 = .ok (.iconst 1, 1) := by decide +kernel
theorem dX3_count_93 : decode cX3_count 93 = .ok (.invokevirtual 97, 3) := by decide +kernel
theorem dX3_count_96 : decode cX3_count 96 = .ok (.ior, 1) := by decide +kernel
theorem dX3_count_97 : decode cX3_count 97 = .ok (.ireturn, 1) := by decide +kernel
theorem dX3_count_98 : decode cX3_count 98 = .ok (.aload_n 0, 1) := by decide +kernel
theorem dX3_count_99 : decode cX3_count 99 = .ok (.getfield 10, 3) := by decide +kernel
theorem dX3_count_102 : decode cX3_count 102 = .ok (.getfield 44, 3) := by decide +kernel
theorem dX3_count_105 : decode cX3_count 105 = .ok (.ifCond .ne 8, 3) := by decide +kernel
theorem dX3_count_108 : decode cX3_count 108 = .ok (.bipush (-4), 2) := by decide +kernel
theorem dX3_count_110 : decode cX3_count 110 = .ok (.goto 10, 3) := by decide +kernel
theorem dX3_count_113 : decode cX3_count 113 = .ok (.aload_n 0, 1) := by decide +kernel
theorem dX3_count_114 : decode cX3_count 114 = .ok (.getfield 10, 3) := by decide +kernel
theorem dX3_count_117 : decode cX3_count 117 = .ok (.invokevirtual 100, 3) := by decide +kernel
theorem dX3_count_120 : decode cX3_count 120 = .ok (.ireturn, 1) := by decide +kernel
theorem dX3_count_121 : decode cX3_count 121 = .ok (.aload_n 0, 1) := by decide +kernel
theorem dX3_count_122 : decode cX3_count 122 = .ok (.getfield 103, 3) := by decide +kernel
theorem dX3_count_125 : decode cX3_count 125 = .ok (.ireturn, 1) := by decide +kernel
theorem dX3_count_126 : decode cX3_count 126 = .ok (.aload_n 0, 1) := by decide +kernel
theorem dX3_count_127 : decode cX3_count 127 = .ok (.getfield 26, 3) := by decide +kernel
theorem dX3_count_130 : decode cX3_count 130 = .ok (.getfield 106, 3) := by decide +kernel
theorem dX3_count_133 : decode cX3_count 133 = .ok (.ireturn, 1) := by decide +kernel
theorem dX3_count_134 : decode cX3_count 134 = .ok (.aload_n 0, 1) := by decide +kernel
theorem dX3_count_135 : decode cX3_count 135 = .ok (.getfield 109, 3) := by decide +kernel
theorem dX3_count_138 : decode cX3_count 138 = .ok (.ifCond .eq 7, 3) := by decide +kernel
theorem dX3_count_141 : decode cX3_count 141 = .ok (.iconst 1, 1) := by decide +kernel
theorem dX3_count_142 : decode cX3_count 142 = .ok (.goto 4, 3) := by decide +kernel
theorem dX3_count_145 : decode cX3_count 145 = .ok (.iconst 0, 1) := by decide +kernel
theorem dX3_count_146 : decode cX3_count 146 = .ok (.ireturn, 1) := by decide +kernel
theorem dX3_count_147 : decode cX3_count 147 = .ok (.iconst (-1), 1) := by decide +kernel
theorem dX3_count_148 : decode cX3_count 148 = .ok (.ireturn, 1) := by decide +kernel
theorem dX3_pulled_0 : decode cX3_pulled 0 = .ok (.iload_n 1, 1) := by decide +kernel
theorem dX3_pulled_1 : decode cX3_pulled 1 = .ok (.invokestatic 37, 3) := by decide +kernel
theorem dX3_pulled_4 : decode cX3_pulled 4 = .ok (.ifCond .eq 14, 3) := by decide +kernel
theorem dX3_pulled_7 : decode cX3_pulled 7 = .ok (.aload_n 0, 1) := by decide +kernel
theorem dX3_pulled_8 : decode cX3_pulled 8 = .ok (.getfield 10, 3) := by decide +kernel
theorem dX3_pulled_11 : decode cX3_pulled 11 = .ok (.iload_n 2, 1) := by decide +kernel
theorem dX3_pulled_12 : decode cX3_pulled 12 = .ok (.invokevirtual 113, 3) := by decide +kernel
theorem dX3_pulled_15 : decode cX3_pulled 15 = .ok (.ifCond .ne 5, 3) := by decide +kernel
theorem dX3_pulled_18 : decode cX3_pulled 18 = .ok (.iconst (-1), 1) := by decide +kernel
theorem dX3_pulled_19 : decode cX3_pulled 19 = .ok (.ireturn, 1) := by decide +kernel
theorem dX3_pulled_20 : decode cX3_pulled 20 = .ok (.aload_n 0, 1) := by decide +kernel
theorem dX3_pulled_21 : decode cX3_pulled 21 = .ok (.getfield 10, 3) := by decide +kernel
theorem dX3_pulled_24 : decode cX3_pulled 24 = .ok (.iload_n 1, 1) := by decide +kernel
theorem dX3_pulled_25 : decode cX3_pulled 25 = .ok (.iload_n 2, 1) := by decide +kernel
theorem dX3_pulled_26 : decode cX3_pulled 26 = .ok (.aload_n 0, 1) := by decide +kernel
theorem dX3_pulled_27 : decode cX3_pulled 27 = .ok (.getfield 10, 3) := by decide +kernel
theorem dX3_pulled_30 : decode cX3_pulled 30 = .ok (.invokevirtual 116, 3) := by decide +kernel
theorem dX3_pulled_33 : decode cX3_pulled 33 = .ok (.invokestatic 119, 3) := by decide +kernel
theorem dX3_pulled_36 : decode cX3_pulled 36 = .ok (.ireturn, 1) := by decide +kernel
theorem dX3_steps_0 : decode cX3_steps 0 = .ok (.iload_n 1, 1) := by decide +kernel
theorem dX3_steps_1 : decode cX3_steps 1 = .ok (.invokestatic 37, 3) := by decide +kernel
theorem dX3_steps_4 : decode cX3_steps 4 = .ok (.ifCond .eq 25, 3) := by decide +kernel
theorem dX3_steps_7 : decode cX3_steps 7 = .ok (.aload_n 0, 1) := by decide +kernel
theorem dX3_steps_8 : decode cX3_steps 8 = .ok (.getfield 10, 3) := by decide +kernel
theorem dX3_steps_11 : decode cX3_steps 11 = .ok (.iload_n 2, 1) := by decide +kernel
theorem dX3_steps_12 : decode cX3_steps 12 = .ok (.invokevirtual 113, 3) := by decide +kernel
theorem dX3_steps_15 : decode cX3_steps 15 = .ok (.ifCond .eq 14, 3) := by decide +kernel
theorem dX3_steps_18 : decode cX3_steps 18 = .ok (.aload_n 0, 1) := by decide +kernel
theorem dX3_steps_19 : decode cX3_steps 19 = .ok (.getfield 10, 3) := by decide +kernel
theorem dX3_steps_22 : decode cX3_steps 22 = .ok (.iload_n 3, 1) := by decide +kernel
theorem dX3_steps_23 : decode cX3_steps 23 = .ok (.invokevirtual 55, 3) := by decide +kernel
theorem dX3_steps_26 : decode cX3_steps 26 = .ok (.ifCond .ne 5, 3) := by decide +kernel
theorem dX3_steps_29 : decode cX3_steps 29 = .ok (.iconst (-1), 1) := by decide +kernel
theorem dX3_steps_30 : decode cX3_steps 30 = .ok (.ireturn, 1) := by decide +kernel
theorem dX3_steps_31 : decode cX3_steps 31 = .ok (.iload_n 2, 1) := by decide +kernel
theorem dX3_steps_32 : decode cX3_steps 32 = .ok (.istore 4, 2) := by decide +kernel
theorem dX3_steps_34 : decode cX3_steps 34 = .ok (.iconst 0, 1) := by decide +kernel
theorem dX3_steps_35 : decode cX3_steps 35 = .ok (.istore 5, 2) := by decide +kernel
theorem dX3_steps_37 : decode cX3_steps 37 = .ok (.iload 5, 2) := by decide +kernel
theorem dX3_steps_39 : decode cX3_steps 39 = .ok (.bipush 12, 2) := by decide +kernel
theorem dX3_steps_41 : decode cX3_steps 41 = .ok (.if_icmp .ge 40, 3) := by decide +kernel
theorem dX3_steps_44 : decode cX3_steps 44 = .ok (.iload 4, 2) := by decide +kernel
theorem dX3_steps_46 : decode cX3_steps 46 = .ok (.iload_n 3, 1) := by decide +kernel
theorem dX3_steps_47 : decode cX3_steps 47 = .ok (.invokestatic 67, 3) := by decide +kernel
theorem dX3_steps_50 : decode cX3_steps 50 = .ok (.ifCond .eq 6, 3) := by decide +kernel
theorem dX3_steps_53 : decode cX3_steps 53 = .ok (.iload 5, 2) := by decide +kernel
theorem dX3_steps_55 : decode cX3_steps 55 = .ok (.ireturn, 1) := by decide +kernel
theorem dX3_steps_56 : decode cX3_steps 56 = .ok (.aload_n 0, 1) := by decide +kernel
theorem dX3_steps_57 : decode cX3_steps 57 = .ok (.getfield 10, 3) := by decide +kernel
theorem dX3_steps_60 : decode cX3_steps 60 = .ok (.iload_n 1, 1) := by decide +kernel
theorem dX3_steps_61 : decode cX3_steps 61 = .ok (.iload 4, 2) := by decide +kernel
theorem dX3_steps_63 : decode cX3_steps 63 = .ok (.aload_n 0, 1) := by decide +kernel
theorem dX3_steps_64 : decode cX3_steps 64 = .ok (.getfield 10, 3) := by decide +kernel
theorem dX3_steps_67 : decode cX3_steps 67 = .ok (.invokevirtual 116, 3) := by decide +kernel
theorem dX3_steps_70 : decode cX3_steps 70 = .ok (.invokestatic 125, 3) := by decide +kernel
theorem dX3_steps_73 : decode cX3_steps 73 = .ok (.istore 4, 2) := by decide +kernel
theorem dX3_steps_75 : decode cX3_steps 75 = .ok (.iinc 5 1, 3) := by decide +kernel
theorem dX3_steps_78 : decode cX3_steps 78 = .ok (.goto (-41), 3) := by decide +kernel
theorem dX3_steps_81 : decode cX3_steps 81 = .ok (.bipush (-4), 2) := by decide +kernel
theorem dX3_steps_83 : decode cX3_steps 83 = .ok (.ireturn, 1) := by decide +kernel
theorem dX3_trap_0 : decode cX3_trap 0 = .ok (.iload_n 1, 1) := by decide +kernel
theorem dX3_trap_1 : decode cX3_trap 1 = .ok (.invokestatic 37, 3) := by decide +kernel
theorem dX3_trap_4 : decode cX3_trap 4 = .ok (.ifCond .eq 14, 3) := by decide +kernel
theorem dX3_trap_7 : decode cX3_trap 7 = .ok (.aload_n 0, 1) := by decide +kernel
theorem dX3_trap_8 : decode cX3_trap 8 = .ok (.getfield 10, 3) := by decide +kernel
theorem dX3_trap_11 : decode cX3_trap 11 = .ok (.iload_n 2, 1) := by decide +kernel
theorem dX3_trap_12 : decode cX3_trap 12 = .ok (.invokevirtual 113, 3) := by decide +kernel
theorem dX3_trap_15 : decode cX3_trap 15 = .ok (.ifCond .ne 5, 3) := by decide +kernel
theorem dX3_trap_18 : decode cX3_trap 18 = .ok (.iconst (-1), 1) := by decide +kernel
theorem dX3_trap_19 : decode cX3_trap 19 = .ok (.ireturn, 1) := by decide +kernel
theorem dX3_trap_20 : decode cX3_trap 20 = .ok (.aload_n 0, 1) := by decide +kernel
theorem dX3_trap_21 : decode cX3_trap 21 = .ok (.getfield 10, 3) := by decide +kernel
theorem dX3_trap_24 : decode cX3_trap 24 = .ok (.iload_n 1, 1) := by decide +kernel
theorem dX3_trap_25 : decode cX3_trap 25 = .ok (.iload_n 2, 1) := by decide +kernel
theorem dX3_trap_26 : decode cX3_trap 26 = .ok (.invokestatic 128, 3) := by decide +kernel
theorem dX3_trap_29 : decode cX3_trap 29 = .ok (.iload_n 2, 1) := by decide +kernel
theorem dX3_trap_30 : decode cX3_trap 30 = .ok (.if_icmp .ne 7, 3) := by decide +kernel
theorem dX3_trap_33 : decode cX3_trap 33 = .ok (.iconst 1, 1) := by decide +kernel
theorem dX3_trap_34 : decode cX3_trap 34 = .ok (.goto 4, 3) := by decide +kernel
theorem dX3_trap_37 : decode cX3_trap 37 = .ok (.iconst 0, 1) := by decide +kernel
theorem dX3_trap_38 : decode cX3_trap 38 = .ok (.ireturn, 1) := by decide +kernel
theorem dX3_greatestTrap_0 : decode cX3_greatestTrap 0 = .ok (.iload_n 1, 1) := by decide +kernel
theorem dX3_greatestTrap_1 : decode cX3_greatestTrap 1 = .ok (.invokestatic 37, 3) := by decide +kernel
theorem dX3_greatestTrap_4 : decode cX3_greatestTrap 4 = .ok (.ifCond .eq 14, 3) := by decide +kernel
theorem dX3_greatestTrap_7 : decode cX3_greatestTrap 7 = .ok (.aload_n 0, 1) := by decide +kernel
theorem dX3_greatestTrap_8 : decode cX3_greatestTrap 8 = .ok (.getfield 10, 3) := by decide +kernel
theorem dX3_greatestTrap_11 : decode cX3_greatestTrap 11 = .ok (.iload_n 2, 1) := by decide +kernel
theorem dX3_greatestTrap_12 : decode cX3_greatestTrap 12 = .ok (.invokevirtual 113, 3) := by decide +kernel
theorem dX3_greatestTrap_15 : decode cX3_greatestTrap 15 = .ok (.ifCond .ne 5, 3) := by decide +kernel
theorem dX3_greatestTrap_18 : decode cX3_greatestTrap 18 = .ok (.iconst (-1), 1) := by decide +kernel
theorem dX3_greatestTrap_19 : decode cX3_greatestTrap 19 = .ok (.ireturn, 1) := by decide +kernel
theorem dX3_greatestTrap_20 : decode cX3_greatestTrap 20 = .ok (.iload_n 2, 1) := by decide +kernel
theorem dX3_greatestTrap_21 : decode cX3_greatestTrap 21 = .ok (.istore_n 3, 1) := by decide +kernel
theorem dX3_greatestTrap_22 : decode cX3_greatestTrap 22 = .ok (.iconst 0, 1) := by decide +kernel
theorem dX3_greatestTrap_23 : decode cX3_greatestTrap 23 = .ok (.istore 4, 2) := by decide +kernel
theorem dX3_greatestTrap_25 : decode cX3_greatestTrap 25 = .ok (.iload 4, 2) := by decide +kernel
theorem dX3_greatestTrap_27 : decode cX3_greatestTrap 27 = .ok (.bipush 12, 2) := by decide +kernel
theorem dX3_greatestTrap_29 : decode cX3_greatestTrap 29 = .ok (.if_icmp .ge 19, 3) := by decide +kernel
theorem dX3_greatestTrap_32 : decode cX3_greatestTrap 32 = .ok (.aload_n 0, 1) := by decide +kernel
theorem dX3_greatestTrap_33 : decode cX3_greatestTrap 33 = .ok (.getfield 10, 3) := by decide +kernel
theorem dX3_greatestTrap_36 : decode cX3_greatestTrap 36 = .ok (.iload_n 1, 1) := by decide +kernel
theorem dX3_greatestTrap_37 : decode cX3_greatestTrap 37 = .ok (.iload_n 3, 1) := by decide +kernel
theorem dX3_greatestTrap_38 : decode cX3_greatestTrap 38 = .ok (.invokestatic 128, 3) := by decide +kernel
theorem dX3_greatestTrap_41 : decode cX3_greatestTrap 41 = .ok (.istore_n 3, 1) := by decide +kernel
theorem dX3_greatestTrap_42 : decode cX3_greatestTrap 42 = .ok (.iinc 4 1, 3) := by decide +kernel
theorem dX3_greatestTrap_45 : decode cX3_greatestTrap 45 = .ok (.goto (-20), 3) := by decide +kernel
theorem dX3_greatestTrap_48 : decode cX3_greatestTrap 48 = .ok (.iload_n 3, 1) := by decide +kernel
theorem dX3_greatestTrap_49 : decode cX3_greatestTrap 49 = .ok (.ireturn, 1) := by decide +kernel
theorem dX3_play_0 : decode cX3_play 0 = .ok (.aload_n 0, 1) := by decide +kernel
theorem dX3_play_1 : decode cX3_play 1 = .ok (.getfield 10, 3) := by decide +kernel
theorem dX3_play_4 : decode cX3_play 4 = .ok (.iload_n 1, 1) := by decide +kernel
theorem dX3_play_5 : decode cX3_play 5 = .ok (.invokevirtual 55, 3) := by decide +kernel
theorem dX3_play_8 : decode cX3_play 8 = .ok (.ifCond .eq 12, 3) := by decide +kernel
theorem dX3_play_11 : decode cX3_play 11 = .ok (.iload_n 2, 1) := by decide +kernel
theorem dX3_play_12 : decode cX3_play 12 = .ok (.ifCond .lt 8, 3) := by decide +kernel
theorem dX3_play_15 : decode cX3_play 15 = .ok (.iload_n 2, 1) := by decide +kernel
theorem dX3_play_16 : decode cX3_play 16 = .ok (.iconst 3, 1) := by decide +kernel
theorem dX3_play_17 : decode cX3_play 17 = .ok (.if_icmp .le 5, 3) := by decide +kernel
theorem dX3_play_20 : decode cX3_play 20 = .ok (.iconst (-1), 1) := by decide +kernel
theorem dX3_play_21 : decode cX3_play 21 = .ok (.ireturn, 1) := by decide +kernel
theorem dX3_play_22 : decode cX3_play 22 = .ok (.aload_n 0, 1) := by decide +kernel
theorem dX3_play_23 : decode cX3_play 23 = .ok (.invokevirtual 87, 3) := by decide +kernel
theorem dX3_play_26 : decode cX3_play 26 = .ok (.iconst 0, 1) := by decide +kernel
theorem dX3_play_27 : decode cX3_play 27 = .ok (.istore_n 3, 1) := by decide +kernel
theorem dX3_play_28 : decode cX3_play 28 = .ok (.iload_n 1, 1) := by decide +kernel
theorem dX3_play_29 : decode cX3_play 29 = .ok (.istore 4, 2) := by decide +kernel
theorem dX3_play_31 : decode cX3_play 31 = .ok (.iload_n 1, 1) := by decide +kernel
theorem dX3_play_32 : decode cX3_play 32 = .ok (.istore 5, 2) := by decide +kernel
theorem dX3_play_34 : decode cX3_play 34 = .ok (.iconst 0, 1) := by decide +kernel
theorem dX3_play_35 : decode cX3_play 35 = .ok (.istore 6, 2) := by decide +kernel
theorem dX3_play_37 : decode cX3_play 37 = .ok (.iload 6, 2) := by decide +kernel
theorem dX3_play_39 : decode cX3_play 39 = .ok (.bipush 12, 2) := by decide +kernel
theorem dX3_play_41 : decode cX3_play 41 = .ok (.if_icmp .ge 50, 3) := by decide +kernel
theorem dX3_play_44 : decode cX3_play 44 = .ok (.aload_n 0, 1) := by decide +kernel
theorem dX3_play_45 : decode cX3_play 45 = .ok (.getfield 10, 3) := by decide +kernel
theorem dX3_play_48 : decode cX3_play 48 = .ok (.iload 5, 2) := by decide +kernel
theorem dX3_play_50 : decode cX3_play 50 = .ok (.invokevirtual 55, 3) := by decide +kernel
theorem dX3_play_53 : decode cX3_play 53 = .ok (.ifCond .eq 38, 3) := by decide +kernel
theorem dX3_play_56 : decode cX3_play 56 = .ok (.iload_n 3, 1) := by decide +kernel
theorem dX3_play_57 : decode cX3_play 57 = .ok (.iload 5, 2) := by decide +kernel
theorem dX3_play_59 : decode cX3_play 59 = .ok (.invokestatic 67, 3) := by decide +kernel
theorem dX3_play_62 : decode cX3_play 62 = .ok (.ifCond .ne 29, 3) := by decide +kernel
theorem dX3_play_65 : decode cX3_play 65 = .ok (.iload_n 3, 1) := by decide +kernel
theorem dX3_play_66 : decode cX3_play 66 = .ok (.iconst 1, 1) := by decide +kernel
theorem dX3_play_67 : decode cX3_play 67 = .ok (.iload 5, 2) := by decide +kernel
theorem dX3_play_69 : decode cX3_play 69 = .ok (.ishl, 1) := by decide +kernel
theorem dX3_play_70 : decode cX3_play 70 = .ok (.ior, 1) := by decide +kernel
theorem dX3_play_71 : decode cX3_play 71 = .ok (.istore_n 3, 1) := by decide +kernel
theorem dX3_play_72 : decode cX3_play 72 = .ok (.iload 5, 2) := by decide +kernel
theorem dX3_play_74 : decode cX3_play 74 = .ok (.istore 4, 2) := by decide +kernel
theorem dX3_play_76 : decode cX3_play 76 = .ok (.aload_n 0, 1) := by decide +kernel
theorem dX3_play_77 : decode cX3_play 77 = .ok (.getfield 33, 3) := by decide +kernel
theorem dX3_play_80 : decode cX3_play 80 = .ok (.iload 5, 2) := by decide +kernel
theorem dX3_play_82 : decode cX3_play 82 = .ok (.iaload, 1) := by decide +kernel
theorem dX3_play_83 : decode cX3_play 83 = .ok (.istore 5, 2) := by decide +kernel
theorem dX3_play_85 : decode cX3_play 85 = .ok (.iinc 6 1, 3) := by decide +kernel
theorem dX3_play_88 : decode cX3_play 88 = .ok (.goto (-51), 3) := by decide +kernel
theorem dX3_play_91 : decode cX3_play 91 = .ok (.iload_n 2, 1) := by decide +kernel
theorem dX3_play_92 : decode cX3_play 92 = .ok (.ifCond .ne 8, 3) := by decide +kernel
theorem dX3_play_95 : decode cX3_play 95 = .ok (.iload_n 3, 1) := by decide +kernel
theorem dX3_play_96 : decode cX3_play 96 = .ok (.invokestatic 71, 3) := by decide +kernel
theorem dX3_play_99 : decode cX3_play 99 = .ok (.ireturn, 1) := by decide +kernel
theorem dX3_play_100 : decode cX3_play 100 = .ok (.aload_n 0, 1) := by decide +kernel
theorem dX3_play_101 : decode cX3_play 101 = .ok (.getfield 10, 3) := by decide +kernel
theorem dX3_play_104 : decode cX3_play 104 = .ok (.iload 5, 2) := by decide +kernel
theorem dX3_play_106 : decode cX3_play 106 = .ok (.invokevirtual 55, 3) := by decide +kernel
theorem dX3_play_109 : decode cX3_play 109 = .ok (.ifCond .ne 26, 3) := by decide +kernel
theorem dX3_play_112 : decode cX3_play 112 = .ok (.iload_n 2, 1) := by decide +kernel
theorem dX3_play_113 : decode cX3_play 113 = .ok (.iconst 3, 1) := by decide +kernel
theorem dX3_play_114 : decode cX3_play 114 = .ok (.if_icmp .ne 18, 3) := by decide +kernel
theorem dX3_play_117 : decode cX3_play 117 = .ok (.iconst 1, 1) := by decide +kernel
theorem dX3_play_118 : decode cX3_play 118 = .ok (.aload_n 0, 1) := by decide +kernel
theorem dX3_play_119 : decode cX3_play 119 = .ok (.getfield 10, 3) := by decide +kernel
theorem dX3_play_122 : decode cX3_play 122 = .ok (.getfield 58, 3) := by decide +kernel
theorem dX3_play_125 : decode cX3_play 125 = .ok (.iload 4, 2) := by decide +kernel
theorem dX3_play_127 : decode cX3_play 127 = .ok (.iaload, 1) := by decide +kernel
theorem dX3_play_128 : decode cX3_play 128 = .ok (.isub, 1) := by decide +kernel
theorem dX3_play_129 : decode cX3_play 129 = .ok (.goto 5, 3) := by decide +kernel
theorem dX3_play_132 : decode cX3_play 132 = .ok (.bipush (-4), 2) := by decide +kernel
theorem dX3_play_134 : decode cX3_play 134 = .ok (.ireturn, 1) := by decide +kernel
theorem dX3_play_135 : decode cX3_play 135 = .ok (.iload_n 2, 1) := by decide +kernel
theorem dX3_play_136 : decode cX3_play 136 = .ok (.iconst 1, 1) := by decide +kernel
theorem dX3_play_137 : decode cX3_play 137 = .ok (.if_icmp .ne 6, 3) := by decide +kernel
theorem dX3_play_140 : decode cX3_play 140 = .ok (.iload 5, 2) := by decide +kernel
theorem dX3_play_142 : decode cX3_play 142 = .ok (.ireturn, 1) := by decide +kernel
theorem dX3_play_143 : decode cX3_play 143 = .ok (.aload_n 0, 1) := by decide +kernel
theorem dX3_play_144 : decode cX3_play 144 = .ok (.iload 5, 2) := by decide +kernel
theorem dX3_play_146 : decode cX3_play 146 = .ok (.invokevirtual 132, 3) := by decide +kernel
theorem dX3_play_149 : decode cX3_play 149 = .ok (.istore 6, 2) := by decide +kernel
theorem dX3_play_151 : decode cX3_play 151 = .ok (.iload_n 2, 1) := by decide +kernel
theorem dX3_play_152 : decode cX3_play 152 = .ok (.iconst 2, 1) := by decide +kernel
theorem dX3_play_153 : decode cX3_play 153 = .ok (.if_icmp .ne 8, 3) := by decide +kernel
theorem dX3_play_156 : decode cX3_play 156 = .ok (.iload 6, 2) := by decide +kernel
theorem dX3_play_158 : decode cX3_play 158 = .ok (.goto 7, 3) := by decide +kernel
theorem dX3_play_161 : decode cX3_play 161 = .ok (.iload 6, 2) := by decide +kernel
theorem dX3_play_163 : decode cX3_play 163 = .ok (.iconst 2, 1) := by decide +kernel
theorem dX3_play_164 : decode cX3_play 164 = .ok (.irem, 1) := by decide +kernel
theorem dX3_play_165 : decode cX3_play 165 = .ok (.ireturn, 1) := by decide +kernel
theorem dX3_proves_0 : decode cX3_proves 0 = .ok (.iload_n 1, 1) := by decide +kernel
theorem dX3_proves_1 : decode cX3_proves 1 = .ok (.invokestatic 37, 3) := by decide +kernel
theorem dX3_proves_4 : decode cX3_proves 4 = .ok (.ifCond .ne 5, 3) := by decide +kernel
theorem dX3_proves_7 : decode cX3_proves 7 = .ok (.iconst (-1), 1) := by decide +kernel
theorem dX3_proves_8 : decode cX3_proves 8 = .ok (.ireturn, 1) := by decide +kernel
theorem dX3_proves_9 : decode cX3_proves 9 = .ok (.aload_n 0, 1) := by decide +kernel
theorem dX3_proves_10 : decode cX3_proves 10 = .ok (.invokevirtual 87, 3) := by decide +kernel
theorem dX3_proves_13 : decode cX3_proves 13 = .ok (.aload_n 0, 1) := by decide +kernel
theorem dX3_proves_14 : decode cX3_proves 14 = .ok (.iload_n 1, 1) := by decide +kernel
theorem dX3_proves_15 : decode cX3_proves 15 = .ok (.invokevirtual 94, 3) := by decide +kernel
theorem dX3_proves_18 : decode cX3_proves 18 = .ok (.istore_n 2, 1) := by decide +kernel
theorem dX3_proves_19 : decode cX3_proves 19 = .ok (.aload_n 0, 1) := by decide +kernel
theorem dX3_proves_20 : decode cX3_proves 20 = .ok (.getfield 30, 3) := by decide +kernel
theorem dX3_proves_23 : decode cX3_proves 23 = .ok (.aload_n 0, 1) := by decide +kernel
theorem dX3_proves_24 : decode cX3_proves 24 = .ok (.getfield 10, 3) := by decide +kernel
theorem dX3_proves_27 : decode cX3_proves 27 = .ok (.invokevirtual 135, 3) := by decide +kernel
theorem dX3_proves_30 : decode cX3_proves 30 = .ok (.iconst 0, 1) := by decide +kernel
theorem dX3_proves_31 : decode cX3_proves 31 = .ok (.istore_n 3, 1) := by decide +kernel
theorem dX3_proves_32 : decode cX3_proves 32 = .ok (.iload_n 3, 1) := by decide +kernel
theorem dX3_proves_33 : decode cX3_proves 33 = .ok (.aload_n 0, 1) := by decide +kernel
theorem dX3_proves_34 : decode cX3_proves 34 = .ok (.getfield 10, 3) := by decide +kernel
theorem dX3_proves_37 : decode cX3_proves 37 = .ok (.getfield 44, 3) := by decide +kernel
theorem dX3_proves_40 : decode cX3_proves 40 = .ok (.if_icmp .ge 63, 3) := by decide +kernel
theorem dX3_proves_43 : decode cX3_proves 43 = .ok (.iload_n 2, 1) := by decide +kernel
theorem dX3_proves_44 : decode cX3_proves 44 = .ok (.iload_n 3, 1) := by decide +kernel
theorem dX3_proves_45 : decode cX3_proves 45 = .ok (.invokestatic 67, 3) := by decide +kernel
theorem dX3_proves_48 : decode cX3_proves 48 = .ok (.ifCond .eq 49, 3) := by decide +kernel
theorem dX3_proves_51 : decode cX3_proves 51 = .ok (.aload_n 0, 1) := by decide +kernel
theorem dX3_proves_52 : decode cX3_proves 52 = .ok (.getfield 10, 3) := by decide +kernel
theorem dX3_proves_55 : decode cX3_proves 55 = .ok (.getfield 58, 3) := by decide +kernel
theorem dX3_proves_58 : decode cX3_proves 58 = .ok (.iload_n 3, 1) := by decide +kernel
theorem dX3_proves_59 : decode cX3_proves 59 = .ok (.iaload, 1) := by decide +kernel
theorem dX3_proves_60 : decode cX3_proves 60 = .ok (.iload_n 1, 1) := by decide +kernel
theorem dX3_proves_61 : decode cX3_proves 61 = .ok (.if_icmp .ne 36, 3) := by decide +kernel
theorem dX3_proves_64 : decode cX3_proves 64 = .ok (.aload_n 0, 1) := by decide +kernel
theorem dX3_proves_65 : decode cX3_proves 65 = .ok (.getfield 10, 3) := by decide +kernel
theorem dX3_proves_68 : decode cX3_proves 68 = .ok (.aload_n 0, 1) := by decide +kernel
theorem dX3_proves_69 : decode cX3_proves 69 = .ok (.getfield 33, 3) := by decide +kernel
theorem dX3_proves_72 : decode cX3_proves 72 = .ok (.iload_n 3, 1) := by decide +kernel
theorem dX3_proves_73 : decode cX3_proves 73 = .ok (.iaload, 1) := by decide +kernel
theorem dX3_proves_74 : decode cX3_proves 74 = .ok (.invokevirtual 55, 3) := by decide +kernel
theorem dX3_proves_77 : decode cX3_proves 77 = .ok (.ifCond .eq 20, 3) := by decide +kernel
theorem dX3_proves_80 : decode cX3_proves 80 = .ok (.aload_n 0, 1) := by decide +kernel
theorem dX3_proves_81 : decode cX3_proves 81 = .ok (.getfield 30, 3) := by decide +kernel
theorem dX3_proves_84 : decode cX3_proves 84 = .ok (.getfield 64, 3) := by decide +kernel
theorem dX3_proves_87 : decode cX3_proves 87 = .ok (.iload_n 3, 1) := by decide +kernel
theorem dX3_proves_88 : decode cX3_proves 88 = .ok (.iconst 1, 1) := by decide +kernel
theorem dX3_proves_89 : decode cX3_proves 89 = .ok (.aload_n 0, 1) := by decide +kernel
theorem dX3_proves_90 : decode cX3_proves 90 = .ok (.getfield 33, 3) := by decide +kernel
theorem dX3_proves_93 : decode cX3_proves 93 = .ok (.iload_n 3, 1) := by decide +kernel
theorem dX3_proves_94 : decode cX3_proves 94 = .ok (.iaload, 1) := by decide +kernel
theorem dX3_proves_95 : decode cX3_proves 95 = .ok (.ishl, 1) := by decide +kernel
theorem dX3_proves_96 : decode cX3_proves 96 = .ok (.iastore, 1) := by decide +kernel
theorem dX3_proves_97 : decode cX3_proves 97 = .ok (.iinc 3 1, 3) := by decide +kernel
theorem dX3_proves_100 : decode cX3_proves 100 = .ok (.goto (-68), 3) := by decide +kernel
theorem dX3_proves_103 : decode cX3_proves 103 = .ok (.iconst 0, 1) := by decide +kernel
theorem dX3_proves_104 : decode cX3_proves 104 = .ok (.istore_n 3, 1) := by decide +kernel
theorem dX3_proves_105 : decode cX3_proves 105 = .ok (.iload_n 3, 1) := by decide +kernel
theorem dX3_proves_106 : decode cX3_proves 106 = .ok (.aload_n 0, 1) := by decide +kernel
theorem dX3_proves_107 : decode cX3_proves 107 = .ok (.getfield 10, 3) := by decide +kernel
theorem dX3_proves_110 : decode cX3_proves 110 = .ok (.getfield 44, 3) := by decide +kernel
theorem dX3_proves_113 : decode cX3_proves 113 = .ok (.if_icmp .ge 35, 3) := by decide +kernel
theorem dX3_proves_116 : decode cX3_proves 116 = .ok (.iload_n 2, 1) := by decide +kernel
theorem dX3_proves_117 : decode cX3_proves 117 = .ok (.iload_n 3, 1) := by decide +kernel
theorem dX3_proves_118 : decode cX3_proves 118 = .ok (.invokestatic 67, 3) := by decide +kernel
theorem dX3_proves_121 : decode cX3_proves 121 = .ok (.ifCond .eq 21, 3) := by decide +kernel
theorem dX3_proves_124 : decode cX3_proves 124 = .ok (.aload_n 0, 1) := by decide +kernel
theorem dX3_proves_125 : decode cX3_proves 125 = .ok (.getfield 30, 3) := by decide +kernel
theorem dX3_proves_128 : decode cX3_proves 128 = .ok (.getfield 64, 3) := by decide +kernel
theorem dX3_proves_131 : decode cX3_proves 131 = .ok (.iload_n 3, 1) := by decide +kernel
theorem dX3_proves_132 : decode cX3_proves 132 = .ok (.iaload, 1) := by decide +kernel
theorem dX3_proves_133 : decode cX3_proves 133 = .ok (.iload_n 2, 1) := by decide +kernel
theorem dX3_proves_134 : decode cX3_proves 134 = .ok (.iconst (-1), 1) := by decide +kernel
theorem dX3_proves_135 : decode cX3_proves 135 = .ok (.ixor, 1) := by decide +kernel
theorem dX3_proves_136 : decode cX3_proves 136 = .ok (.iand, 1) := by decide +kernel
theorem dX3_proves_137 : decode cX3_proves 137 = .ok (.ifCond .eq 5, 3) := by decide +kernel
theorem dX3_proves_140 : decode cX3_proves 140 = .ok (.iconst 0, 1) := by decide +kernel
theorem dX3_proves_141 : decode cX3_proves 141 = .ok (.ireturn, 1) := by decide +kernel
theorem dX3_proves_142 : decode cX3_proves 142 = .ok (.iinc 3 1, 3) := by decide +kernel
theorem dX3_proves_145 : decode cX3_proves 145 = .ok (.goto (-40), 3) := by decide +kernel
theorem dX3_proves_148 : decode cX3_proves 148 = .ok (.iload_n 1, 1) := by decide +kernel
theorem dX3_proves_149 : decode cX3_proves 149 = .ok (.ifCond .ne 13, 3) := by decide +kernel
theorem dX3_proves_152 : decode cX3_proves 152 = .ok (.aload_n 0, 1) := by decide +kernel
theorem dX3_proves_153 : decode cX3_proves 153 = .ok (.getfield 30, 3) := by decide +kernel
theorem dX3_proves_156 : decode cX3_proves 156 = .ok (.invokestatic 139, 3) := by decide +kernel
theorem dX3_proves_159 : decode cX3_proves 159 = .ok (.goto 20, 3) := by decide +kernel
theorem dX3_proves_162 : decode cX3_proves 162 = .ok (.aload_n 0, 1) := by decide +kernel
theorem dX3_proves_163 : decode cX3_proves 163 = .ok (.getfield 30, 3) := by decide +kernel
theorem dX3_proves_166 : decode cX3_proves 166 = .ok (.invokevirtual 116, 3) := by decide +kernel
theorem dX3_proves_169 : decode cX3_proves 169 = .ok (.aload_n 0, 1) := by decide +kernel
theorem dX3_proves_170 : decode cX3_proves 170 = .ok (.getfield 30, 3) := by decide +kernel
theorem dX3_proves_173 : decode cX3_proves 173 = .ok (.invokestatic 139, 3) := by decide +kernel
theorem dX3_proves_176 : decode cX3_proves 176 = .ok (.iconst (-1), 1) := by decide +kernel
theorem dX3_proves_177 : decode cX3_proves 177 = .ok (.ixor, 1) := by decide +kernel
theorem dX3_proves_178 : decode cX3_proves 178 = .ok (.iand, 1) := by decide +kernel
theorem dX3_proves_179 : decode cX3_proves 179 = .ok (.istore_n 3, 1) := by decide +kernel
theorem dX3_proves_180 : decode cX3_proves 180 = .ok (.iload_n 2, 1) := by decide +kernel
theorem dX3_proves_181 : decode cX3_proves 181 = .ok (.iload_n 3, 1) := by decide +kernel
theorem dX3_proves_182 : decode cX3_proves 182 = .ok (.iconst (-1), 1) := by decide +kernel
theorem dX3_proves_183 : decode cX3_proves 183 = .ok (.ixor, 1) := by decide +kernel
theorem dX3_proves_184 : decode cX3_proves 184 = .ok (.iand, 1) := by decide +kernel
theorem dX3_proves_185 : decode cX3_proves 185 = .ok (.ifCond .ne 7, 3) := by decide +kernel
theorem dX3_proves_188 : decode cX3_proves 188 = .ok (.iconst 1, 1) := by decide +kernel
theorem dX3_proves_189 : decode cX3_proves 189 = .ok (.goto 4, 3) := by decide +kernel
theorem dX3_proves_192 : decode cX3_proves 192 = .ok (.iconst 0, 1) := by decide +kernel
theorem dX3_proves_193 : decode cX3_proves 193 = .ok (.ireturn, 1) := by decide +kernel
theorem dX3_only_0 : decode cX3_only 0 = .ok (.aload_n 0, 1) := by decide +kernel
theorem dX3_only_1 : decode cX3_only 1 = .ok (.getfield 10, 3) := by decide +kernel
theorem dX3_only_4 : decode cX3_only 4 = .ok (.iload_n 1, 1) := by decide +kernel
theorem dX3_only_5 : decode cX3_only 5 = .ok (.invokevirtual 55, 3) := by decide +kernel
theorem dX3_only_8 : decode cX3_only 8 = .ok (.ifCond .eq 14, 3) := by decide +kernel
theorem dX3_only_11 : decode cX3_only 11 = .ok (.aload_n 0, 1) := by decide +kernel
theorem dX3_only_12 : decode cX3_only 12 = .ok (.getfield 10, 3) := by decide +kernel
theorem dX3_only_15 : decode cX3_only 15 = .ok (.iload_n 2, 1) := by decide +kernel
theorem dX3_only_16 : decode cX3_only 16 = .ok (.invokevirtual 55, 3) := by decide +kernel
theorem dX3_only_19 : decode cX3_only 19 = .ok (.ifCond .ne 5, 3) := by decide +kernel
theorem dX3_only_22 : decode cX3_only 22 = .ok (.iconst (-1), 1) := by decide +kernel
theorem dX3_only_23 : decode cX3_only 23 = .ok (.ireturn, 1) := by decide +kernel
theorem dX3_only_24 : decode cX3_only 24 = .ok (.aload_n 0, 1) := by decide +kernel
theorem dX3_only_25 : decode cX3_only 25 = .ok (.getfield 10, 3) := by decide +kernel
theorem dX3_only_28 : decode cX3_only 28 = .ok (.getfield 64, 3) := by decide +kernel
theorem dX3_only_31 : decode cX3_only 31 = .ok (.iload_n 1, 1) := by decide +kernel
theorem dX3_only_32 : decode cX3_only 32 = .ok (.iaload, 1) := by decide +kernel
theorem dX3_only_33 : decode cX3_only 33 = .ok (.iload_n 2, 1) := by decide +kernel
theorem dX3_only_34 : decode cX3_only 34 = .ok (.invokestatic 67, 3) := by decide +kernel
theorem dX3_only_37 : decode cX3_only 37 = .ok (.ifCond .ne 6, 3) := by decide +kernel
theorem dX3_only_40 : decode cX3_only 40 = .ok (.bipush (-2), 2) := by decide +kernel
theorem dX3_only_42 : decode cX3_only 42 = .ok (.ireturn, 1) := by decide +kernel
theorem dX3_only_43 : decode cX3_only 43 = .ok (.aload_n 0, 1) := by decide +kernel
theorem dX3_only_44 : decode cX3_only 44 = .ok (.getfield 30, 3) := by decide +kernel
theorem dX3_only_47 : decode cX3_only 47 = .ok (.aload_n 0, 1) := by decide +kernel
theorem dX3_only_48 : decode cX3_only 48 = .ok (.getfield 10, 3) := by decide +kernel
theorem dX3_only_51 : decode cX3_only 51 = .ok (.invokevirtual 135, 3) := by decide +kernel
theorem dX3_only_54 : decode cX3_only 54 = .ok (.aload_n 0, 1) := by decide +kernel
theorem dX3_only_55 : decode cX3_only 55 = .ok (.getfield 30, 3) := by decide +kernel
theorem dX3_only_58 : decode cX3_only 58 = .ok (.getfield 64, 3) := by decide +kernel
theorem dX3_only_61 : decode cX3_only 61 = .ok (.iload_n 1, 1) := by decide +kernel
theorem dX3_only_62 : decode cX3_only 62 = .ok (.iconst 1, 1) := by decide +kernel
theorem dX3_only_63 : decode cX3_only 63 = .ok (.iload_n 2, 1) := by decide +kernel
theorem dX3_only_64 : decode cX3_only 64 = .ok (.ishl, 1) := by decide +kernel
theorem dX3_only_65 : decode cX3_only 65 = .ok (.iastore, 1) := by decide +kernel
theorem dX3_only_66 : decode cX3_only 66 = .ok (.aload_n 0, 1) := by decide +kernel
theorem dX3_only_67 : decode cX3_only 67 = .ok (.getfield 30, 3) := by decide +kernel
theorem dX3_only_70 : decode cX3_only 70 = .ok (.invokestatic 139, 3) := by decide +kernel
theorem dX3_only_73 : decode cX3_only 73 = .ok (.ireturn, 1) := by decide +kernel
theorem dX3_littleChange_0 : decode cX3_littleChange 0 = .ok (.aload_n 0, 1) := by decide +kernel
theorem dX3_littleChange_1 : decode cX3_littleChange 1 = .ok (.getfield 10, 3) := by decide +kernel
theorem dX3_littleChange_4 : decode cX3_littleChange 4 = .ok (.iload_n 1, 1) := by decide +kernel
theorem dX3_littleChange_5 : decode cX3_littleChange 5 = .ok (.invokevirtual 55, 3) := by decide +kernel
theorem dX3_littleChange_8 : decode cX3_littleChange 8 = .ok (.ifCond .eq 12, 3) := by decide +kernel
theorem dX3_littleChange_11 : decode cX3_littleChange 11 = .ok (.iload_n 2, 1) := by decide +kernel
theorem dX3_littleChange_12 : decode cX3_littleChange 12 = .ok (.ifCond .lt 8, 3) := by decide +kernel
theorem dX3_littleChange_15 : decode cX3_littleChange 15 = .ok (.iload_n 2, 1) := by decide +kernel
theorem dX3_littleChange_16 : decode cX3_littleChange 16 = .ok (.iconst 1, 1) := by decide +kernel
theorem dX3_littleChange_17 : decode cX3_littleChange 17 = .ok (.if_icmp .le 5, 3) := by decide +kernel
theorem dX3_littleChange_20 : decode cX3_littleChange 20 = .ok (.iconst (-1), 1) := by decide +kernel
theorem dX3_littleChange_21 : decode cX3_littleChange 21 = .ok (.ireturn, 1) := by decide +kernel
theorem dX3_littleChange_22 : decode cX3_littleChange 22 = .ok (.aload_n 0, 1) := by decide +kernel
theorem dX3_littleChange_23 : decode cX3_littleChange 23 = .ok (.getfield 30, 3) := by decide +kernel
theorem dX3_littleChange_26 : decode cX3_littleChange 26 = .ok (.aload_n 0, 1) := by decide +kernel
theorem dX3_littleChange_27 : decode cX3_littleChange 27 = .ok (.getfield 10, 3) := by decide +kernel
theorem dX3_littleChange_30 : decode cX3_littleChange 30 = .ok (.invokevirtual 135, 3) := by decide +kernel
theorem dX3_littleChange_33 : decode cX3_littleChange 33 = .ok (.iconst 1, 1) := by decide +kernel
theorem dX3_littleChange_34 : decode cX3_littleChange 34 = .ok (.istore_n 3, 1) := by decide +kernel
theorem dX3_littleChange_35 : decode cX3_littleChange 35 = .ok (.iload_n 3, 1) := by decide +kernel
theorem dX3_littleChange_36 : decode cX3_littleChange 36 = .ok (.bipush 6, 2) := by decide +kernel
theorem dX3_littleChange_38 : decode cX3_littleChange 38 = .ok (.if_icmp .ge 106, 3) := by decide +kernel
theorem dX3_littleChange_41 : decode cX3_littleChange 41 = .ok (.iconst 0, 1) := by decide +kernel
theorem dX3_littleChange_42 : decode cX3_littleChange 42 = .ok (.istore 4, 2) := by decide +kernel
theorem dX3_littleChange_44 : decode cX3_littleChange 44 = .ok (.iload 4, 2) := by decide +kernel
theorem dX3_littleChange_46 : decode cX3_littleChange 46 = .ok (.aload_n 0, 1) := by decide +kernel
theorem dX3_littleChange_47 : decode cX3_littleChange 47 = .ok (.getfield 10, 3) := by decide +kernel
theorem dX3_littleChange_50 : decode cX3_littleChange 50 = .ok (.getfield 44, 3) := by decide +kernel
theorem dX3_littleChange_53 : decode cX3_littleChange 53 = .ok (.if_icmp .ge 85, 3) := by decide +kernel
theorem dX3_littleChange_56 : decode cX3_littleChange 56 = .ok (.aload_n 0, 1) := by decide +kernel
theorem dX3_littleChange_57 : decode cX3_littleChange 57 = .ok (.getfield 10, 3) := by decide +kernel
theorem dX3_littleChange_60 : decode cX3_littleChange 60 = .ok (.getfield 61, 3) := by decide +kernel
theorem dX3_littleChange_63 : decode cX3_littleChange 63 = .ok (.iload 4, 2) := by decide +kernel
theorem dX3_littleChange_65 : decode cX3_littleChange 65 = .ok (.iaload, 1) := by decide +kernel
theorem dX3_littleChange_66 : decode cX3_littleChange 66 = .ok (.iload_n 3, 1) := by decide +kernel
theorem dX3_littleChange_67 : decode cX3_littleChange 67 = .ok (.isub, 1) := by decide +kernel
theorem dX3_littleChange_68 : decode cX3_littleChange 68 = .ok (.istore 5, 2) := by decide +kernel
theorem dX3_littleChange_70 : decode cX3_littleChange 70 = .ok (.aload_n 0, 1) := by decide +kernel
theorem dX3_littleChange_71 : decode cX3_littleChange 71 = .ok (.getfield 10, 3) := by decide +kernel
theorem dX3_littleChange_74 : decode cX3_littleChange 74 = .ok (.getfield 61, 3) := by decide +kernel
theorem dX3_littleChange_77 : decode cX3_littleChange 77 = .ok (.iload 4, 2) := by decide +kernel
theorem dX3_littleChange_79 : decode cX3_littleChange 79 = .ok (.iaload, 1) := by decide +kernel
theorem dX3_littleChange_80 : decode cX3_littleChange 80 = .ok (.iload_n 3, 1) := by decide +kernel
theorem dX3_littleChange_81 : decode cX3_littleChange 81 = .ok (.iadd, 1) := by decide +kernel
theorem dX3_littleChange_82 : decode cX3_littleChange 82 = .ok (.istore 6, 2) := by decide +kernel
theorem dX3_littleChange_84 : decode cX3_littleChange 84 = .ok (.aload_n 0, 1) := by decide +kernel
theorem dX3_littleChange_85 : decode cX3_littleChange 85 = .ok (.iload_n 1, 1) := by decide +kernel
theorem dX3_littleChange_86 : decode cX3_littleChange 86 = .ok (.iload 4, 2) := by decide +kernel
theorem dX3_littleChange_88 : decode cX3_littleChange 88 = .ok (.iload 5, 2) := by decide +kernel
theorem dX3_littleChange_90 : decode cX3_littleChange 90 = .ok (.invokevirtual 143, 3) := by decide +kernel
theorem dX3_littleChange_93 : decode cX3_littleChange 93 = .ok (.ifCond .eq 15, 3) := by decide +kernel
theorem dX3_littleChange_96 : decode cX3_littleChange 96 = .ok (.iload_n 2, 1) := by decide +kernel
theorem dX3_littleChange_97 : decode cX3_littleChange 97 = .ok (.ifCond .ne 8, 3) := by decide +kernel
theorem dX3_littleChange_100 : decode cX3_littleChange 100 = .ok (.iload 4, 2) := by decide +kernel
theorem dX3_littleChange_102 : decode cX3_littleChange 102 = .ok (.goto 5, 3) := by decide +kernel
theorem dX3_littleChange_105 : decode cX3_littleChange 105 = .ok (.iload 5, 2) := by decide +kernel
theorem dX3_littleChange_107 : decode cX3_littleChange 107 = .ok (.ireturn, 1) := by decide +kernel
theorem dX3_littleChange_108 : decode cX3_littleChange 108 = .ok (.aload_n 0, 1) := by decide +kernel
theorem dX3_littleChange_109 : decode cX3_littleChange 109 = .ok (.iload_n 1, 1) := by decide +kernel
theorem dX3_littleChange_110 : decode cX3_littleChange 110 = .ok (.iload 4, 2) := by decide +kernel
theorem dX3_littleChange_112 : decode cX3_littleChange 112 = .ok (.iload 6, 2) := by decide +kernel
theorem dX3_littleChange_114 : decode cX3_littleChange 114 = .ok (.invokevirtual 143, 3) := by decide +kernel
theorem dX3_littleChange_117 : decode cX3_littleChange 117 = .ok (.ifCond .eq 15, 3) := by decide +kernel
theorem dX3_littleChange_120 : decode cX3_littleChange 120 = .ok (.iload_n 2, 1) := by decide +kernel
theorem dX3_littleChange_121 : decode cX3_littleChange 121 = .ok (.ifCond .ne 8, 3) := by decide +kernel
theorem dX3_littleChange_124 : decode cX3_littleChange 124 = .ok (.iload 4, 2) := by decide +kernel
theorem dX3_littleChange_126 : decode cX3_littleChange 126 = .ok (.goto 5, 3) := by decide +kernel
theorem dX3_littleChange_129 : decode cX3_littleChange 129 = .ok (.iload 6, 2) := by decide +kernel
theorem dX3_littleChange_131 : decode cX3_littleChange 131 = .ok (.ireturn, 1) := by decide +kernel
theorem dX3_littleChange_132 : decode cX3_littleChange 132 = .ok (.iinc 4 1, 3) := by decide +kernel
theorem dX3_littleChange_135 : decode cX3_littleChange 135 = .ok (.goto (-91), 3) := by decide +kernel
theorem dX3_littleChange_138 : decode cX3_littleChange 138 = .ok (.iinc 3 1, 3) := by decide +kernel
theorem dX3_littleChange_141 : decode cX3_littleChange 141 = .ok (.goto (-106), 3) := by decide +kernel
theorem dX3_littleChange_144 : decode cX3_littleChange 144 = .ok (.bipush (-4), 2) := by decide +kernel
theorem dX3_littleChange_146 : decode cX3_littleChange 146 = .ok (.ireturn, 1) := by decide +kernel
theorem dX3_keep_0 : decode cX3_keep 0 = .ok (.aload_n 0, 1) := by decide +kernel
theorem dX3_keep_1 : decode cX3_keep 1 = .ok (.getfield 20, 3) := by decide +kernel
theorem dX3_keep_4 : decode cX3_keep 4 = .ok (.aload_n 0, 1) := by decide +kernel
theorem dX3_keep_5 : decode cX3_keep 5 = .ok (.getfield 10, 3) := by decide +kernel
theorem dX3_keep_8 : decode cX3_keep 8 = .ok (.invokevirtual 135, 3) := by decide +kernel
theorem dX3_keep_11 : decode cX3_keep 11 = .ok (.aload_n 0, 1) := by decide +kernel
theorem dX3_keep_12 : decode cX3_keep 12 = .ok (.iconst 1, 1) := by decide +kernel
theorem dX3_keep_13 : decode cX3_keep 13 = .ok (.putfield 109, 3) := by decide +kernel
theorem dX3_keep_16 : decode cX3_keep 16 = .ok (.aload_n 0, 1) := by decide +kernel
theorem dX3_keep_17 : decode cX3_keep 17 = .ok (.getfield 10, 3) := by decide +kernel
theorem dX3_keep_20 : decode cX3_keep 20 = .ok (.getfield 44, 3) := by decide +kernel
theorem dX3_keep_23 : decode cX3_keep 23 = .ok (.ireturn, 1) := by decide +kernel
theorem dX3_restore_0 : decode cX3_restore 0 = .ok (.aload_n 0, 1) := by decide +kernel
theorem dX3_restore_1 : decode cX3_restore 1 = .ok (.getfield 109, 3) := by decide +kernel
theorem dX3_restore_4 : decode cX3_restore 4 = .ok (.ifCond .ne 6, 3) := by decide +kernel
theorem dX3_restore_7 : decode cX3_restore 7 = .ok (.bipush (-2), 2) := by decide +kernel
theorem dX3_restore_9 : decode cX3_restore 9 = .ok (.ireturn, 1) := by decide +kernel
theorem dX3_restore_10 : decode cX3_restore 10 = .ok (.aload_n 0, 1) := by decide +kernel
theorem dX3_restore_11 : decode cX3_restore 11 = .ok (.invokevirtual 48, 3) := by decide +kernel
theorem dX3_restore_14 : decode cX3_restore 14 = .ok (.aload_n 0, 1) := by decide +kernel
theorem dX3_restore_15 : decode cX3_restore 15 = .ok (.getfield 10, 3) := by decide +kernel
theorem dX3_restore_18 : decode cX3_restore 18 = .ok (.aload_n 0, 1) := by decide +kernel
theorem dX3_restore_19 : decode cX3_restore 19 = .ok (.getfield 20, 3) := by decide +kernel
theorem dX3_restore_22 : decode cX3_restore 22 = .ok (.invokevirtual 135, 3) := by decide +kernel
theorem dX3_restore_25 : decode cX3_restore 25 = .ok (.aload_n 0, 1) := by decide +kernel
theorem dX3_restore_26 : decode cX3_restore 26 = .ok (.getfield 10, 3) := by decide +kernel
theorem dX3_restore_29 : decode cX3_restore 29 = .ok (.getfield 44, 3) := by decide +kernel
theorem dX3_restore_32 : decode cX3_restore 32 = .ok (.ireturn, 1) := by decide +kernel
theorem dX3_undo_0 : decode cX3_undo 0 = .ok (.aload_n 0, 1) := by decide +kernel
theorem dX3_undo_1 : decode cX3_undo 1 = .ok (.getfield 103, 3) := by decide +kernel
theorem dX3_undo_4 : decode cX3_undo 4 = .ok (.ifCond .le 11, 3) := by decide +kernel
theorem dX3_undo_7 : decode cX3_undo 7 = .ok (.aload_n 0, 1) := by decide +kernel
theorem dX3_undo_8 : decode cX3_undo 8 = .ok (.getfield 103, 3) := by decide +kernel
theorem dX3_undo_11 : decode cX3_undo 11 = .ok (.iconst 4, 1) := by decide +kernel
theorem dX3_undo_12 : decode cX3_undo 12 = .ok (.if_icmp .le 6, 3) := by decide +kernel
theorem dX3_undo_15 : decode cX3_undo 15 = .ok (.bipush (-2), 2) := by decide +kernel
theorem dX3_undo_17 : decode cX3_undo 17 = .ok (.ireturn, 1) := by decide +kernel
theorem dX3_undo_18 : decode cX3_undo 18 = .ok (.aload_n 0, 1) := by decide +kernel
theorem dX3_undo_19 : decode cX3_undo 19 = .ok (.dup, 1) := by decide +kernel
theorem dX3_undo_20 : decode cX3_undo 20 = .ok (.getfield 103, 3) := by decide +kernel
theorem dX3_undo_23 : decode cX3_undo 23 = .ok (.iconst 1, 1) := by decide +kernel
theorem dX3_undo_24 : decode cX3_undo 24 = .ok (.isub, 1) := by decide +kernel
theorem dX3_undo_25 : decode cX3_undo 25 = .ok (.putfield 103, 3) := by decide +kernel
theorem dX3_undo_28 : decode cX3_undo 28 = .ok (.aload_n 0, 1) := by decide +kernel
theorem dX3_undo_29 : decode cX3_undo 29 = .ok (.getfield 10, 3) := by decide +kernel
theorem dX3_undo_32 : decode cX3_undo 32 = .ok (.aload_n 0, 1) := by decide +kernel
theorem dX3_undo_33 : decode cX3_undo 33 = .ok (.getfield 16, 3) := by decide +kernel
theorem dX3_undo_36 : decode cX3_undo 36 = .ok (.aload_n 0, 1) := by decide +kernel
theorem dX3_undo_37 : decode cX3_undo 37 = .ok (.getfield 103, 3) := by decide +kernel
theorem dX3_undo_40 : decode cX3_undo 40 = .ok (.aaload, 1) := by decide +kernel
theorem dX3_undo_41 : decode cX3_undo 41 = .ok (.invokevirtual 135, 3) := by decide +kernel
theorem dX3_undo_44 : decode cX3_undo 44 = .ok (.aload_n 0, 1) := by decide +kernel
theorem dX3_undo_45 : decode cX3_undo 45 = .ok (.invokevirtual 147, 3) := by decide +kernel
theorem dX3_undo_48 : decode cX3_undo 48 = .ok (.aload_n 0, 1) := by decide +kernel
theorem dX3_undo_49 : decode cX3_undo 49 = .ok (.getfield 103, 3) := by decide +kernel
theorem dX3_undo_52 : decode cX3_undo 52 = .ok (.ireturn, 1) := by decide +kernel
theorem dX3_type_0 : decode cX3_type 0 = .ok (.iload_n 1, 1) := by decide +kernel
theorem dX3_type_1 : decode cX3_type 1 = .ok (.bipush 32, 2) := by decide +kernel
theorem dX3_type_3 : decode cX3_type 3 = .ok (.if_icmp .lt 9, 3) := by decide +kernel
theorem dX3_type_6 : decode cX3_type 6 = .ok (.iload_n 1, 1) := by decide +kernel
theorem dX3_type_7 : decode cX3_type 7 = .ok (.bipush 126, 2) := by decide +kernel
theorem dX3_type_9 : decode cX3_type 9 = .ok (.if_icmp .le 5, 3) := by decide +kernel
theorem dX3_type_12 : decode cX3_type 12 = .ok (.iconst (-1), 1) := by decide +kernel
theorem dX3_type_13 : decode cX3_type 13 = .ok (.ireturn, 1) := by decide +kernel
theorem dX3_type_14 : decode cX3_type 14 = .ok (.aload_n 0, 1) := by decide +kernel
theorem dX3_type_15 : decode cX3_type 15 = .ok (.getfield 26, 3) := by decide +kernel
theorem dX3_type_18 : decode cX3_type 18 = .ok (.getfield 106, 3) := by decide +kernel
theorem dX3_type_21 : decode cX3_type 21 = .ok (.bipush 80, 2) := by decide +kernel
theorem dX3_type_23 : decode cX3_type 23 = .ok (.if_icmp .lt 6, 3) := by decide +kernel
theorem dX3_type_26 : decode cX3_type 26 = .ok (.bipush (-3), 2) := by decide +kernel
theorem dX3_type_28 : decode cX3_type 28 = .ok (.ireturn, 1) := by decide +kernel
theorem dX3_type_29 : decode cX3_type 29 = .ok (.aload_n 0, 1) := by decide +kernel
theorem dX3_type_30 : decode cX3_type 30 = .ok (.getfield 26, 3) := by decide +kernel
theorem dX3_type_33 : decode cX3_type 33 = .ok (.iload_n 1, 1) := by decide +kernel
theorem dX3_type_34 : decode cX3_type 34 = .ok (.i2c, 1) := by decide +kernel
theorem dX3_type_35 : decode cX3_type 35 = .ok (.invokevirtual 150, 3) := by decide +kernel
theorem dX3_type_38 : decode cX3_type 38 = .ok (.aload_n 0, 1) := by decide +kernel
theorem dX3_type_39 : decode cX3_type 39 = .ok (.getfield 26, 3) := by decide +kernel
theorem dX3_type_42 : decode cX3_type 42 = .ok (.getfield 106, 3) := by decide +kernel
theorem dX3_type_45 : decode cX3_type 45 = .ok (.ireturn, 1) := by decide +kernel
theorem dX3_clearText_0 : decode cX3_clearText 0 = .ok (.aload_n 0, 1) := by decide +kernel
theorem dX3_clearText_1 : decode cX3_clearText 1 = .ok (.getfield 26, 3) := by decide +kernel
theorem dX3_clearText_4 : decode cX3_clearText 4 = .ok (.getfield 106, 3) := by decide +kernel
theorem dX3_clearText_7 : decode cX3_clearText 7 = .ok (.istore_n 1, 1) := by decide +kernel
theorem dX3_clearText_8 : decode cX3_clearText 8 = .ok (.aload_n 0, 1) := by decide +kernel
theorem dX3_clearText_9 : decode cX3_clearText 9 = .ok (.getfield 26, 3) := by decide +kernel
theorem dX3_clearText_12 : decode cX3_clearText 12 = .ok (.iconst 0, 1) := by decide +kernel
theorem dX3_clearText_13 : decode cX3_clearText 13 = .ok (.putfield 106, 3) := by decide +kernel
theorem dX3_clearText_16 : decode cX3_clearText 16 = .ok (.iload_n 1, 1) := by decide +kernel
theorem dX3_clearText_17 : decode cX3_clearText 17 = .ok (.ireturn, 1) := by decide +kernel
theorem dX3_fault_0 : decode cX3_fault 0 = .ok (.iload_n 1, 1) := by decide +kernel
theorem dX3_fault_1 : decode cX3_fault 1 = .ok (.ifCond .lt 8, 3) := by decide +kernel
theorem dX3_fault_4 : decode cX3_fault 4 = .ok (.iload_n 1, 1) := by decide +kernel
theorem dX3_fault_5 : decode cX3_fault 5 = .ok (.iconst 1, 1) := by decide +kernel
theorem dX3_fault_6 : decode cX3_fault 6 = .ok (.if_icmp .le 5, 3) := by decide +kernel
theorem dX3_fault_9 : decode cX3_fault 9 = .ok (.iconst (-1), 1) := by decide +kernel
theorem dX3_fault_10 : decode cX3_fault 10 = .ok (.ireturn, 1) := by decide +kernel
theorem dX3_fault_11 : decode cX3_fault 11 = .ok (.aload_n 0, 1) := by decide +kernel
theorem dX3_fault_12 : decode cX3_fault 12 = .ok (.getfield 26, 3) := by decide +kernel
theorem dX3_fault_15 : decode cX3_fault 15 = .ok (.invokevirtual 153, 3) := by decide +kernel
theorem dX3_fault_18 : decode cX3_fault 18 = .ok (.ifCond .eq 6, 3) := by decide +kernel
theorem dX3_fault_21 : decode cX3_fault 21 = .ok (.bipush (-4), 2) := by decide +kernel
theorem dX3_fault_23 : decode cX3_fault 23 = .ok (.ireturn, 1) := by decide +kernel
theorem dX3_fault_24 : decode cX3_fault 24 = .ok (.iload_n 1, 1) := by decide +kernel
theorem dX3_fault_25 : decode cX3_fault 25 = .ok (.ifCond .ne 13, 3) := by decide +kernel
theorem dX3_fault_28 : decode cX3_fault 28 = .ok (.aload_n 0, 1) := by decide +kernel
theorem dX3_fault_29 : decode cX3_fault 29 = .ok (.getfield 26, 3) := by decide +kernel
theorem dX3_fault_32 : decode cX3_fault 32 = .ok (.getfield 157, 3) := by decide +kernel
theorem dX3_fault_35 : decode cX3_fault 35 = .ok (.goto 10, 3) := by decide +kernel
theorem dX3_fault_38 : decode cX3_fault 38 = .ok (.aload_n 0, 1) := by decide +kernel
theorem dX3_fault_39 : decode cX3_fault 39 = .ok (.getfield 26, 3) := by decide +kernel
theorem dX3_fault_42 : decode cX3_fault 42 = .ok (.getfield 160, 3) := by decide +kernel
theorem dX3_fault_45 : decode cX3_fault 45 = .ok (.ireturn, 1) := by decide +kernel
theorem dX3_read_0 : decode cX3_read 0 = .ok (.aload_n 0, 1) := by decide +kernel
theorem dX3_read_1 : decode cX3_read 1 = .ok (.getfield 26, 3) := by decide +kernel
theorem dX3_read_4 : decode cX3_read 4 = .ok (.invokevirtual 153, 3) := by decide +kernel
theorem dX3_read_7 : decode cX3_read 7 = .ok (.ifCond .ne 6, 3) := by decide +kernel
theorem dX3_read_10 : decode cX3_read 10 = .ok (.bipush (-2), 2) := by decide +kernel
theorem dX3_read_12 : decode cX3_read 12 = .ok (.ireturn, 1) := by decide +kernel
theorem dX3_read_13 : decode cX3_read 13 = .ok (.aload_n 0, 1) := by decide +kernel
theorem dX3_read_14 : decode cX3_read 14 = .ok (.invokevirtual 48, 3) := by decide +kernel
theorem dX3_read_17 : decode cX3_read 17 = .ok (.aload_n 0, 1) := by decide +kernel
theorem dX3_read_18 : decode cX3_read 18 = .ok (.getfield 10, 3) := by decide +kernel
theorem dX3_read_21 : decode cX3_read 21 = .ok (.aload_n 0, 1) := by decide +kernel
theorem dX3_read_22 : decode cX3_read 22 = .ok (.getfield 26, 3) := by decide +kernel
theorem dX3_read_25 : decode cX3_read 25 = .ok (.getfield 163, 3) := by decide +kernel
theorem dX3_read_28 : decode cX3_read 28 = .ok (.invokevirtual 135, 3) := by decide +kernel
theorem dX3_read_31 : decode cX3_read 31 = .ok (.aload_n 0, 1) := by decide +kernel
theorem dX3_read_32 : decode cX3_read 32 = .ok (.getfield 10, 3) := by decide +kernel
theorem dX3_read_35 : decode cX3_read 35 = .ok (.getfield 44, 3) := by decide +kernel
theorem dX3_read_38 : decode cX3_read 38 = .ok (.ireturn, 1) := by decide +kernel
theorem dX3_isPlayer_0 : decode cX3_isPlayer 0 = .ok (.iload_n 0, 1) := by decide +kernel
theorem dX3_isPlayer_1 : decode cX3_isPlayer 1 = .ok (.ifCond .eq 8, 3) := by decide +kernel
theorem dX3_isPlayer_4 : decode cX3_isPlayer 4 = .ok (.iload_n 0, 1) := by decide +kernel
theorem dX3_isPlayer_5 : decode cX3_isPlayer 5 = .ok (.iconst 1, 1) := by decide +kernel
theorem dX3_isPlayer_6 : decode cX3_isPlayer 6 = .ok (.if_icmp .ne 7, 3) := by decide +kernel
theorem dX3_isPlayer_9 : decode cX3_isPlayer 9 = .ok (.iconst 1, 1) := by decide +kernel
theorem dX3_isPlayer_10 : decode cX3_isPlayer 10 = .ok (.goto 4, 3) := by decide +kernel
theorem dX3_isPlayer_13 : decode cX3_isPlayer 13 = .ok (.iconst 0, 1) := by decide +kernel
theorem dX3_isPlayer_14 : decode cX3_isPlayer 14 = .ok (.ireturn, 1) := by decide +kernel
theorem dX3_isRank_0 : decode cX3_isRank 0 = .ok (.iload_n 0, 1) := by decide +kernel
theorem dX3_isRank_1 : decode cX3_isRank 1 = .ok (.ifCond .lt 13, 3) := by decide +kernel
theorem dX3_isRank_4 : decode cX3_isRank 4 = .ok (.iload_n 0, 1) := by decide +kernel
theorem dX3_isRank_5 : decode cX3_isRank 5 = .ok (.bipush 6, 2) := by decide +kernel
theorem dX3_isRank_7 : decode cX3_isRank 7 = .ok (.if_icmp .ge 7, 3) := by decide +kernel
theorem dX3_isRank_10 : decode cX3_isRank 10 = .ok (.iconst 1, 1) := by decide +kernel
theorem dX3_isRank_11 : decode cX3_isRank 11 = .ok (.goto 4, 3) := by decide +kernel
theorem dX3_isRank_14 : decode cX3_isRank 14 = .ok (.iconst 0, 1) := by decide +kernel
theorem dX3_isRank_15 : decode cX3_isRank 15 = .ok (.ireturn, 1) := by decide +kernel
theorem dX3_contains_0 : decode cX3_contains 0 = .ok (.iload_n 0, 1) := by decide +kernel
theorem dX3_contains_1 : decode cX3_contains 1 = .ok (.iload_n 1, 1) := by decide +kernel
theorem dX3_contains_2 : decode cX3_contains 2 = .ok (.ishr, 1) := by decide +kernel
theorem dX3_contains_3 : decode cX3_contains 3 = .ok (.iconst 1, 1) := by decide +kernel
theorem dX3_contains_4 : decode cX3_contains 4 = .ok (.iand, 1) := by decide +kernel
theorem dX3_contains_5 : decode cX3_contains 5 = .ok (.iconst 1, 1) := by decide +kernel
theorem dX3_contains_6 : decode cX3_contains 6 = .ok (.if_icmp .ne 7, 3) := by decide +kernel
theorem dX3_contains_9 : decode cX3_contains 9 = .ok (.iconst 1, 1) := by decide +kernel
theorem dX3_contains_10 : decode cX3_contains 10 = .ok (.goto 4, 3) := by decide +kernel
theorem dX3_contains_13 : decode cX3_contains 13 = .ok (.iconst 0, 1) := by decide +kernel
theorem dX3_contains_14 : decode cX3_contains 14 = .ok (.ireturn, 1) := by decide +kernel
theorem dX3_recordState_0 : decode cX3_recordState 0 = .ok (.aload_n 0, 1) := by decide +kernel
theorem dX3_recordState_1 : decode cX3_recordState 1 = .ok (.getfield 103, 3) := by decide +kernel
theorem dX3_recordState_4 : decode cX3_recordState 4 = .ok (.iconst 4, 1) := by decide +kernel
theorem dX3_recordState_5 : decode cX3_recordState 5 = .ok (.if_icmp .lt 7, 3) := by decide +kernel
theorem dX3_recordState_8 : decode cX3_recordState 8 = .ok (.aload_n 0, 1) := by decide +kernel
theorem dX3_recordState_9 : decode cX3_recordState 9 = .ok (.invokevirtual 166, 3) := by decide +kernel
theorem dX3_recordState_12 : decode cX3_recordState 12 = .ok (.aload_n 0, 1) := by decide +kernel
theorem dX3_recordState_13 : decode cX3_recordState 13 = .ok (.getfield 16, 3) := by decide +kernel
theorem dX3_recordState_16 : decode cX3_recordState 16 = .ok (.aload_n 0, 1) := by decide +kernel
theorem dX3_recordState_17 : decode cX3_recordState 17 = .ok (.getfield 103, 3) := by decide +kernel
theorem dX3_recordState_20 : decode cX3_recordState 20 = .ok (.aaload, 1) := by decide +kernel
theorem dX3_recordState_21 : decode cX3_recordState 21 = .ok (.aload_n 0, 1) := by decide +kernel
theorem dX3_recordState_22 : decode cX3_recordState 22 = .ok (.getfield 10, 3) := by decide +kernel
theorem dX3_recordState_25 : decode cX3_recordState 25 = .ok (.invokevirtual 135, 3) := by decide +kernel
theorem dX3_recordState_28 : decode cX3_recordState 28 = .ok (.aload_n 0, 1) := by decide +kernel
theorem dX3_recordState_29 : decode cX3_recordState 29 = .ok (.dup, 1) := by decide +kernel
theorem dX3_recordState_30 : decode cX3_recordState 30 = .ok (.getfield 103, 3) := by decide +kernel
theorem dX3_recordState_33 : decode cX3_recordState 33 = .ok (.iconst 1, 1) := by decide +kernel
theorem dX3_recordState_34 : decode cX3_recordState 34 = .ok (.iadd, 1) := by decide +kernel
theorem dX3_recordState_35 : decode cX3_recordState 35 = .ok (.putfield 103, 3) := by decide +kernel
theorem dX3_recordState_38 : decode cX3_recordState 38 = .ok (.aload_n 0, 1) := by decide +kernel
theorem dX3_recordState_39 : decode cX3_recordState 39 = .ok (.invokevirtual 147, 3) := by decide +kernel
theorem dX3_recordState_42 : decode cX3_recordState 42 = .ok (.return_, 1) := by decide +kernel
theorem dX3_dropOldestState_0 : decode cX3_dropOldestState 0 = .ok (.aload_n 0, 1) := by decide +kernel
theorem dX3_dropOldestState_1 : decode cX3_dropOldestState 1 = .ok (.getfield 16, 3) := by decide +kernel
theorem dX3_dropOldestState_4 : decode cX3_dropOldestState 4 = .ok (.iconst 0, 1) := by decide +kernel
theorem dX3_dropOldestState_5 : decode cX3_dropOldestState 5 = .ok (.aaload, 1) := by decide +kernel
theorem dX3_dropOldestState_6 : decode cX3_dropOldestState 6 = .ok (.astore_n 1, 1) := by decide +kernel
theorem dX3_dropOldestState_7 : decode cX3_dropOldestState 7 = .ok (.iconst 1, 1) := by decide +kernel
theorem dX3_dropOldestState_8 : decode cX3_dropOldestState 8 = .ok (.istore_n 2, 1) := by decide +kernel
theorem dX3_dropOldestState_9 : decode cX3_dropOldestState 9 = .ok (.iload_n 2, 1) := by decide +kernel
theorem dX3_dropOldestState_10 : decode cX3_dropOldestState 10 = .ok (.iconst 4, 1) := by decide +kernel
theorem dX3_dropOldestState_11 : decode cX3_dropOldestState 11 = .ok (.if_icmp .ge 23, 3) := by decide +kernel
theorem dX3_dropOldestState_14 : decode cX3_dropOldestState 14 = .ok (.aload_n 0, 1) := by decide +kernel
theorem dX3_dropOldestState_15 : decode cX3_dropOldestState 15 = .ok (.getfield 16, 3) := by decide +kernel
theorem dX3_dropOldestState_18 : decode cX3_dropOldestState 18 = .ok (.iload_n 2, 1) := by decide +kernel
theorem dX3_dropOldestState_19 : decode cX3_dropOldestState 19 = .ok (.iconst 1, 1) := by decide +kernel
theorem dX3_dropOldestState_20 : decode cX3_dropOldestState 20 = .ok (.isub, 1) := by decide +kernel
theorem dX3_dropOldestState_21 : decode cX3_dropOldestState 21 = .ok (.aload_n 0, 1) := by decide +kernel
theorem dX3_dropOldestState_22 : decode cX3_dropOldestState 22 = .ok (.getfield 16, 3) := by decide +kernel
theorem dX3_dropOldestState_25 : decode cX3_dropOldestState 25 = .ok (.iload_n 2, 1) := by decide +kernel
theorem dX3_dropOldestState_26 : decode cX3_dropOldestState 26 = .ok (.aaload, 1) := by decide +kernel
theorem dX3_dropOldestState_27 : decode cX3_dropOldestState 27 = .ok (.aastore, 1) := by decide +kernel
theorem dX3_dropOldestState_28 : decode cX3_dropOldestState 28 = .ok (.iinc 2 1, 3) := by decide +kernel
theorem dX3_dropOldestState_31 : decode cX3_dropOldestState 31 = .ok (.goto (-22), 3) := by decide +kernel
theorem dX3_dropOldestState_34 : decode cX3_dropOldestState 34 = .ok (.aload_n 0, 1) := by decide +kernel
theorem dX3_dropOldestState_35 : decode cX3_dropOldestState 35 = .ok (.getfield 16, 3) := by decide +kernel
theorem dX3_dropOldestState_38 : decode cX3_dropOldestState 38 = .ok (.iconst 3, 1) := by decide +kernel
theorem dX3_dropOldestState_39 : decode cX3_dropOldestState 39 = .ok (.aload_n 1, 1) := by decide +kernel
theorem dX3_dropOldestState_40 : decode cX3_dropOldestState 40 = .ok (.aastore, 1) := by decide +kernel
theorem dX3_dropOldestState_41 : decode cX3_dropOldestState 41 = .ok (.aload_n 0, 1) := by decide +kernel
theorem dX3_dropOldestState_42 : decode cX3_dropOldestState 42 = .ok (.iconst 3, 1) := by decide +kernel
theorem dX3_dropOldestState_43 : decode cX3_dropOldestState 43 = .ok (.putfield 103, 3) := by decide +kernel
theorem dX3_dropOldestState_46 : decode cX3_dropOldestState 46 = .ok (.return_, 1) := by decide +kernel
theorem dX3_forgetFindings_0 : decode cX3_forgetFindings 0 = .ok (.aload_n 0, 1) := by decide +kernel
theorem dX3_forgetFindings_1 : decode cX3_forgetFindings 1 = .ok (.iconst 0, 1) := by decide +kernel
theorem dX3_forgetFindings_2 : decode cX3_forgetFindings 2 = .ok (.putfield 169, 3) := by decide +kernel
theorem dX3_forgetFindings_5 : decode cX3_forgetFindings 5 = .ok (.aload_n 0, 1) := by decide +kernel
theorem dX3_forgetFindings_6 : decode cX3_forgetFindings 6 = .ok (.iconst 0, 1) := by decide +kernel
theorem dX3_forgetFindings_7 : decode cX3_forgetFindings 7 = .ok (.putfield 172, 3) := by decide +kernel
theorem dX3_forgetFindings_10 : decode cX3_forgetFindings 10 = .ok (.return_, 1) := by decide +kernel
theorem dX3_winsOf_0 : decode cX3_winsOf 0 = .ok (.aload_n 0, 1) := by decide +kernel
theorem dX3_winsOf_1 : decode cX3_winsOf 1 = .ok (.getfield 169, 3) := by decide +kernel
theorem dX3_winsOf_4 : decode cX3_winsOf 4 = .ok (.ifCond .ne 19, 3) := by decide +kernel
theorem dX3_winsOf_7 : decode cX3_winsOf 7 = .ok (.aload_n 0, 1) := by decide +kernel
theorem dX3_winsOf_8 : decode cX3_winsOf 8 = .ok (.aload_n 0, 1) := by decide +kernel
theorem dX3_winsOf_9 : decode cX3_winsOf 9 = .ok (.getfield 10, 3) := by decide +kernel
theorem dX3_winsOf_12 : decode cX3_winsOf 12 = .ok (.invokestatic 139, 3) := by decide +kernel
theorem dX3_winsOf_15 : decode cX3_winsOf 15 = .ok (.putfield 175, 3) := by decide +kernel
theorem dX3_winsOf_18 : decode cX3_winsOf 18 = .ok (.aload_n 0, 1) := by decide +kernel
theorem dX3_winsOf_19 : decode cX3_winsOf 19 = .ok (.iconst 1, 1) := by decide +kernel
theorem dX3_winsOf_20 : decode cX3_winsOf 20 = .ok (.putfield 169, 3) := by decide +kernel
theorem dX3_winsOf_23 : decode cX3_winsOf 23 = .ok (.iload_n 1, 1) := by decide +kernel
theorem dX3_winsOf_24 : decode cX3_winsOf 24 = .ok (.ifCond .ne 10, 3) := by decide +kernel
theorem dX3_winsOf_27 : decode cX3_winsOf 27 = .ok (.aload_n 0, 1) := by decide +kernel
theorem dX3_winsOf_28 : decode cX3_winsOf 28 = .ok (.getfield 175, 3) := by decide +kernel
theorem dX3_winsOf_31 : decode cX3_winsOf 31 = .ok (.goto 17, 3) := by decide +kernel
theorem dX3_winsOf_34 : decode cX3_winsOf 34 = .ok (.aload_n 0, 1) := by decide +kernel
theorem dX3_winsOf_35 : decode cX3_winsOf 35 = .ok (.getfield 10, 3) := by decide +kernel
theorem dX3_winsOf_38 : decode cX3_winsOf 38 = .ok (.invokevirtual 116, 3) := by decide +kernel
theorem dX3_winsOf_41 : decode cX3_winsOf 41 = .ok (.aload_n 0, 1) := by decide +kernel
theorem dX3_winsOf_42 : decode cX3_winsOf 42 = .ok (.getfield 175, 3) := by decide +kernel
theorem dX3_winsOf_45 : decode cX3_winsOf 45 = .ok (.iconst (-1), 1) := by decide +kernel
theorem dX3_winsOf_46 : decode cX3_winsOf 46 = .ok (.ixor, 1) := by decide +kernel
theorem dX3_winsOf_47 : decode cX3_winsOf 47 = .ok (.iand, 1) := by decide +kernel
theorem dX3_winsOf_48 : decode cX3_winsOf 48 = .ok (.ireturn, 1) := by decide +kernel
theorem dX3_winnerFrom_0 : decode cX3_winnerFrom 0 = .ok (.aload_n 0, 1) := by decide +kernel
theorem dX3_winnerFrom_1 : decode cX3_winnerFrom 1 = .ok (.iconst 0, 1) := by decide +kernel
theorem dX3_winnerFrom_2 : decode cX3_winnerFrom 2 = .ok (.invokevirtual 94, 3) := by decide +kernel
theorem dX3_winnerFrom_5 : decode cX3_winnerFrom 5 = .ok (.iload_n 1, 1) := by decide +kernel
theorem dX3_winnerFrom_6 : decode cX3_winnerFrom 6 = .ok (.invokestatic 67, 3) := by decide +kernel
theorem dX3_winnerFrom_9 : decode cX3_winnerFrom 9 = .ok (.ifCond .eq 7, 3) := by decide +kernel
theorem dX3_winnerFrom_12 : decode cX3_winnerFrom 12 = .ok (.iconst 0, 1) := by decide +kernel
theorem dX3_winnerFrom_13 : decode cX3_winnerFrom 13 = .ok (.goto 4, 3) := by decide +kernel
theorem dX3_winnerFrom_16 : decode cX3_winnerFrom 16 = .ok (.iconst 1, 1) := by decide +kernel
theorem dX3_winnerFrom_17 : decode cX3_winnerFrom 17 = .ok (.ireturn, 1) := by decide +kernel
theorem dX3_findChoices_0 : decode cX3_findChoices 0 = .ok (.aload_n 0, 1) := by decide +kernel
theorem dX3_findChoices_1 : decode cX3_findChoices 1 = .ok (.getfield 172, 3) := by decide +kernel
theorem dX3_findChoices_4 : decode cX3_findChoices 4 = .ok (.ifCond .eq 4, 3) := by decide +kernel
theorem dX3_findChoices_7 : decode cX3_findChoices 7 = .ok (.return_, 1) := by decide +kernel
theorem dX3_findChoices_8 : decode cX3_findChoices 8 = .ok (.aload_n 0, 1) := by decide +kernel
theorem dX3_findChoices_9 : decode cX3_findChoices 9 = .ok (.getfield 30, 3) := by decide +kernel
theorem dX3_findChoices_12 : decode cX3_findChoices 12 = .ok (.aload_n 0, 1) := by decide +kernel
theorem dX3_findChoices_13 : decode cX3_findChoices 13 = .ok (.getfield 10, 3) := by decide +kernel
theorem dX3_findChoices_16 : decode cX3_findChoices 16 = .ok (.invokevirtual 135, 3) := by decide +kernel
theorem dX3_findChoices_19 : decode cX3_findChoices 19 = .ok (.iconst 0, 1) := by decide +kernel
theorem dX3_findChoices_20 : decode cX3_findChoices 20 = .ok (.istore_n 1, 1) := by decide +kernel
theorem dX3_findChoices_21 : decode cX3_findChoices 21 = .ok (.iload_n 1, 1) := by decide +kernel
theorem dX3_findChoices_22 : decode cX3_findChoices 22 = .ok (.aload_n 0, 1) := by decide +kernel
theorem dX3_findChoices_23 : decode cX3_findChoices 23 = .ok (.getfield 10, 3) := by decide +kernel
theorem dX3_findChoices_26 : decode cX3_findChoices 26 = .ok (.getfield 44, 3) := by decide +kernel
theorem dX3_findChoices_29 : decode cX3_findChoices 29 = .ok (.if_icmp .ge 75, 3) := by decide +kernel
theorem dX3_findChoices_32 : decode cX3_findChoices 32 = .ok (.aload_n 0, 1) := by decide +kernel
theorem dX3_findChoices_33 : decode cX3_findChoices 33 = .ok (.getfield 10, 3) := by decide +kernel
theorem dX3_findChoices_36 : decode cX3_findChoices 36 = .ok (.getfield 64, 3) := by decide +kernel
theorem dX3_findChoices_39 : decode cX3_findChoices 39 = .ok (.iload_n 1, 1) := by decide +kernel
theorem dX3_findChoices_40 : decode cX3_findChoices 40 = .ok (.iaload, 1) := by decide +kernel
theorem dX3_findChoices_41 : decode cX3_findChoices 41 = .ok (.istore_n 2, 1) := by decide +kernel
theorem dX3_findChoices_42 : decode cX3_findChoices 42 = .ok (.iload_n 2, 1) := by decide +kernel
theorem dX3_findChoices_43 : decode cX3_findChoices 43 = .ok (.ifCond .ne 14, 3) := by decide +kernel
theorem dX3_findChoices_46 : decode cX3_findChoices 46 = .ok (.aload_n 0, 1) := by decide +kernel
theorem dX3_findChoices_47 : decode cX3_findChoices 47 = .ok (.getfield 33, 3) := by decide +kernel
theorem dX3_findChoices_50 : decode cX3_findChoices 50 = .ok (.iload_n 1, 1) := by decide +kernel
theorem dX3_findChoices_51 : decode cX3_findChoices 51 = .ok (.bipush (-4), 2) := by decide +kernel
theorem dX3_findChoices_53 : decode cX3_findChoices 53 = .ok (.iastore, 1) := by decide +kernel
theorem dX3_findChoices_54 : decode cX3_findChoices 54 = .ok (.goto 44, 3) := by decide +kernel
theorem dX3_findChoices_57 : decode cX3_findChoices 57 = .ok (.aload_n 0, 1) := by decide +kernel
theorem dX3_findChoices_58 : decode cX3_findChoices 58 = .ok (.getfield 10, 3) := by decide +kernel
theorem dX3_findChoices_61 : decode cX3_findChoices 61 = .ok (.getfield 58, 3) := by decide +kernel
theorem dX3_findChoices_64 : decode cX3_findChoices 64 = .ok (.iload_n 1, 1) := by decide +kernel
theorem dX3_findChoices_65 : decode cX3_findChoices 65 = .ok (.iaload, 1) := by decide +kernel
theorem dX3_findChoices_66 : decode cX3_findChoices 66 = .ok (.aload_n 0, 1) := by decide +kernel
theorem dX3_findChoices_67 : decode cX3_findChoices 67 = .ok (.iload_n 1, 1) := by decide +kernel
theorem dX3_findChoices_68 : decode cX3_findChoices 68 = .ok (.invokevirtual 84, 3) := by decide +kernel
theorem dX3_findChoices_71 : decode cX3_findChoices 71 = .ok (.if_icmp .ne 17, 3) := by decide +kernel
theorem dX3_findChoices_74 : decode cX3_findChoices 74 = .ok (.aload_n 0, 1) := by decide +kernel
theorem dX3_findChoices_75 : decode cX3_findChoices 75 = .ok (.getfield 33, 3) := by decide +kernel
theorem dX3_findChoices_78 : decode cX3_findChoices 78 = .ok (.iload_n 1, 1) := by decide +kernel
theorem dX3_findChoices_79 : decode cX3_findChoices 79 = .ok (.aload_n 0, 1) := by decide +kernel
theorem dX3_findChoices_80 : decode cX3_findChoices 80 = .ok (.iload_n 1, 1) := by decide +kernel
theorem dX3_findChoices_81 : decode cX3_findChoices 81 = .ok (.invokevirtual 177, 3) := by decide +kernel
theorem dX3_findChoices_84 : decode cX3_findChoices 84 = .ok (.iastore, 1) := by decide +kernel
theorem dX3_findChoices_85 : decode cX3_findChoices 85 = .ok (.goto 13, 3) := by decide +kernel
theorem dX3_findChoices_88 : decode cX3_findChoices 88 = .ok (.aload_n 0, 1) := by decide +kernel
theorem dX3_findChoices_89 : decode cX3_findChoices 89 = .ok (.getfield 33, 3) := by decide +kernel
theorem dX3_findChoices_92 : decode cX3_findChoices 92 = .ok (.iload_n 1, 1) := by decide +kernel
theorem dX3_findChoices_93 : decode cX3_findChoices 93 = .ok (.iload_n 2, 1) := by decide +kernel
theorem dX3_findChoices_94 : decode cX3_findChoices 94 = .ok (.invokestatic 180, 3) := by decide +kernel
theorem dX3_findChoices_97 : decode cX3_findChoices 97 = .ok (.iastore, 1) := by decide +kernel
theorem dX3_findChoices_98 : decode cX3_findChoices 98 = .ok (.iinc 1 1, 3) := by decide +kernel
theorem dX3_findChoices_101 : decode cX3_findChoices 101 = .ok (.goto (-80), 3) := by decide +kernel
theorem dX3_findChoices_104 : decode cX3_findChoices 104 = .ok (.aload_n 0, 1) := by decide +kernel
theorem dX3_findChoices_105 : decode cX3_findChoices 105 = .ok (.iconst 1, 1) := by decide +kernel
theorem dX3_findChoices_106 : decode cX3_findChoices 106 = .ok (.putfield 172, 3) := by decide +kernel
theorem dX3_findChoices_109 : decode cX3_findChoices 109 = .ok (.return_, 1) := by decide +kernel
theorem dX3_settle_0 : decode cX3_settle 0 = .ok (.aload_n 0, 1) := by decide +kernel
theorem dX3_settle_1 : decode cX3_settle 1 = .ok (.getfield 10, 3) := by decide +kernel
theorem dX3_settle_4 : decode cX3_settle 4 = .ok (.getfield 64, 3) := by decide +kernel
theorem dX3_settle_7 : decode cX3_settle 7 = .ok (.iload_n 1, 1) := by decide +kernel
theorem dX3_settle_8 : decode cX3_settle 8 = .ok (.iaload, 1) := by decide +kernel
theorem dX3_settle_9 : decode cX3_settle 9 = .ok (.istore_n 2, 1) := by decide +kernel
theorem dX3_settle_10 : decode cX3_settle 10 = .ok (.iconst 0, 1) := by decide +kernel
theorem dX3_settle_11 : decode cX3_settle 11 = .ok (.istore_n 3, 1) := by decide +kernel
theorem dX3_settle_12 : decode cX3_settle 12 = .ok (.iload_n 3, 1) := by decide +kernel
theorem dX3_settle_13 : decode cX3_settle 13 = .ok (.aload_n 0, 1) := by decide +kernel
theorem dX3_settle_14 : decode cX3_settle 14 = .ok (.getfield 10, 3) := by decide +kernel
theorem dX3_settle_17 : decode cX3_settle 17 = .ok (.getfield 44, 3) := by decide +kernel
theorem dX3_settle_20 : decode cX3_settle 20 = .ok (.if_icmp .ge 59, 3) := by decide +kernel
theorem dX3_settle_23 : decode cX3_settle 23 = .ok (.iload_n 2, 1) := by decide +kernel
theorem dX3_settle_24 : decode cX3_settle 24 = .ok (.iload_n 3, 1) := by decide +kernel
theorem dX3_settle_25 : decode cX3_settle 25 = .ok (.invokestatic 67, 3) := by decide +kernel
theorem dX3_settle_28 : decode cX3_settle 28 = .ok (.ifCond .eq 45, 3) := by decide +kernel
theorem dX3_settle_31 : decode cX3_settle 31 = .ok (.aload_n 0, 1) := by decide +kernel
theorem dX3_settle_32 : decode cX3_settle 32 = .ok (.iload_n 3, 1) := by decide +kernel
theorem dX3_settle_33 : decode cX3_settle 33 = .ok (.invokevirtual 84, 3) := by decide +kernel
theorem dX3_settle_36 : decode cX3_settle 36 = .ok (.aload_n 0, 1) := by decide +kernel
theorem dX3_settle_37 : decode cX3_settle 37 = .ok (.iload_n 1, 1) := by decide +kernel
theorem dX3_settle_38 : decode cX3_settle 38 = .ok (.invokevirtual 84, 3) := by decide +kernel
theorem dX3_settle_41 : decode cX3_settle 41 = .ok (.if_icmp .ne 32, 3) := by decide +kernel
theorem dX3_settle_44 : decode cX3_settle 44 = .ok (.aload_n 0, 1) := by decide +kernel
theorem dX3_settle_45 : decode cX3_settle 45 = .ok (.getfield 30, 3) := by decide +kernel
theorem dX3_settle_48 : decode cX3_settle 48 = .ok (.getfield 64, 3) := by decide +kernel
theorem dX3_settle_51 : decode cX3_settle 51 = .ok (.iload_n 1, 1) := by decide +kernel
theorem dX3_settle_52 : decode cX3_settle 52 = .ok (.iconst 1, 1) := by decide +kernel
theorem dX3_settle_53 : decode cX3_settle 53 = .ok (.iload_n 3, 1) := by decide +kernel
theorem dX3_settle_54 : decode cX3_settle 54 = .ok (.ishl, 1) := by decide +kernel
theorem dX3_settle_55 : decode cX3_settle 55 = .ok (.iastore, 1) := by decide +kernel
theorem dX3_settle_56 : decode cX3_settle 56 = .ok (.aload_n 0, 1) := by decide +kernel
theorem dX3_settle_57 : decode cX3_settle 57 = .ok (.getfield 30, 3) := by decide +kernel
theorem dX3_settle_60 : decode cX3_settle 60 = .ok (.invokestatic 139, 3) := by decide +kernel
theorem dX3_settle_63 : decode cX3_settle 63 = .ok (.aload_n 0, 1) := by decide +kernel
theorem dX3_settle_64 : decode cX3_settle 64 = .ok (.iconst 0, 1) := by decide +kernel
theorem dX3_settle_65 : decode cX3_settle 65 = .ok (.invokevirtual 94, 3) := by decide +kernel
theorem dX3_settle_68 : decode cX3_settle 68 = .ok (.if_icmp .ne 5, 3) := by decide +kernel
theorem dX3_settle_71 : decode cX3_settle 71 = .ok (.iload_n 3, 1) := by decide +kernel
theorem dX3_settle_72 : decode cX3_settle 72 = .ok (.ireturn, 1) := by decide +kernel
theorem dX3_settle_73 : decode cX3_settle 73 = .ok (.iinc 3 1, 3) := by decide +kernel
theorem dX3_settle_76 : decode cX3_settle 76 = .ok (.goto (-64), 3) := by decide +kernel
theorem dX3_settle_79 : decode cX3_settle 79 = .ok (.bipush (-4), 2) := by decide +kernel
theorem dX3_settle_81 : decode cX3_settle 81 = .ok (.ireturn, 1) := by decide +kernel
theorem dX3_greatestRankOfRing_0 : decode cX3_greatestRankOfRing 0 = .ok (.iconst 0, 1) := by decide +kernel
theorem dX3_greatestRankOfRing_1 : decode cX3_greatestRankOfRing 1 = .ok (.istore_n 2, 1) := by decide +kernel
theorem dX3_greatestRankOfRing_2 : decode cX3_greatestRankOfRing 2 = .ok (.iload_n 1, 1) := by decide +kernel
theorem dX3_greatestRankOfRing_3 : decode cX3_greatestRankOfRing 3 = .ok (.istore_n 3, 1) := by decide +kernel
theorem dX3_greatestRankOfRing_4 : decode cX3_greatestRankOfRing 4 = .ok (.iconst 0, 1) := by decide +kernel
theorem dX3_greatestRankOfRing_5 : decode cX3_greatestRankOfRing 5 = .ok (.istore 4, 2) := by decide +kernel
theorem dX3_greatestRankOfRing_7 : decode cX3_greatestRankOfRing 7 = .ok (.iload 4, 2) := by decide +kernel
theorem dX3_greatestRankOfRing_9 : decode cX3_greatestRankOfRing 9 = .ok (.bipush 12, 2) := by decide +kernel
theorem dX3_greatestRankOfRing_11 : decode cX3_greatestRankOfRing 11 = .ok (.if_icmp .ge 48, 3) := by decide +kernel
theorem dX3_greatestRankOfRing_14 : decode cX3_greatestRankOfRing 14 = .ok (.aload_n 0, 1) := by decide +kernel
theorem dX3_greatestRankOfRing_15 : decode cX3_greatestRankOfRing 15 = .ok (.getfield 10, 3) := by decide +kernel
theorem dX3_greatestRankOfRing_18 : decode cX3_greatestRankOfRing 18 = .ok (.iload_n 3, 1) := by decide +kernel
theorem dX3_greatestRankOfRing_19 : decode cX3_greatestRankOfRing 19 = .ok (.invokevirtual 55, 3) := by decide +kernel
theorem dX3_greatestRankOfRing_22 : decode cX3_greatestRankOfRing 22 = .ok (.ifCond .eq 37, 3) := by decide +kernel
theorem dX3_greatestRankOfRing_25 : decode cX3_greatestRankOfRing 25 = .ok (.iload_n 2, 1) := by decide +kernel
theorem dX3_greatestRankOfRing_26 : decode cX3_greatestRankOfRing 26 = .ok (.aload_n 0, 1) := by decide +kernel
theorem dX3_greatestRankOfRing_27 : decode cX3_greatestRankOfRing 27 = .ok (.getfield 10, 3) := by decide +kernel
theorem dX3_greatestRankOfRing_30 : decode cX3_greatestRankOfRing 30 = .ok (.getfield 61, 3) := by decide +kernel
theorem dX3_greatestRankOfRing_33 : decode cX3_greatestRankOfRing 33 = .ok (.iload_n 3, 1) := by decide +kernel
theorem dX3_greatestRankOfRing_34 : decode cX3_greatestRankOfRing 34 = .ok (.iaload, 1) := by decide +kernel
theorem dX3_greatestRankOfRing_35 : decode cX3_greatestRankOfRing 35 = .ok (.invokestatic 183, 3) := by decide +kernel
theorem dX3_greatestRankOfRing_38 : decode cX3_greatestRankOfRing 38 = .ok (.istore_n 2, 1) := by decide +kernel
theorem dX3_greatestRankOfRing_39 : decode cX3_greatestRankOfRing 39 = .ok (.aload_n 0, 1) := by decide +kernel
theorem dX3_greatestRankOfRing_40 : decode cX3_greatestRankOfRing 40 = .ok (.getfield 33, 3) := by decide +kernel
theorem dX3_greatestRankOfRing_43 : decode cX3_greatestRankOfRing 43 = .ok (.iload_n 3, 1) := by decide +kernel
theorem dX3_greatestRankOfRing_44 : decode cX3_greatestRankOfRing 44 = .ok (.iaload, 1) := by decide +kernel
theorem dX3_greatestRankOfRing_45 : decode cX3_greatestRankOfRing 45 = .ok (.istore_n 3, 1) := by decide +kernel
theorem dX3_greatestRankOfRing_46 : decode cX3_greatestRankOfRing 46 = .ok (.iload_n 3, 1) := by decide +kernel
theorem dX3_greatestRankOfRing_47 : decode cX3_greatestRankOfRing 47 = .ok (.iload_n 1, 1) := by decide +kernel
theorem dX3_greatestRankOfRing_48 : decode cX3_greatestRankOfRing 48 = .ok (.if_icmp .ne 5, 3) := by decide +kernel
theorem dX3_greatestRankOfRing_51 : decode cX3_greatestRankOfRing 51 = .ok (.iload_n 2, 1) := by decide +kernel
theorem dX3_greatestRankOfRing_52 : decode cX3_greatestRankOfRing 52 = .ok (.ireturn, 1) := by decide +kernel
theorem dX3_greatestRankOfRing_53 : decode cX3_greatestRankOfRing 53 = .ok (.iinc 4 1, 3) := by decide +kernel
theorem dX3_greatestRankOfRing_56 : decode cX3_greatestRankOfRing 56 = .ok (.goto (-49), 3) := by decide +kernel
theorem dX3_greatestRankOfRing_59 : decode cX3_greatestRankOfRing 59 = .ok (.iload_n 2, 1) := by decide +kernel
theorem dX3_greatestRankOfRing_60 : decode cX3_greatestRankOfRing 60 = .ok (.ireturn, 1) := by decide +kernel
theorem dX3_turnsWinner_0 : decode cX3_turnsWinner 0 = .ok (.iload_n 3, 1) := by decide +kernel
theorem dX3_turnsWinner_1 : decode cX3_turnsWinner 1 = .ok (.invokestatic 41, 3) := by decide +kernel
theorem dX3_turnsWinner_4 : decode cX3_turnsWinner 4 = .ok (.ifCond .ne 5, 3) := by decide +kernel
theorem dX3_turnsWinner_7 : decode cX3_turnsWinner 7 = .ok (.iconst 0, 1) := by decide +kernel
theorem dX3_turnsWinner_8 : decode cX3_turnsWinner 8 = .ok (.ireturn, 1) := by decide +kernel
theorem dX3_turnsWinner_9 : decode cX3_turnsWinner 9 = .ok (.aload_n 0, 1) := by decide +kernel
theorem dX3_turnsWinner_10 : decode cX3_turnsWinner 10 = .ok (.getfield 30, 3) := by decide +kernel
theorem dX3_turnsWinner_13 : decode cX3_turnsWinner 13 = .ok (.getfield 61, 3) := by decide +kernel
theorem dX3_turnsWinner_16 : decode cX3_turnsWinner 16 = .ok (.iload_n 2, 1) := by decide +kernel
theorem dX3_turnsWinner_17 : decode cX3_turnsWinner 17 = .ok (.iload_n 3, 1) := by decide +kernel
theorem dX3_turnsWinner_18 : decode cX3_turnsWinner 18 = .ok (.iastore, 1) := by decide +kernel
theorem dX3_turnsWinner_19 : decode cX3_turnsWinner 19 = .ok (.aload_n 0, 1) := by decide +kernel
theorem dX3_turnsWinner_20 : decode cX3_turnsWinner 20 = .ok (.getfield 30, 3) := by decide +kernel
theorem dX3_turnsWinner_23 : decode cX3_turnsWinner 23 = .ok (.invokestatic 139, 3) := by decide +kernel
theorem dX3_turnsWinner_26 : decode cX3_turnsWinner 26 = .ok (.istore 4, 2) := by decide +kernel
theorem dX3_turnsWinner_28 : decode cX3_turnsWinner 28 = .ok (.aload_n 0, 1) := by decide +kernel
theorem dX3_turnsWinner_29 : decode cX3_turnsWinner 29 = .ok (.getfield 30, 3) := by decide +kernel
theorem dX3_turnsWinner_32 : decode cX3_turnsWinner 32 = .ok (.getfield 61, 3) := by decide +kernel
theorem dX3_turnsWinner_35 : decode cX3_turnsWinner 35 = .ok (.iload_n 2, 1) := by decide +kernel
theorem dX3_turnsWinner_36 : decode cX3_turnsWinner 36 = .ok (.aload_n 0, 1) := by decide +kernel
theorem dX3_turnsWinner_37 : decode cX3_turnsWinner 37 = .ok (.getfield 10, 3) := by decide +kernel
theorem dX3_turnsWinner_40 : decode cX3_turnsWinner 40 = .ok (.getfield 61, 3) := by decide +kernel
theorem dX3_turnsWinner_43 : decode cX3_turnsWinner 43 = .ok (.iload_n 2, 1) := by decide +kernel
theorem dX3_turnsWinner_44 : decode cX3_turnsWinner 44 = .ok (.iaload, 1) := by decide +kernel
theorem dX3_turnsWinner_45 : decode cX3_turnsWinner 45 = .ok (.iastore, 1) := by decide +kernel
theorem dX3_turnsWinner_46 : decode cX3_turnsWinner 46 = .ok (.iload 4, 2) := by decide +kernel
theorem dX3_turnsWinner_48 : decode cX3_turnsWinner 48 = .ok (.iload_n 1, 1) := by decide +kernel
theorem dX3_turnsWinner_49 : decode cX3_turnsWinner 49 = .ok (.invokestatic 67, 3) := by decide +kernel
theorem dX3_turnsWinner_52 : decode cX3_turnsWinner 52 = .ok (.aload_n 0, 1) := by decide +kernel
theorem dX3_turnsWinner_53 : decode cX3_turnsWinner 53 = .ok (.iconst 0, 1) := by decide +kernel
theorem dX3_turnsWinner_54 : decode cX3_turnsWinner 54 = .ok (.invokevirtual 94, 3) := by decide +kernel
theorem dX3_turnsWinner_57 : decode cX3_turnsWinner 57 = .ok (.iload_n 1, 1) := by decide +kernel
theorem dX3_turnsWinner_58 : decode cX3_turnsWinner 58 = .ok (.invokestatic 67, 3) := by decide +kernel
theorem dX3_turnsWinner_61 : decode cX3_turnsWinner 61 = .ok (.if_icmp .eq 7, 3) := by decide +kernel
theorem dX3_turnsWinner_64 : decode cX3_turnsWinner 64 = .ok (.iconst 1, 1) := by decide +kernel
theorem dX3_turnsWinner_65 : decode cX3_turnsWinner 65 = .ok (.goto 4, 3) := by decide +kernel
theorem dX3_turnsWinner_68 : decode cX3_turnsWinner 68 = .ok (.iconst 0, 1) := by decide +kernel
theorem dX3_turnsWinner_69 : decode cX3_turnsWinner 69 = .ok (.ireturn, 1) := by decide +kernel
theorem dJ6_numberOfTrailingZeros_0f7a4_0 : decode cJ6_numberOfTrailingZeros_0f7a4 0 = .ok (.iload_n 0, 1) := by decide +kernel
theorem dJ6_numberOfTrailingZeros_0f7a4_1 : decode cJ6_numberOfTrailingZeros_0f7a4 1 = .ok (.iconst (-1), 1) := by decide +kernel
theorem dJ6_numberOfTrailingZeros_0f7a4_2 : decode cJ6_numberOfTrailingZeros_0f7a4 2 = .ok (.ixor, 1) := by decide +kernel
theorem dJ6_numberOfTrailingZeros_0f7a4_3 : decode cJ6_numberOfTrailingZeros_0f7a4 3 = .ok (.iload_n 0, 1) := by decide +kernel
theorem dJ6_numberOfTrailingZeros_0f7a4_4 : decode cJ6_numberOfTrailingZeros_0f7a4 4 = .ok (.iconst 1, 1) := by decide +kernel
theorem dJ6_numberOfTrailingZeros_0f7a4_5 : decode cJ6_numberOfTrailingZeros_0f7a4 5 = .ok (.isub, 1) := by decide +kernel
theorem dJ6_numberOfTrailingZeros_0f7a4_6 : decode cJ6_numberOfTrailingZeros_0f7a4 6 = .ok (.iand, 1) := by decide +kernel
theorem dJ6_numberOfTrailingZeros_0f7a4_7 : decode cJ6_numberOfTrailingZeros_0f7a4 7 = .ok (.istore_n 0, 1) := by decide +kernel
theorem dJ6_numberOfTrailingZeros_0f7a4_8 : decode cJ6_numberOfTrailingZeros_0f7a4 8 = .ok (.iload_n 0, 1) := by decide +kernel
theorem dJ6_numberOfTrailingZeros_0f7a4_9 : decode cJ6_numberOfTrailingZeros_0f7a4 9 = .ok (.ifCond .gt 8, 3) := by decide +kernel
theorem dJ6_numberOfTrailingZeros_0f7a4_12 : decode cJ6_numberOfTrailingZeros_0f7a4 12 = .ok (.iload_n 0, 1) := by decide +kernel
theorem dJ6_numberOfTrailingZeros_0f7a4_13 : decode cJ6_numberOfTrailingZeros_0f7a4 13 = .ok (.bipush 32, 2) := by decide +kernel
theorem dJ6_numberOfTrailingZeros_0f7a4_15 : decode cJ6_numberOfTrailingZeros_0f7a4 15 = .ok (.iand, 1) := by decide +kernel
theorem dJ6_numberOfTrailingZeros_0f7a4_16 : decode cJ6_numberOfTrailingZeros_0f7a4 16 = .ok (.ireturn, 1) := by decide +kernel
theorem dJ6_numberOfTrailingZeros_0f7a4_17 : decode cJ6_numberOfTrailingZeros_0f7a4 17 = .ok (.iconst 1, 1) := by decide +kernel
theorem dJ6_numberOfTrailingZeros_0f7a4_18 : decode cJ6_numberOfTrailingZeros_0f7a4 18 = .ok (.istore_n 1, 1) := by decide +kernel
theorem dJ6_numberOfTrailingZeros_0f7a4_19 : decode cJ6_numberOfTrailingZeros_0f7a4 19 = .ok (.iload_n 0, 1) := by decide +kernel
theorem dJ6_numberOfTrailingZeros_0f7a4_20 : decode cJ6_numberOfTrailingZeros_0f7a4 20 = .ok (.ldc_w 264, 3) := by decide +kernel
theorem dJ6_numberOfTrailingZeros_0f7a4_23 : decode cJ6_numberOfTrailingZeros_0f7a4 23 = .ok (.if_icmp .le 11, 3) := by decide +kernel
theorem dJ6_numberOfTrailingZeros_0f7a4_26 : decode cJ6_numberOfTrailingZeros_0f7a4 26 = .ok (.iinc 1 16, 3) := by decide +kernel
theorem dJ6_numberOfTrailingZeros_0f7a4_29 : decode cJ6_numberOfTrailingZeros_0f7a4 29 = .ok (.iload_n 0, 1) := by decide +kernel
theorem dJ6_numberOfTrailingZeros_0f7a4_30 : decode cJ6_numberOfTrailingZeros_0f7a4 30 = .ok (.bipush 16, 2) := by decide +kernel
theorem dJ6_numberOfTrailingZeros_0f7a4_32 : decode cJ6_numberOfTrailingZeros_0f7a4 32 = .ok (.iushr, 1) := by decide +kernel
theorem dJ6_numberOfTrailingZeros_0f7a4_33 : decode cJ6_numberOfTrailingZeros_0f7a4 33 = .ok (.istore_n 0, 1) := by decide +kernel
theorem dJ6_numberOfTrailingZeros_0f7a4_34 : decode cJ6_numberOfTrailingZeros_0f7a4 34 = .ok (.iload_n 0, 1) := by decide +kernel
theorem dJ6_numberOfTrailingZeros_0f7a4_35 : decode cJ6_numberOfTrailingZeros_0f7a4 35 = .ok (.sipush 256, 3) := by decide +kernel
theorem dJ6_numberOfTrailingZeros_0f7a4_38 : decode cJ6_numberOfTrailingZeros_0f7a4 38 = .ok (.if_icmp .le 11, 3) := by decide +kernel
theorem dJ6_numberOfTrailingZeros_0f7a4_41 : decode cJ6_numberOfTrailingZeros_0f7a4 41 = .ok (.iinc 1 8, 3) := by decide +kernel
theorem dJ6_numberOfTrailingZeros_0f7a4_44 : decode cJ6_numberOfTrailingZeros_0f7a4 44 = .ok (.iload_n 0, 1) := by decide +kernel
theorem dJ6_numberOfTrailingZeros_0f7a4_45 : decode cJ6_numberOfTrailingZeros_0f7a4 45 = .ok (.bipush 8, 2) := by decide +kernel
theorem dJ6_numberOfTrailingZeros_0f7a4_47 : decode cJ6_numberOfTrailingZeros_0f7a4 47 = .ok (.iushr, 1) := by decide +kernel
theorem dJ6_numberOfTrailingZeros_0f7a4_48 : decode cJ6_numberOfTrailingZeros_0f7a4 48 = .ok (.istore_n 0, 1) := by decide +kernel
theorem dJ6_numberOfTrailingZeros_0f7a4_49 : decode cJ6_numberOfTrailingZeros_0f7a4 49 = .ok (.iload_n 0, 1) := by decide +kernel
theorem dJ6_numberOfTrailingZeros_0f7a4_50 : decode cJ6_numberOfTrailingZeros_0f7a4 50 = .ok (.bipush 16, 2) := by decide +kernel
theorem dJ6_numberOfTrailingZeros_0f7a4_52 : decode cJ6_numberOfTrailingZeros_0f7a4 52 = .ok (.if_icmp .le 10, 3) := by decide +kernel
theorem dJ6_numberOfTrailingZeros_0f7a4_55 : decode cJ6_numberOfTrailingZeros_0f7a4 55 = .ok (.iinc 1 4, 3) := by decide +kernel
theorem dJ6_numberOfTrailingZeros_0f7a4_58 : decode cJ6_numberOfTrailingZeros_0f7a4 58 = .ok (.iload_n 0, 1) := by decide +kernel
theorem dJ6_numberOfTrailingZeros_0f7a4_59 : decode cJ6_numberOfTrailingZeros_0f7a4 59 = .ok (.iconst 4, 1) := by decide +kernel
theorem dJ6_numberOfTrailingZeros_0f7a4_60 : decode cJ6_numberOfTrailingZeros_0f7a4 60 = .ok (.iushr, 1) := by decide +kernel
theorem dJ6_numberOfTrailingZeros_0f7a4_61 : decode cJ6_numberOfTrailingZeros_0f7a4 61 = .ok (.istore_n 0, 1) := by decide +kernel
theorem dJ6_numberOfTrailingZeros_0f7a4_62 : decode cJ6_numberOfTrailingZeros_0f7a4 62 = .ok (.iload_n 0, 1) := by decide +kernel
theorem dJ6_numberOfTrailingZeros_0f7a4_63 : decode cJ6_numberOfTrailingZeros_0f7a4 63 = .ok (.iconst 4, 1) := by decide +kernel
theorem dJ6_numberOfTrailingZeros_0f7a4_64 : decode cJ6_numberOfTrailingZeros_0f7a4 64 = .ok (.if_icmp .le 10, 3) := by decide +kernel
theorem dJ6_numberOfTrailingZeros_0f7a4_67 : decode cJ6_numberOfTrailingZeros_0f7a4 67 = .ok (.iinc 1 2, 3) := by decide +kernel
theorem dJ6_numberOfTrailingZeros_0f7a4_70 : decode cJ6_numberOfTrailingZeros_0f7a4 70 = .ok (.iload_n 0, 1) := by decide +kernel
theorem dJ6_numberOfTrailingZeros_0f7a4_71 : decode cJ6_numberOfTrailingZeros_0f7a4 71 = .ok (.iconst 2, 1) := by decide +kernel
theorem dJ6_numberOfTrailingZeros_0f7a4_72 : decode cJ6_numberOfTrailingZeros_0f7a4 72 = .ok (.iushr, 1) := by decide +kernel
theorem dJ6_numberOfTrailingZeros_0f7a4_73 : decode cJ6_numberOfTrailingZeros_0f7a4 73 = .ok (.istore_n 0, 1) := by decide +kernel
theorem dJ6_numberOfTrailingZeros_0f7a4_74 : decode cJ6_numberOfTrailingZeros_0f7a4 74 = .ok (.iload_n 1, 1) := by decide +kernel
theorem dJ6_numberOfTrailingZeros_0f7a4_75 : decode cJ6_numberOfTrailingZeros_0f7a4 75 = .ok (.iload_n 0, 1) := by decide +kernel
theorem dJ6_numberOfTrailingZeros_0f7a4_76 : decode cJ6_numberOfTrailingZeros_0f7a4 76 = .ok (.iconst 1, 1) := by decide +kernel
theorem dJ6_numberOfTrailingZeros_0f7a4_77 : decode cJ6_numberOfTrailingZeros_0f7a4 77 = .ok (.iushr, 1) := by decide +kernel
theorem dJ6_numberOfTrailingZeros_0f7a4_78 : decode cJ6_numberOfTrailingZeros_0f7a4 78 = .ok (.iadd, 1) := by decide +kernel
theorem dJ6_numberOfTrailingZeros_0f7a4_79 : decode cJ6_numberOfTrailingZeros_0f7a4 79 = .ok (.ireturn, 1) := by decide +kernel
theorem dJ6_bitCount_0f7a4_0 : decode cJ6_bitCount_0f7a4 0 = .ok (.iload_n 0, 1) := by decide +kernel
theorem dJ6_bitCount_0f7a4_1 : decode cJ6_bitCount_0f7a4 1 = .ok (.iload_n 0, 1) := by decide +kernel
theorem dJ6_bitCount_0f7a4_2 : decode cJ6_bitCount_0f7a4 2 = .ok (.iconst 1, 1) := by decide +kernel
theorem dJ6_bitCount_0f7a4_3 : decode cJ6_bitCount_0f7a4 3 = .ok (.iushr, 1) := by decide +kernel
theorem dJ6_bitCount_0f7a4_4 : decode cJ6_bitCount_0f7a4 4 = .ok (.ldc_w 265, 3) := by decide +kernel
theorem dJ6_bitCount_0f7a4_7 : decode cJ6_bitCount_0f7a4 7 = .ok (.iand, 1) := by decide +kernel
theorem dJ6_bitCount_0f7a4_8 : decode cJ6_bitCount_0f7a4 8 = .ok (.isub, 1) := by decide +kernel
theorem dJ6_bitCount_0f7a4_9 : decode cJ6_bitCount_0f7a4 9 = .ok (.istore_n 0, 1) := by decide +kernel
theorem dJ6_bitCount_0f7a4_10 : decode cJ6_bitCount_0f7a4 10 = .ok (.iload_n 0, 1) := by decide +kernel
theorem dJ6_bitCount_0f7a4_11 : decode cJ6_bitCount_0f7a4 11 = .ok (.ldc_w 266, 3) := by decide +kernel
theorem dJ6_bitCount_0f7a4_14 : decode cJ6_bitCount_0f7a4 14 = .ok (.iand, 1) := by decide +kernel
theorem dJ6_bitCount_0f7a4_15 : decode cJ6_bitCount_0f7a4 15 = .ok (.iload_n 0, 1) := by decide +kernel
theorem dJ6_bitCount_0f7a4_16 : decode cJ6_bitCount_0f7a4 16 = .ok (.iconst 2, 1) := by decide +kernel
theorem dJ6_bitCount_0f7a4_17 : decode cJ6_bitCount_0f7a4 17 = .ok (.iushr, 1) := by decide +kernel
theorem dJ6_bitCount_0f7a4_18 : decode cJ6_bitCount_0f7a4 18 = .ok (.ldc_w 266, 3) := by decide +kernel
theorem dJ6_bitCount_0f7a4_21 : decode cJ6_bitCount_0f7a4 21 = .ok (.iand, 1) := by decide +kernel
theorem dJ6_bitCount_0f7a4_22 : decode cJ6_bitCount_0f7a4 22 = .ok (.iadd, 1) := by decide +kernel
theorem dJ6_bitCount_0f7a4_23 : decode cJ6_bitCount_0f7a4 23 = .ok (.istore_n 0, 1) := by decide +kernel
theorem dJ6_bitCount_0f7a4_24 : decode cJ6_bitCount_0f7a4 24 = .ok (.iload_n 0, 1) := by decide +kernel
theorem dJ6_bitCount_0f7a4_25 : decode cJ6_bitCount_0f7a4 25 = .ok (.iload_n 0, 1) := by decide +kernel
theorem dJ6_bitCount_0f7a4_26 : decode cJ6_bitCount_0f7a4 26 = .ok (.iconst 4, 1) := by decide +kernel
theorem dJ6_bitCount_0f7a4_27 : decode cJ6_bitCount_0f7a4 27 = .ok (.iushr, 1) := by decide +kernel
theorem dJ6_bitCount_0f7a4_28 : decode cJ6_bitCount_0f7a4 28 = .ok (.iadd, 1) := by decide +kernel
theorem dJ6_bitCount_0f7a4_29 : decode cJ6_bitCount_0f7a4 29 = .ok (.ldc_w 267, 3) := by decide +kernel
theorem dJ6_bitCount_0f7a4_32 : decode cJ6_bitCount_0f7a4 32 = .ok (.iand, 1) := by decide +kernel
theorem dJ6_bitCount_0f7a4_33 : decode cJ6_bitCount_0f7a4 33 = .ok (.istore_n 0, 1) := by decide +kernel
theorem dJ6_bitCount_0f7a4_34 : decode cJ6_bitCount_0f7a4 34 = .ok (.iload_n 0, 1) := by decide +kernel
theorem dJ6_bitCount_0f7a4_35 : decode cJ6_bitCount_0f7a4 35 = .ok (.iload_n 0, 1) := by decide +kernel
theorem dJ6_bitCount_0f7a4_36 : decode cJ6_bitCount_0f7a4 36 = .ok (.bipush 8, 2) := by decide +kernel
theorem dJ6_bitCount_0f7a4_38 : decode cJ6_bitCount_0f7a4 38 = .ok (.iushr, 1) := by decide +kernel
theorem dJ6_bitCount_0f7a4_39 : decode cJ6_bitCount_0f7a4 39 = .ok (.iadd, 1) := by decide +kernel
theorem dJ6_bitCount_0f7a4_40 : decode cJ6_bitCount_0f7a4 40 = .ok (.istore_n 0, 1) := by decide +kernel
theorem dJ6_bitCount_0f7a4_41 : decode cJ6_bitCount_0f7a4 41 = .ok (.iload_n 0, 1) := by decide +kernel
theorem dJ6_bitCount_0f7a4_42 : decode cJ6_bitCount_0f7a4 42 = .ok (.iload_n 0, 1) := by decide +kernel
theorem dJ6_bitCount_0f7a4_43 : decode cJ6_bitCount_0f7a4 43 = .ok (.bipush 16, 2) := by decide +kernel
theorem dJ6_bitCount_0f7a4_45 : decode cJ6_bitCount_0f7a4 45 = .ok (.iushr, 1) := by decide +kernel
theorem dJ6_bitCount_0f7a4_46 : decode cJ6_bitCount_0f7a4 46 = .ok (.iadd, 1) := by decide +kernel
theorem dJ6_bitCount_0f7a4_47 : decode cJ6_bitCount_0f7a4 47 = .ok (.istore_n 0, 1) := by decide +kernel
theorem dJ6_bitCount_0f7a4_48 : decode cJ6_bitCount_0f7a4 48 = .ok (.iload_n 0, 1) := by decide +kernel
theorem dJ6_bitCount_0f7a4_49 : decode cJ6_bitCount_0f7a4 49 = .ok (.bipush 63, 2) := by decide +kernel
theorem dJ6_bitCount_0f7a4_51 : decode cJ6_bitCount_0f7a4 51 = .ok (.iand, 1) := by decide +kernel
theorem dJ6_bitCount_0f7a4_52 : decode cJ6_bitCount_0f7a4 52 = .ok (.ireturn, 1) := by decide +kernel
theorem dJ9_max_7cf53_0 : decode cJ9_max_7cf53 0 = .ok (.iload_n 0, 1) := by decide +kernel
theorem dJ9_max_7cf53_1 : decode cJ9_max_7cf53 1 = .ok (.iload_n 1, 1) := by decide +kernel
theorem dJ9_max_7cf53_2 : decode cJ9_max_7cf53 2 = .ok (.if_icmp .lt 7, 3) := by decide +kernel
theorem dJ9_max_7cf53_5 : decode cJ9_max_7cf53 5 = .ok (.iload_n 0, 1) := by decide +kernel
theorem dJ9_max_7cf53_6 : decode cJ9_max_7cf53 6 = .ok (.goto 4, 3) := by decide +kernel
theorem dJ9_max_7cf53_9 : decode cJ9_max_7cf53 9 = .ok (.iload_n 1, 1) := by decide +kernel
theorem dJ9_max_7cf53_10 : decode cJ9_max_7cf53 10 = .ok (.ireturn, 1) := by decide +kernel
end
section
theorem dX4_init_0 : decode cX4_init 0 = .ok (.aload_n 0, 1) := by decide +kernel
theorem dX4_init_1 : decode cX4_init 1 = .ok (.invokespecial 1, 3) := by decide +kernel
theorem dX4_init_4 : decode cX4_init 4 = .ok (.aload_n 0, 1) := by decide +kernel
theorem dX4_init_5 : decode cX4_init 5 = .ok (.bipush 37, 2) := by decide +kernel
theorem dX4_init_7 : decode cX4_init 7 = .ok (.newarray .int, 2) := by decide +kernel
theorem dX4_init_9 : decode cX4_init 9 = .ok (.putfield 7, 3) := by decide +kernel
theorem dX4_init_12 : decode cX4_init 12 = .ok (.aload_n 0, 1) := by decide +kernel
theorem dX4_init_13 : decode cX4_init 13 = .ok (.sipush 148, 3) := by decide +kernel
theorem dX4_init_16 : decode cX4_init 16 = .ok (.newarray .int, 2) := by decide +kernel
theorem dX4_init_18 : decode cX4_init 18 = .ok (.putfield 13, 3) := by decide +kernel
theorem dX4_init_21 : decode cX4_init 21 = .ok (.aload_n 0, 1) := by decide +kernel
theorem dX4_init_22 : decode cX4_init 22 = .ok (.bipush 37, 2) := by decide +kernel
theorem dX4_init_24 : decode cX4_init 24 = .ok (.newarray .int, 2) := by decide +kernel
theorem dX4_init_26 : decode cX4_init 26 = .ok (.putfield 16, 3) := by decide +kernel
theorem dX4_init_29 : decode cX4_init 29 = .ok (.aload_n 0, 1) := by decide +kernel
theorem dX4_init_30 : decode cX4_init 30 = .ok (.bipush 80, 2) := by decide +kernel
theorem dX4_init_32 : decode cX4_init 32 = .ok (.newarray .int, 2) := by decide +kernel
theorem dX4_init_34 : decode cX4_init 34 = .ok (.putfield 19, 3) := by decide +kernel
theorem dX4_init_37 : decode cX4_init 37 = .ok (.aload_n 0, 1) := by decide +kernel
theorem dX4_init_38 : decode cX4_init 38 = .ok (.bipush 12, 2) := by decide +kernel
theorem dX4_init_40 : decode cX4_init 40 = .ok (.newarray .int, 2) := by decide +kernel
theorem dX4_init_42 : decode cX4_init 42 = .ok (.putfield 22, 3) := by decide +kernel
theorem dX4_init_45 : decode cX4_init 45 = .ok (.aload_n 0, 1) := by decide +kernel
theorem dX4_init_46 : decode cX4_init 46 = .ok (.bipush 12, 2) := by decide +kernel
theorem dX4_init_48 : decode cX4_init 48 = .ok (.newarray .int, 2) := by decide +kernel
theorem dX4_init_50 : decode cX4_init 50 = .ok (.putfield 25, 3) := by decide +kernel
theorem dX4_init_53 : decode cX4_init 53 = .ok (.aload_n 0, 1) := by decide +kernel
theorem dX4_init_54 : decode cX4_init 54 = .ok (.bipush 12, 2) := by decide +kernel
theorem dX4_init_56 : decode cX4_init 56 = .ok (.newarray .int, 2) := by decide +kernel
theorem dX4_init_58 : decode cX4_init 58 = .ok (.putfield 28, 3) := by decide +kernel
theorem dX4_init_61 : decode cX4_init 61 = .ok (.aload_n 0, 1) := by decide +kernel
theorem dX4_init_62 : decode cX4_init 62 = .ok (.bipush 12, 2) := by decide +kernel
theorem dX4_init_64 : decode cX4_init 64 = .ok (.newarray .int, 2) := by decide +kernel
theorem dX4_init_66 : decode cX4_init 66 = .ok (.putfield 31, 3) := by decide +kernel
theorem dX4_init_69 : decode cX4_init 69 = .ok (.aload_n 0, 1) := by decide +kernel
theorem dX4_init_70 : decode cX4_init 70 = .ok (.bipush 12, 2) := by decide +kernel
theorem dX4_init_72 : decode cX4_init 72 = .ok (.newarray .int, 2) := by decide +kernel
theorem dX4_init_74 : decode cX4_init 74 = .ok (.putfield 34, 3) := by decide +kernel
theorem dX4_init_77 : decode cX4_init 77 = .ok (.aload_n 0, 1) := by decide +kernel
theorem dX4_init_78 : decode cX4_init 78 = .ok (.bipush 12, 2) := by decide +kernel
theorem dX4_init_80 : decode cX4_init 80 = .ok (.newarray .int, 2) := by decide +kernel
theorem dX4_init_82 : decode cX4_init 82 = .ok (.putfield 37, 3) := by decide +kernel
theorem dX4_init_85 : decode cX4_init 85 = .ok (.aload_n 0, 1) := by decide +kernel
theorem dX4_init_86 : decode cX4_init 86 = .ok (.bipush 100, 2) := by decide +kernel
theorem dX4_init_88 : decode cX4_init 88 = .ok (.newarray .int, 2) := by decide +kernel
theorem dX4_init_90 : decode cX4_init 90 = .ok (.putfield 40, 3) := by decide +kernel
theorem dX4_init_93 : decode cX4_init 93 = .ok (.aload_n 0, 1) := by decide +kernel
theorem dX4_init_94 : decode cX4_init 94 = .ok (.bipush 100, 2) := by decide +kernel
theorem dX4_init_96 : decode cX4_init 96 = .ok (.newarray .int, 2) := by decide +kernel
theorem dX4_init_98 : decode cX4_init 98 = .ok (.putfield 43, 3) := by decide +kernel
theorem dX4_init_101 : decode cX4_init 101 = .ok (.aload_n 0, 1) := by decide +kernel
theorem dX4_init_102 : decode cX4_init 102 = .ok (.iconst 0, 1) := by decide +kernel
theorem dX4_init_103 : decode cX4_init 103 = .ok (.putfield 46, 3) := by decide +kernel
theorem dX4_init_106 : decode cX4_init 106 = .ok (.return_, 1) := by decide +kernel
theorem dX4_in_0 : decode cX4_in 0 = .ok (.iload_n 0, 1) := by decide +kernel
theorem dX4_in_1 : decode cX4_in 1 = .ok (.iload_n 1, 1) := by decide +kernel
theorem dX4_in_2 : decode cX4_in 2 = .ok (.if_icmp .lt 12, 3) := by decide +kernel
theorem dX4_in_5 : decode cX4_in 5 = .ok (.iload_n 0, 1) := by decide +kernel
theorem dX4_in_6 : decode cX4_in 6 = .ok (.iload_n 2, 1) := by decide +kernel
theorem dX4_in_7 : decode cX4_in 7 = .ok (.if_icmp .gt 7, 3) := by decide +kernel
theorem dX4_in_10 : decode cX4_in 10 = .ok (.iconst 1, 1) := by decide +kernel
theorem dX4_in_11 : decode cX4_in 11 = .ok (.goto 4, 3) := by decide +kernel
theorem dX4_in_14 : decode cX4_in 14 = .ok (.iconst 0, 1) := by decide +kernel
theorem dX4_in_15 : decode cX4_in 15 = .ok (.ireturn, 1) := by decide +kernel
theorem dX4_copies_0 : decode cX4_copies 0 = .ok (.iconst 0, 1) := by decide +kernel
theorem dX4_copies_1 : decode cX4_copies 1 = .ok (.istore_n 2, 1) := by decide +kernel
theorem dX4_copies_2 : decode cX4_copies 2 = .ok (.iload_n 2, 1) := by decide +kernel
theorem dX4_copies_3 : decode cX4_copies 3 = .ok (.bipush 37, 2) := by decide +kernel
theorem dX4_copies_5 : decode cX4_copies 5 = .ok (.if_icmp .ge 15, 3) := by decide +kernel
theorem dX4_copies_8 : decode cX4_copies 8 = .ok (.aload_n 1, 1) := by decide +kernel
theorem dX4_copies_9 : decode cX4_copies 9 = .ok (.iload_n 2, 1) := by decide +kernel
theorem dX4_copies_10 : decode cX4_copies 10 = .ok (.aload_n 0, 1) := by decide +kernel
theorem dX4_copies_11 : decode cX4_copies 11 = .ok (.iload_n 2, 1) := by decide +kernel
theorem dX4_copies_12 : decode cX4_copies 12 = .ok (.iaload, 1) := by decide +kernel
theorem dX4_copies_13 : decode cX4_copies 13 = .ok (.iastore, 1) := by decide +kernel
theorem dX4_copies_14 : decode cX4_copies 14 = .ok (.iinc 2 1, 3) := by decide +kernel
theorem dX4_copies_17 : decode cX4_copies 17 = .ok (.goto (-15), 3) := by decide +kernel
theorem dX4_copies_20 : decode cX4_copies 20 = .ok (.return_, 1) := by decide +kernel
theorem dX4_changes_0 : decode cX4_changes 0 = .ok (.aload_n 0, 1) := by decide +kernel
theorem dX4_changes_1 : decode cX4_changes 1 = .ok (.getfield 46, 3) := by decide +kernel
theorem dX4_changes_4 : decode cX4_changes 4 = .ok (.iconst 4, 1) := by decide +kernel
theorem dX4_changes_5 : decode cX4_changes 5 = .ok (.if_icmp .ne 42, 3) := by decide +kernel
theorem dX4_changes_8 : decode cX4_changes 8 = .ok (.iconst 0, 1) := by decide +kernel
theorem dX4_changes_9 : decode cX4_changes 9 = .ok (.istore_n 1, 1) := by decide +kernel
theorem dX4_changes_10 : decode cX4_changes 10 = .ok (.iload_n 1, 1) := by decide +kernel
theorem dX4_changes_11 : decode cX4_changes 11 = .ok (.bipush 111, 2) := by decide +kernel
theorem dX4_changes_13 : decode cX4_changes 13 = .ok (.if_icmp .ge 24, 3) := by decide +kernel
theorem dX4_changes_16 : decode cX4_changes 16 = .ok (.aload_n 0, 1) := by decide +kernel
theorem dX4_changes_17 : decode cX4_changes 17 = .ok (.getfield 13, 3) := by decide +kernel
theorem dX4_changes_20 : decode cX4_changes 20 = .ok (.iload_n 1, 1) := by decide +kernel
theorem dX4_changes_21 : decode cX4_changes 21 = .ok (.aload_n 0, 1) := by decide +kernel
theorem dX4_changes_22 : decode cX4_changes 22 = .ok (.getfield 13, 3) := by decide +kernel
theorem dX4_changes_25 : decode cX4_changes 25 = .ok (.iload_n 1, 1) := by decide +kernel
theorem dX4_changes_26 : decode cX4_changes 26 = .ok (.bipush 37, 2) := by decide +kernel
theorem dX4_changes_28 : decode cX4_changes 28 = .ok (.iadd, 1) := by decide +kernel
theorem dX4_changes_29 : decode cX4_changes 29 = .ok (.iaload, 1) := by decide +kernel
theorem dX4_changes_30 : decode cX4_changes 30 = .ok (.iastore, 1) := by decide +kernel
theorem dX4_changes_31 : decode cX4_changes 31 = .ok (.iinc 1 1, 3) := by decide +kernel
theorem dX4_changes_34 : decode cX4_changes 34 = .ok (.goto (-24), 3) := by decide +kernel
theorem dX4_changes_37 : decode cX4_changes 37 = .ok (.aload_n 0, 1) := by decide +kernel
theorem dX4_changes_38 : decode cX4_changes 38 = .ok (.dup, 1) := by decide +kernel
theorem dX4_changes_39 : decode cX4_changes 39 = .ok (.getfield 46, 3) := by decide +kernel
theorem dX4_changes_42 : decode cX4_changes 42 = .ok (.iconst 1, 1) := by decide +kernel
theorem dX4_changes_43 : decode cX4_changes 43 = .ok (.isub, 1) := by decide +kernel
theorem dX4_changes_44 : decode cX4_changes 44 = .ok (.putfield 46, 3) := by decide +kernel
theorem dX4_changes_47 : decode cX4_changes 47 = .ok (.iconst 0, 1) := by decide +kernel
theorem dX4_changes_48 : decode cX4_changes 48 = .ok (.istore_n 1, 1) := by decide +kernel
theorem dX4_changes_49 : decode cX4_changes 49 = .ok (.iload_n 1, 1) := by decide +kernel
theorem dX4_changes_50 : decode cX4_changes 50 = .ok (.bipush 37, 2) := by decide +kernel
theorem dX4_changes_52 : decode cX4_changes 52 = .ok (.if_icmp .ge 29, 3) := by decide +kernel
theorem dX4_changes_55 : decode cX4_changes 55 = .ok (.aload_n 0, 1) := by decide +kernel
theorem dX4_changes_56 : decode cX4_changes 56 = .ok (.getfield 13, 3) := by decide +kernel
theorem dX4_changes_59 : decode cX4_changes 59 = .ok (.bipush 37, 2) := by decide +kernel
theorem dX4_changes_61 : decode cX4_changes 61 = .ok (.aload_n 0, 1) := by decide +kernel
theorem dX4_changes_62 : decode cX4_changes 62 = .ok (.getfield 46, 3) := by decide +kernel
theorem dX4_changes_65 : decode cX4_changes 65 = .ok (.imul, 1) := by decide +kernel
theorem dX4_changes_66 : decode cX4_changes 66 = .ok (.iload_n 1, 1) := by decide +kernel
theorem dX4_changes_67 : decode cX4_changes 67 = .ok (.iadd, 1) := by decide +kernel
theorem dX4_changes_68 : decode cX4_changes 68 = .ok (.aload_n 0, 1) := by decide +kernel
theorem dX4_changes_69 : decode cX4_changes 69 = .ok (.getfield 7, 3) := by decide +kernel
theorem dX4_changes_72 : decode cX4_changes 72 = .ok (.iload_n 1, 1) := by decide +kernel
theorem dX4_changes_73 : decode cX4_changes 73 = .ok (.iaload, 1) := by decide +kernel
theorem dX4_changes_74 : decode cX4_changes 74 = .ok (.iastore, 1) := by decide +kernel
theorem dX4_changes_75 : decode cX4_changes 75 = .ok (.iinc 1 1, 3) := by decide +kernel
theorem dX4_changes_78 : decode cX4_changes 78 = .ok (.goto (-29), 3) := by decide +kernel
theorem dX4_changes_81 : decode cX4_changes 81 = .ok (.aload_n 0, 1) := by decide +kernel
theorem dX4_changes_82 : decode cX4_changes 82 = .ok (.dup, 1) := by decide +kernel
theorem dX4_changes_83 : decode cX4_changes 83 = .ok (.getfield 46, 3) := by decide +kernel
theorem dX4_changes_86 : decode cX4_changes 86 = .ok (.iconst 1, 1) := by decide +kernel
theorem dX4_changes_87 : decode cX4_changes 87 = .ok (.iadd, 1) := by decide +kernel
theorem dX4_changes_88 : decode cX4_changes 88 = .ok (.putfield 46, 3) := by decide +kernel
theorem dX4_changes_91 : decode cX4_changes 91 = .ok (.return_, 1) := by decide +kernel
theorem dX4_isPlace_0 : decode cX4_isPlace 0 = .ok (.iload_n 1, 1) := by decide +kernel
theorem dX4_isPlace_1 : decode cX4_isPlace 1 = .ok (.ifCond .lt 17, 3) := by decide +kernel
theorem dX4_isPlace_4 : decode cX4_isPlace 4 = .ok (.iload_n 1, 1) := by decide +kernel
theorem dX4_isPlace_5 : decode cX4_isPlace 5 = .ok (.aload_n 0, 1) := by decide +kernel
theorem dX4_isPlace_6 : decode cX4_isPlace 6 = .ok (.getfield 7, 3) := by decide +kernel
theorem dX4_isPlace_9 : decode cX4_isPlace 9 = .ok (.iconst 0, 1) := by decide +kernel
theorem dX4_isPlace_10 : decode cX4_isPlace 10 = .ok (.iaload, 1) := by decide +kernel
theorem dX4_isPlace_11 : decode cX4_isPlace 11 = .ok (.if_icmp .ge 7, 3) := by decide +kernel
theorem dX4_isPlace_14 : decode cX4_isPlace 14 = .ok (.iconst 1, 1) := by decide +kernel
theorem dX4_isPlace_15 : decode cX4_isPlace 15 = .ok (.goto 4, 3) := by decide +kernel
theorem dX4_isPlace_18 : decode cX4_isPlace 18 = .ok (.iconst 0, 1) := by decide +kernel
theorem dX4_isPlace_19 : decode cX4_isPlace 19 = .ok (.ireturn, 1) := by decide +kernel
theorem dX4_all_0 : decode cX4_all 0 = .ok (.iconst 1, 1) := by decide +kernel
theorem dX4_all_1 : decode cX4_all 1 = .ok (.aload_n 0, 1) := by decide +kernel
theorem dX4_all_2 : decode cX4_all 2 = .ok (.getfield 7, 3) := by decide +kernel
theorem dX4_all_5 : decode cX4_all 5 = .ok (.iconst 0, 1) := by decide +kernel
theorem dX4_all_6 : decode cX4_all 6 = .ok (.iaload, 1) := by decide +kernel
theorem dX4_all_7 : decode cX4_all 7 = .ok (.ishl, 1) := by decide +kernel
theorem dX4_all_8 : decode cX4_all 8 = .ok (.iconst 1, 1) := by decide +kernel
theorem dX4_all_9 : decode cX4_all 9 = .ok (.isub, 1) := by decide +kernel
theorem dX4_all_10 : decode cX4_all 10 = .ok (.ireturn, 1) := by decide +kernel
theorem dX4_hasWay_0 : decode cX4_hasWay 0 = .ok (.aload_n 0, 1) := by decide +kernel
theorem dX4_hasWay_1 : decode cX4_hasWay 1 = .ok (.getfield 7, 3) := by decide +kernel
theorem dX4_hasWay_4 : decode cX4_hasWay 4 = .ok (.bipush 25, 2) := by decide +kernel
theorem dX4_hasWay_6 : decode cX4_hasWay 6 = .ok (.iload_n 1, 1) := by decide +kernel
theorem dX4_hasWay_7 : decode cX4_hasWay 7 = .ok (.iadd, 1) := by decide +kernel
theorem dX4_hasWay_8 : decode cX4_hasWay 8 = .ok (.iaload, 1) := by decide +kernel
theorem dX4_hasWay_9 : decode cX4_hasWay 9 = .ok (.iload_n 2, 1) := by decide +kernel
theorem dX4_hasWay_10 : decode cX4_hasWay 10 = .ok (.ishr, 1) := by decide +kernel
theorem dX4_hasWay_11 : decode cX4_hasWay 11 = .ok (.iconst 1, 1) := by decide +kernel
theorem dX4_hasWay_12 : decode cX4_hasWay 12 = .ok (.iand, 1) := by decide +kernel
theorem dX4_hasWay_13 : decode cX4_hasWay 13 = .ok (.iconst 1, 1) := by decide +kernel
theorem dX4_hasWay_14 : decode cX4_hasWay 14 = .ok (.if_icmp .ne 7, 3) := by decide +kernel
theorem dX4_hasWay_17 : decode cX4_hasWay 17 = .ok (.iconst 1, 1) := by decide +kernel
theorem dX4_hasWay_18 : decode cX4_hasWay 18 = .ok (.goto 4, 3) := by decide +kernel
theorem dX4_hasWay_21 : decode cX4_hasWay 21 = .ok (.iconst 0, 1) := by decide +kernel
theorem dX4_hasWay_22 : decode cX4_hasWay 22 = .ok (.ireturn, 1) := by decide +kernel
theorem dX4_ones_0 : decode cX4_ones 0 = .ok (.iconst 0, 1) := by decide +kernel
theorem dX4_ones_1 : decode cX4_ones 1 = .ok (.istore_n 1, 1) := by decide +kernel
theorem dX4_ones_2 : decode cX4_ones 2 = .ok (.iconst 0, 1) := by decide +kernel
theorem dX4_ones_3 : decode cX4_ones 3 = .ok (.istore_n 2, 1) := by decide +kernel
theorem dX4_ones_4 : decode cX4_ones 4 = .ok (.iload_n 2, 1) := by decide +kernel
theorem dX4_ones_5 : decode cX4_ones 5 = .ok (.bipush 12, 2) := by decide +kernel
theorem dX4_ones_7 : decode cX4_ones 7 = .ok (.if_icmp .ge 17, 3) := by decide +kernel
theorem dX4_ones_10 : decode cX4_ones 10 = .ok (.iload_n 1, 1) := by decide +kernel
theorem dX4_ones_11 : decode cX4_ones 11 = .ok (.iload_n 0, 1) := by decide +kernel
theorem dX4_ones_12 : decode cX4_ones 12 = .ok (.iload_n 2, 1) := by decide +kernel
theorem dX4_ones_13 : decode cX4_ones 13 = .ok (.ishr, 1) := by decide +kernel
theorem dX4_ones_14 : decode cX4_ones 14 = .ok (.iconst 1, 1) := by decide +kernel
theorem dX4_ones_15 : decode cX4_ones 15 = .ok (.iand, 1) := by decide +kernel
theorem dX4_ones_16 : decode cX4_ones 16 = .ok (.iadd, 1) := by decide +kernel
theorem dX4_ones_17 : decode cX4_ones 17 = .ok (.istore_n 1, 1) := by decide +kernel
theorem dX4_ones_18 : decode cX4_ones 18 = .ok (.iinc 2 1, 3) := by decide +kernel
theorem dX4_ones_21 : decode cX4_ones 21 = .ok (.goto (-17), 3) := by decide +kernel
theorem dX4_ones_24 : decode cX4_ones 24 = .ok (.iload_n 1, 1) := by decide +kernel
theorem dX4_ones_25 : decode cX4_ones 25 = .ok (.ireturn, 1) := by decide +kernel
theorem dX4_lowest_0 : decode cX4_lowest 0 = .ok (.iconst 0, 1) := by decide +kernel
theorem dX4_lowest_1 : decode cX4_lowest 1 = .ok (.istore_n 1, 1) := by decide +kernel
theorem dX4_lowest_2 : decode cX4_lowest 2 = .ok (.iload_n 1, 1) := by decide +kernel
theorem dX4_lowest_3 : decode cX4_lowest 3 = .ok (.bipush 12, 2) := by decide +kernel
theorem dX4_lowest_5 : decode cX4_lowest 5 = .ok (.if_icmp .ge 17, 3) := by decide +kernel
theorem dX4_lowest_8 : decode cX4_lowest 8 = .ok (.iload_n 0, 1) := by decide +kernel
theorem dX4_lowest_9 : decode cX4_lowest 9 = .ok (.iload_n 1, 1) := by decide +kernel
theorem dX4_lowest_10 : decode cX4_lowest 10 = .ok (.ishr, 1) := by decide +kernel
theorem dX4_lowest_11 : decode cX4_lowest 11 = .ok (.iconst 1, 1) := by decide +kernel
theorem dX4_lowest_12 : decode cX4_lowest 12 = .ok (.iand, 1) := by decide +kernel
theorem dX4_lowest_13 : decode cX4_lowest 13 = .ok (.ifCond .ne 9, 3) := by decide +kernel
theorem dX4_lowest_16 : decode cX4_lowest 16 = .ok (.iinc 1 1, 3) := by decide +kernel
theorem dX4_lowest_19 : decode cX4_lowest 19 = .ok (.goto (-17), 3) := by decide +kernel
theorem dX4_lowest_22 : decode cX4_lowest 22 = .ok (.iload_n 1, 1) := by decide +kernel
theorem dX4_lowest_23 : decode cX4_lowest 23 = .ok (.bipush 12, 2) := by decide +kernel
theorem dX4_lowest_25 : decode cX4_lowest 25 = .ok (.if_icmp .ne 8, 3) := by decide +kernel
theorem dX4_lowest_28 : decode cX4_lowest 28 = .ok (.bipush (-4), 2) := by decide +kernel
theorem dX4_lowest_30 : decode cX4_lowest 30 = .ok (.goto 4, 3) := by decide +kernel
theorem dX4_lowest_33 : decode cX4_lowest 33 = .ok (.iload_n 1, 1) := by decide +kernel
theorem dX4_lowest_34 : decode cX4_lowest 34 = .ok (.ireturn, 1) := by decide +kernel
theorem dX4_add_0 : decode cX4_add 0 = .ok (.iload_n 1, 1) := by decide +kernel
theorem dX4_add_1 : decode cX4_add 1 = .ok (.iconst 0, 1) := by decide +kernel
theorem dX4_add_2 : decode cX4_add 2 = .ok (.iconst 1, 1) := by decide +kernel
theorem dX4_add_3 : decode cX4_add 3 = .ok (.invokestatic 50, 3) := by decide +kernel
theorem dX4_add_6 : decode cX4_add 6 = .ok (.ifCond .eq 12, 3) := by decide +kernel
theorem dX4_add_9 : decode cX4_add 9 = .ok (.iload_n 2, 1) := by decide +kernel
theorem dX4_add_10 : decode cX4_add 10 = .ok (.iconst 0, 1) := by decide +kernel
theorem dX4_add_11 : decode cX4_add 11 = .ok (.iconst 5, 1) := by decide +kernel
theorem dX4_add_12 : decode cX4_add 12 = .ok (.invokestatic 50, 3) := by decide +kernel
theorem dX4_add_15 : decode cX4_add 15 = .ok (.ifCond .ne 5, 3) := by decide +kernel
theorem dX4_add_18 : decode cX4_add 18 = .ok (.iconst (-1), 1) := by decide +kernel
theorem dX4_add_19 : decode cX4_add 19 = .ok (.ireturn, 1) := by decide +kernel
theorem dX4_add_20 : decode cX4_add 20 = .ok (.aload_n 0, 1) := by decide +kernel
theorem dX4_add_21 : decode cX4_add 21 = .ok (.getfield 7, 3) := by decide +kernel
theorem dX4_add_24 : decode cX4_add 24 = .ok (.iconst 0, 1) := by decide +kernel
theorem dX4_add_25 : decode cX4_add 25 = .ok (.iaload, 1) := by decide +kernel
theorem dX4_add_26 : decode cX4_add 26 = .ok (.istore_n 3, 1) := by decide +kernel
theorem dX4_add_27 : decode cX4_add 27 = .ok (.iload_n 3, 1) := by decide +kernel
theorem dX4_add_28 : decode cX4_add 28 = .ok (.bipush 12, 2) := by decide +kernel
theorem dX4_add_30 : decode cX4_add 30 = .ok (.if_icmp .ne 6, 3) := by decide +kernel
theorem dX4_add_33 : decode cX4_add 33 = .ok (.bipush (-3), 2) := by decide +kernel
theorem dX4_add_35 : decode cX4_add 35 = .ok (.ireturn, 1) := by decide +kernel
theorem dX4_add_36 : decode cX4_add 36 = .ok (.aload_n 0, 1) := by decide +kernel
theorem dX4_add_37 : decode cX4_add 37 = .ok (.invokevirtual 54, 3) := by decide +kernel
theorem dX4_add_40 : decode cX4_add 40 = .ok (.aload_n 0, 1) := by decide +kernel
theorem dX4_add_41 : decode cX4_add 41 = .ok (.getfield 7, 3) := by decide +kernel
theorem dX4_add_44 : decode cX4_add 44 = .ok (.iconst 1, 1) := by decide +kernel
theorem dX4_add_45 : decode cX4_add 45 = .ok (.iload_n 3, 1) := by decide +kernel
theorem dX4_add_46 : decode cX4_add 46 = .ok (.iadd, 1) := by decide +kernel
theorem dX4_add_47 : decode cX4_add 47 = .ok (.iload_n 1, 1) := by decide +kernel
theorem dX4_add_48 : decode cX4_add 48 = .ok (.iastore, 1) := by decide +kernel
theorem dX4_add_49 : decode cX4_add 49 = .ok (.aload_n 0, 1) := by decide +kernel
theorem dX4_add_50 : decode cX4_add 50 = .ok (.getfield 7, 3) := by decide +kernel
theorem dX4_add_53 : decode cX4_add 53 = .ok (.bipush 13, 2) := by decide +kernel
theorem dX4_add_55 : decode cX4_add 55 = .ok (.iload_n 3, 1) := by decide +kernel
theorem dX4_add_56 : decode cX4_add 56 = .ok (.iadd, 1) := by decide +kernel
theorem dX4_add_57 : decode cX4_add 57 = .ok (.iload_n 2, 1) := by decide +kernel
theorem dX4_add_58 : decode cX4_add 58 = .ok (.iastore, 1) := by decide +kernel
theorem dX4_add_59 : decode cX4_add 59 = .ok (.aload_n 0, 1) := by decide +kernel
theorem dX4_add_60 : decode cX4_add 60 = .ok (.getfield 7, 3) := by decide +kernel
theorem dX4_add_63 : decode cX4_add 63 = .ok (.bipush 25, 2) := by decide +kernel
theorem dX4_add_65 : decode cX4_add 65 = .ok (.iload_n 3, 1) := by decide +kernel
theorem dX4_add_66 : decode cX4_add 66 = .ok (.iadd, 1) := by decide +kernel
theorem dX4_add_67 : decode cX4_add 67 = .ok (.iconst 0, 1) := by decide +kernel
theorem dX4_add_68 : decode cX4_add 68 = .ok (.iastore, 1) := by decide +kernel
theorem dX4_add_69 : decode cX4_add 69 = .ok (.aload_n 0, 1) := by decide +kernel
theorem dX4_add_70 : decode cX4_add 70 = .ok (.getfield 7, 3) := by decide +kernel
theorem dX4_add_73 : decode cX4_add 73 = .ok (.iconst 0, 1) := by decide +kernel
theorem dX4_add_74 : decode cX4_add 74 = .ok (.dup2, 1) := by decide +kernel
theorem dX4_add_75 : decode cX4_add 75 = .ok (.iaload, 1) := by decide +kernel
theorem dX4_add_76 : decode cX4_add 76 = .ok (.iconst 1, 1) := by decide +kernel
theorem dX4_add_77 : decode cX4_add 77 = .ok (.iadd, 1) := by decide +kernel
theorem dX4_add_78 : decode cX4_add 78 = .ok (.iastore, 1) := by decide +kernel
theorem dX4_add_79 : decode cX4_add 79 = .ok (.iload_n 3, 1) := by decide +kernel
theorem dX4_add_80 : decode cX4_add 80 = .ok (.ireturn, 1) := by decide +kernel
theorem dX4_own_0 : decode cX4_own 0 = .ok (.aload_n 0, 1) := by decide +kernel
theorem dX4_own_1 : decode cX4_own 1 = .ok (.iload_n 1, 1) := by decide +kernel
theorem dX4_own_2 : decode cX4_own 2 = .ok (.invokevirtual 57, 3) := by decide +kernel
theorem dX4_own_5 : decode cX4_own 5 = .ok (.ifCond .eq 12, 3) := by decide +kernel
theorem dX4_own_8 : decode cX4_own 8 = .ok (.iload_n 2, 1) := by decide +kernel
theorem dX4_own_9 : decode cX4_own 9 = .ok (.iconst 0, 1) := by decide +kernel
theorem dX4_own_10 : decode cX4_own 10 = .ok (.iconst 1, 1) := by decide +kernel
theorem dX4_own_11 : decode cX4_own 11 = .ok (.invokestatic 50, 3) := by decide +kernel
theorem dX4_own_14 : decode cX4_own 14 = .ok (.ifCond .ne 5, 3) := by decide +kernel
theorem dX4_own_17 : decode cX4_own 17 = .ok (.iconst (-1), 1) := by decide +kernel
theorem dX4_own_18 : decode cX4_own 18 = .ok (.ireturn, 1) := by decide +kernel
theorem dX4_own_19 : decode cX4_own 19 = .ok (.aload_n 0, 1) := by decide +kernel
theorem dX4_own_20 : decode cX4_own 20 = .ok (.invokevirtual 54, 3) := by decide +kernel
theorem dX4_own_23 : decode cX4_own 23 = .ok (.aload_n 0, 1) := by decide +kernel
theorem dX4_own_24 : decode cX4_own 24 = .ok (.getfield 7, 3) := by decide +kernel
theorem dX4_own_27 : decode cX4_own 27 = .ok (.iconst 1, 1) := by decide +kernel
theorem dX4_own_28 : decode cX4_own 28 = .ok (.iload_n 1, 1) := by decide +kernel
theorem dX4_own_29 : decode cX4_own 29 = .ok (.iadd, 1) := by decide +kernel
theorem dX4_own_30 : decode cX4_own 30 = .ok (.iaload, 1) := by decide +kernel
theorem dX4_own_31 : decode cX4_own 31 = .ok (.istore_n 3, 1) := by decide +kernel
theorem dX4_own_32 : decode cX4_own 32 = .ok (.aload_n 0, 1) := by decide +kernel
theorem dX4_own_33 : decode cX4_own 33 = .ok (.getfield 7, 3) := by decide +kernel
theorem dX4_own_36 : decode cX4_own 36 = .ok (.iconst 1, 1) := by decide +kernel
theorem dX4_own_37 : decode cX4_own 37 = .ok (.iload_n 1, 1) := by decide +kernel
theorem dX4_own_38 : decode cX4_own 38 = .ok (.iadd, 1) := by decide +kernel
theorem dX4_own_39 : decode cX4_own 39 = .ok (.iload_n 2, 1) := by decide +kernel
theorem dX4_own_40 : decode cX4_own 40 = .ok (.iastore, 1) := by decide +kernel
theorem dX4_own_41 : decode cX4_own 41 = .ok (.iload_n 3, 1) := by decide +kernel
theorem dX4_own_42 : decode cX4_own 42 = .ok (.ireturn, 1) := by decide +kernel
theorem dX4_rank_0 : decode cX4_rank 0 = .ok (.aload_n 0, 1) := by decide +kernel
theorem dX4_rank_1 : decode cX4_rank 1 = .ok (.iload_n 1, 1) := by decide +kernel
theorem dX4_rank_2 : decode cX4_rank 2 = .ok (.invokevirtual 57, 3) := by decide +kernel
theorem dX4_rank_5 : decode cX4_rank 5 = .ok (.ifCond .eq 12, 3) := by decide +kernel
theorem dX4_rank_8 : decode cX4_rank 8 = .ok (.iload_n 2, 1) := by decide +kernel
theorem dX4_rank_9 : decode cX4_rank 9 = .ok (.iconst 0, 1) := by decide +kernel
theorem dX4_rank_10 : decode cX4_rank 10 = .ok (.iconst 5, 1) := by decide +kernel
theorem dX4_rank_11 : decode cX4_rank 11 = .ok (.invokestatic 50, 3) := by decide +kernel
theorem dX4_rank_14 : decode cX4_rank 14 = .ok (.ifCond .ne 5, 3) := by decide +kernel
theorem dX4_rank_17 : decode cX4_rank 17 = .ok (.iconst (-1), 1) := by decide +kernel
theorem dX4_rank_18 : decode cX4_rank 18 = .ok (.ireturn, 1) := by decide +kernel
theorem dX4_rank_19 : decode cX4_rank 19 = .ok (.aload_n 0, 1) := by decide +kernel
theorem dX4_rank_20 : decode cX4_rank 20 = .ok (.invokevirtual 54, 3) := by decide +kernel
theorem dX4_rank_23 : decode cX4_rank 23 = .ok (.aload_n 0, 1) := by decide +kernel
theorem dX4_rank_24 : decode cX4_rank 24 = .ok (.getfield 7, 3) := by decide +kernel
theorem dX4_rank_27 : decode cX4_rank 27 = .ok (.bipush 13, 2) := by decide +kernel
theorem dX4_rank_29 : decode cX4_rank 29 = .ok (.iload_n 1, 1) := by decide +kernel
theorem dX4_rank_30 : decode cX4_rank 30 = .ok (.iadd, 1) := by decide +kernel
theorem dX4_rank_31 : decode cX4_rank 31 = .ok (.iaload, 1) := by decide +kernel
theorem dX4_rank_32 : decode cX4_rank 32 = .ok (.istore_n 3, 1) := by decide +kernel
theorem dX4_rank_33 : decode cX4_rank 33 = .ok (.aload_n 0, 1) := by decide +kernel
theorem dX4_rank_34 : decode cX4_rank 34 = .ok (.getfield 7, 3) := by decide +kernel
theorem dX4_rank_37 : decode cX4_rank 37 = .ok (.bipush 13, 2) := by decide +kernel
theorem dX4_rank_39 : decode cX4_rank 39 = .ok (.iload_n 1, 1) := by decide +kernel
theorem dX4_rank_40 : decode cX4_rank 40 = .ok (.iadd, 1) := by decide +kernel
theorem dX4_rank_41 : decode cX4_rank 41 = .ok (.iload_n 2, 1) := by decide +kernel
theorem dX4_rank_42 : decode cX4_rank 42 = .ok (.iastore, 1) := by decide +kernel
theorem dX4_rank_43 : decode cX4_rank 43 = .ok (.iload_n 3, 1) := by decide +kernel
theorem dX4_rank_44 : decode cX4_rank 44 = .ok (.ireturn, 1) := by decide +kernel
theorem dX4_way_0 : decode cX4_way 0 = .ok (.aload_n 0, 1) := by decide +kernel
theorem dX4_way_1 : decode cX4_way 1 = .ok (.iload_n 1, 1) := by decide +kernel
theorem dX4_way_2 : decode cX4_way 2 = .ok (.invokevirtual 57, 3) := by decide +kernel
theorem dX4_way_5 : decode cX4_way 5 = .ok (.ifCond .eq 20, 3) := by decide +kernel
theorem dX4_way_8 : decode cX4_way 8 = .ok (.aload_n 0, 1) := by decide +kernel
theorem dX4_way_9 : decode cX4_way 9 = .ok (.iload_n 2, 1) := by decide +kernel
theorem dX4_way_10 : decode cX4_way 10 = .ok (.invokevirtual 57, 3) := by decide +kernel
theorem dX4_way_13 : decode cX4_way 13 = .ok (.ifCond .eq 12, 3) := by decide +kernel
theorem dX4_way_16 : decode cX4_way 16 = .ok (.iload_n 3, 1) := by decide +kernel
theorem dX4_way_17 : decode cX4_way 17 = .ok (.iconst 0, 1) := by decide +kernel
theorem dX4_way_18 : decode cX4_way 18 = .ok (.iconst 1, 1) := by decide +kernel
theorem dX4_way_19 : decode cX4_way 19 = .ok (.invokestatic 50, 3) := by decide +kernel
theorem dX4_way_22 : decode cX4_way 22 = .ok (.ifCond .ne 5, 3) := by decide +kernel
theorem dX4_way_25 : decode cX4_way 25 = .ok (.iconst (-1), 1) := by decide +kernel
theorem dX4_way_26 : decode cX4_way 26 = .ok (.ireturn, 1) := by decide +kernel
theorem dX4_way_27 : decode cX4_way 27 = .ok (.aload_n 0, 1) := by decide +kernel
theorem dX4_way_28 : decode cX4_way 28 = .ok (.iload_n 1, 1) := by decide +kernel
theorem dX4_way_29 : decode cX4_way 29 = .ok (.iload_n 2, 1) := by decide +kernel
theorem dX4_way_30 : decode cX4_way 30 = .ok (.invokevirtual 61, 3) := by decide +kernel
theorem dX4_way_33 : decode cX4_way 33 = .ok (.iload_n 3, 1) := by decide +kernel
theorem dX4_way_34 : decode cX4_way 34 = .ok (.iconst 1, 1) := by decide +kernel
theorem dX4_way_35 : decode cX4_way 35 = .ok (.if_icmp .ne 7, 3) := by decide +kernel
theorem dX4_way_38 : decode cX4_way 38 = .ok (.iconst 1, 1) := by decide +kernel
theorem dX4_way_39 : decode cX4_way 39 = .ok (.goto 4, 3) := by decide +kernel
theorem dX4_way_42 : decode cX4_way 42 = .ok (.iconst 0, 1) := by decide +kernel
theorem dX4_way_43 : decode cX4_way 43 = .ok (.if_icmp .ne 6, 3) := by decide +kernel
theorem dX4_way_46 : decode cX4_way 46 = .ok (.bipush (-2), 2) := by decide +kernel
theorem dX4_way_48 : decode cX4_way 48 = .ok (.ireturn, 1) := by decide +kernel
theorem dX4_way_49 : decode cX4_way 49 = .ok (.aload_n 0, 1) := by decide +kernel
theorem dX4_way_50 : decode cX4_way 50 = .ok (.invokevirtual 54, 3) := by decide +kernel
theorem dX4_way_53 : decode cX4_way 53 = .ok (.aload_n 0, 1) := by decide +kernel
theorem dX4_way_54 : decode cX4_way 54 = .ok (.getfield 7, 3) := by decide +kernel
theorem dX4_way_57 : decode cX4_way 57 = .ok (.bipush 25, 2) := by decide +kernel
theorem dX4_way_59 : decode cX4_way 59 = .ok (.iload_n 1, 1) := by decide +kernel
theorem dX4_way_60 : decode cX4_way 60 = .ok (.iadd, 1) := by decide +kernel
theorem dX4_way_61 : decode cX4_way 61 = .ok (.dup2, 1) := by decide +kernel
theorem dX4_way_62 : decode cX4_way 62 = .ok (.iaload, 1) := by decide +kernel
theorem dX4_way_63 : decode cX4_way 63 = .ok (.iconst 1, 1) := by decide +kernel
theorem dX4_way_64 : decode cX4_way 64 = .ok (.iload_n 2, 1) := by decide +kernel
theorem dX4_way_65 : decode cX4_way 65 = .ok (.ishl, 1) := by decide +kernel
theorem dX4_way_66 : decode cX4_way 66 = .ok (.ixor, 1) := by decide +kernel
theorem dX4_way_67 : decode cX4_way 67 = .ok (.iastore, 1) := by decide +kernel
theorem dX4_way_68 : decode cX4_way 68 = .ok (.aload_n 0, 1) := by decide +kernel
theorem dX4_way_69 : decode cX4_way 69 = .ok (.getfield 7, 3) := by decide +kernel
theorem dX4_way_72 : decode cX4_way 72 = .ok (.bipush 25, 2) := by decide +kernel
theorem dX4_way_74 : decode cX4_way 74 = .ok (.iload_n 1, 1) := by decide +kernel
theorem dX4_way_75 : decode cX4_way 75 = .ok (.iadd, 1) := by decide +kernel
theorem dX4_way_76 : decode cX4_way 76 = .ok (.iaload, 1) := by decide +kernel
theorem dX4_way_77 : decode cX4_way 77 = .ok (.invokestatic 65, 3) := by decide +kernel
theorem dX4_way_80 : decode cX4_way 80 = .ok (.ireturn, 1) := by decide +kernel
theorem dX4_drop_0 : decode cX4_drop 0 = .ok (.aload_n 0, 1) := by decide +kernel
theorem dX4_drop_1 : decode cX4_drop 1 = .ok (.iload_n 1, 1) := by decide +kernel
theorem dX4_drop_2 : decode cX4_drop 2 = .ok (.invokevirtual 57, 3) := by decide +kernel
theorem dX4_drop_5 : decode cX4_drop 5 = .ok (.ifCond .ne 5, 3) := by decide +kernel
theorem dX4_drop_8 : decode cX4_drop 8 = .ok (.iconst (-1), 1) := by decide +kernel
theorem dX4_drop_9 : decode cX4_drop 9 = .ok (.ireturn, 1) := by decide +kernel
theorem dX4_drop_10 : decode cX4_drop 10 = .ok (.aload_n 0, 1) := by decide +kernel
theorem dX4_drop_11 : decode cX4_drop 11 = .ok (.invokevirtual 54, 3) := by decide +kernel
theorem dX4_drop_14 : decode cX4_drop 14 = .ok (.aload_n 0, 1) := by decide +kernel
theorem dX4_drop_15 : decode cX4_drop 15 = .ok (.getfield 7, 3) := by decide +kernel
theorem dX4_drop_18 : decode cX4_drop 18 = .ok (.iconst 0, 1) := by decide +kernel
theorem dX4_drop_19 : decode cX4_drop 19 = .ok (.dup2, 1) := by decide +kernel
theorem dX4_drop_20 : decode cX4_drop 20 = .ok (.iaload, 1) := by decide +kernel
theorem dX4_drop_21 : decode cX4_drop 21 = .ok (.iconst 1, 1) := by decide +kernel
theorem dX4_drop_22 : decode cX4_drop 22 = .ok (.isub, 1) := by decide +kernel
theorem dX4_drop_23 : decode cX4_drop 23 = .ok (.iastore, 1) := by decide +kernel
theorem dX4_drop_24 : decode cX4_drop 24 = .ok (.iconst 1, 1) := by decide +kernel
theorem dX4_drop_25 : decode cX4_drop 25 = .ok (.iload_n 1, 1) := by decide +kernel
theorem dX4_drop_26 : decode cX4_drop 26 = .ok (.ishl, 1) := by decide +kernel
theorem dX4_drop_27 : decode cX4_drop 27 = .ok (.iconst 1, 1) := by decide +kernel
theorem dX4_drop_28 : decode cX4_drop 28 = .ok (.isub, 1) := by decide +kernel
theorem dX4_drop_29 : decode cX4_drop 29 = .ok (.istore_n 2, 1) := by decide +kernel
theorem dX4_drop_30 : decode cX4_drop 30 = .ok (.iconst 0, 1) := by decide +kernel
theorem dX4_drop_31 : decode cX4_drop 31 = .ok (.istore_n 3, 1) := by decide +kernel
theorem dX4_drop_32 : decode cX4_drop 32 = .ok (.iload_n 3, 1) := by decide +kernel
theorem dX4_drop_33 : decode cX4_drop 33 = .ok (.aload_n 0, 1) := by decide +kernel
theorem dX4_drop_34 : decode cX4_drop 34 = .ok (.getfield 7, 3) := by decide +kernel
theorem dX4_drop_37 : decode cX4_drop 37 = .ok (.iconst 0, 1) := by decide +kernel
theorem dX4_drop_38 : decode cX4_drop 38 = .ok (.iaload, 1) := by decide +kernel
theorem dX4_drop_39 : decode cX4_drop 39 = .ok (.if_icmp .ge 93, 3) := by decide +kernel
theorem dX4_drop_42 : decode cX4_drop 42 = .ok (.iload_n 3, 1) := by decide +kernel
theorem dX4_drop_43 : decode cX4_drop 43 = .ok (.iload_n 1, 1) := by decide +kernel
theorem dX4_drop_44 : decode cX4_drop 44 = .ok (.if_icmp .ge 7, 3) := by decide +kernel
theorem dX4_drop_47 : decode cX4_drop 47 = .ok (.iload_n 3, 1) := by decide +kernel
theorem dX4_drop_48 : decode cX4_drop 48 = .ok (.goto 6, 3) := by decide +kernel
theorem dX4_drop_51 : decode cX4_drop 51 = .ok (.iload_n 3, 1) := by decide +kernel
theorem dX4_drop_52 : decode cX4_drop 52 = .ok (.iconst 1, 1) := by decide +kernel
theorem dX4_drop_53 : decode cX4_drop 53 = .ok (.iadd, 1) := by decide +kernel
theorem dX4_drop_54 : decode cX4_drop 54 = .ok (.istore 4, 2) := by decide +kernel
theorem dX4_drop_56 : decode cX4_drop 56 = .ok (.aload_n 0, 1) := by decide +kernel
theorem dX4_drop_57 : decode cX4_drop 57 = .ok (.getfield 7, 3) := by decide +kernel
theorem dX4_drop_60 : decode cX4_drop 60 = .ok (.bipush 25, 2) := by decide +kernel
theorem dX4_drop_62 : decode cX4_drop 62 = .ok (.iload 4, 2) := by decide +kernel
theorem dX4_drop_64 : decode cX4_drop 64 = .ok (.iadd, 1) := by decide +kernel
theorem dX4_drop_65 : decode cX4_drop 65 = .ok (.iaload, 1) := by decide +kernel
theorem dX4_drop_66 : decode cX4_drop 66 = .ok (.istore 5, 2) := by decide +kernel
theorem dX4_drop_68 : decode cX4_drop 68 = .ok (.aload_n 0, 1) := by decide +kernel
theorem dX4_drop_69 : decode cX4_drop 69 = .ok (.getfield 7, 3) := by decide +kernel
theorem dX4_drop_72 : decode cX4_drop 72 = .ok (.iconst 1, 1) := by decide +kernel
theorem dX4_drop_73 : decode cX4_drop 73 = .ok (.iload_n 3, 1) := by decide +kernel
theorem dX4_drop_74 : decode cX4_drop 74 = .ok (.iadd, 1) := by decide +kernel
theorem dX4_drop_75 : decode cX4_drop 75 = .ok (.aload_n 0, 1) := by decide +kernel
theorem dX4_drop_76 : decode cX4_drop 76 = .ok (.getfield 7, 3) := by decide +kernel
theorem dX4_drop_79 : decode cX4_drop 79 = .ok (.iconst 1, 1) := by decide +kernel
theorem dX4_drop_80 : decode cX4_drop 80 = .ok (.iload 4, 2) := by decide +kernel
theorem dX4_drop_82 : decode cX4_drop 82 = .ok (.iadd, 1) := by decide +kernel
theorem dX4_drop_83 : decode cX4_drop 83 = .ok (.iaload, 1) := by decide +kernel
theorem dX4_drop_84 : decode cX4_drop 84 = .ok (.iastore, 1) := by decide +kernel
theorem dX4_drop_85 : decode cX4_drop 85 = .ok (.aload_n 0, 1) := by decide +kernel
theorem dX4_drop_86 : decode cX4_drop 86 = .ok (.getfield 7, 3) := by decide +kernel
theorem dX4_drop_89 : decode cX4_drop 89 = .ok (.bipush 13, 2) := by decide +kernel
theorem dX4_drop_91 : decode cX4_drop 91 = .ok (.iload_n 3, 1) := by decide +kernel
theorem dX4_drop_92 : decode cX4_drop 92 = .ok (.iadd, 1) := by decide +kernel
theorem dX4_drop_93 : decode cX4_drop 93 = .ok (.aload_n 0, 1) := by decide +kernel
theorem dX4_drop_94 : decode cX4_drop 94 = .ok (.getfield 7, 3) := by decide +kernel
theorem dX4_drop_97 : decode cX4_drop 97 = .ok (.bipush 13, 2) := by decide +kernel
theorem dX4_drop_99 : decode cX4_drop 99 = .ok (.iload 4, 2) := by decide +kernel
theorem dX4_drop_101 : decode cX4_drop 101 = .ok (.iadd, 1) := by decide +kernel
theorem dX4_drop_102 : decode cX4_drop 102 = .ok (.iaload, 1) := by decide +kernel
theorem dX4_drop_103 : decode cX4_drop 103 = .ok (.iastore, 1) := by decide +kernel
theorem dX4_drop_104 : decode cX4_drop 104 = .ok (.aload_n 0, 1) := by decide +kernel
theorem dX4_drop_105 : decode cX4_drop 105 = .ok (.getfield 7, 3) := by decide +kernel
theorem dX4_drop_108 : decode cX4_drop 108 = .ok (.bipush 25, 2) := by decide +kernel
theorem dX4_drop_110 : decode cX4_drop 110 = .ok (.iload_n 3, 1) := by decide +kernel
theorem dX4_drop_111 : decode cX4_drop 111 = .ok (.iadd, 1) := by decide +kernel
theorem dX4_drop_112 : decode cX4_drop 112 = .ok (.iload 5, 2) := by decide +kernel
theorem dX4_drop_114 : decode cX4_drop 114 = .ok (.iload_n 2, 1) := by decide +kernel
theorem dX4_drop_115 : decode cX4_drop 115 = .ok (.iand, 1) := by decide +kernel
theorem dX4_drop_116 : decode cX4_drop 116 = .ok (.iload 5, 2) := by decide +kernel
theorem dX4_drop_118 : decode cX4_drop 118 = .ok (.iconst 1, 1) := by decide +kernel
theorem dX4_drop_119 : decode cX4_drop 119 = .ok (.ishr, 1) := by decide +kernel
theorem dX4_drop_120 : decode cX4_drop 120 = .ok (.iload_n 2, 1) := by decide +kernel
theorem dX4_drop_121 : decode cX4_drop 121 = .ok (.iconst (-1), 1) := by decide +kernel
theorem dX4_drop_122 : decode cX4_drop 122 = .ok (.ixor, 1) := by decide +kernel
theorem dX4_drop_123 : decode cX4_drop 123 = .ok (.iand, 1) := by decide +kernel
theorem dX4_drop_124 : decode cX4_drop 124 = .ok (.ior, 1) := by decide +kernel
theorem dX4_drop_125 : decode cX4_drop 125 = .ok (.iastore, 1) := by decide +kernel
theorem dX4_drop_126 : decode cX4_drop 126 = .ok (.iinc 3 1, 3) := by decide +kernel
theorem dX4_drop_129 : decode cX4_drop 129 = .ok (.goto (-97), 3) := by decide +kernel
theorem dX4_drop_132 : decode cX4_drop 132 = .ok (.aload_n 0, 1) := by decide +kernel
theorem dX4_drop_133 : decode cX4_drop 133 = .ok (.getfield 7, 3) := by decide +kernel
theorem dX4_drop_136 : decode cX4_drop 136 = .ok (.iconst 0, 1) := by decide +kernel
theorem dX4_drop_137 : decode cX4_drop 137 = .ok (.iaload, 1) := by decide +kernel
theorem dX4_drop_138 : decode cX4_drop 138 = .ok (.ireturn, 1) := by decide +kernel
theorem dX4_withRank_0 : decode cX4_withRank 0 = .ok (.iconst 0, 1) := by decide +kernel
theorem dX4_withRank_1 : decode cX4_withRank 1 = .ok (.istore_n 2, 1) := by decide +kernel
theorem dX4_withRank_2 : decode cX4_withRank 2 = .ok (.iconst 0, 1) := by decide +kernel
theorem dX4_withRank_3 : decode cX4_withRank 3 = .ok (.istore_n 3, 1) := by decide +kernel
theorem dX4_withRank_4 : decode cX4_withRank 4 = .ok (.iload_n 3, 1) := by decide +kernel
theorem dX4_withRank_5 : decode cX4_withRank 5 = .ok (.aload_n 0, 1) := by decide +kernel
theorem dX4_withRank_6 : decode cX4_withRank 6 = .ok (.getfield 7, 3) := by decide +kernel
theorem dX4_withRank_9 : decode cX4_withRank 9 = .ok (.iconst 0, 1) := by decide +kernel
theorem dX4_withRank_10 : decode cX4_withRank 10 = .ok (.iaload, 1) := by decide +kernel
theorem dX4_withRank_11 : decode cX4_withRank 11 = .ok (.if_icmp .ge 30, 3) := by decide +kernel
theorem dX4_withRank_14 : decode cX4_withRank 14 = .ok (.iload_n 2, 1) := by decide +kernel
theorem dX4_withRank_15 : decode cX4_withRank 15 = .ok (.aload_n 0, 1) := by decide +kernel
theorem dX4_withRank_16 : decode cX4_withRank 16 = .ok (.getfield 7, 3) := by decide +kernel
theorem dX4_withRank_19 : decode cX4_withRank 19 = .ok (.bipush 13, 2) := by decide +kernel
theorem dX4_withRank_21 : decode cX4_withRank 21 = .ok (.iload_n 3, 1) := by decide +kernel
theorem dX4_withRank_22 : decode cX4_withRank 22 = .ok (.iadd, 1) := by decide +kernel
theorem dX4_withRank_23 : decode cX4_withRank 23 = .ok (.iaload, 1) := by decide +kernel
theorem dX4_withRank_24 : decode cX4_withRank 24 = .ok (.iload_n 1, 1) := by decide +kernel
theorem dX4_withRank_25 : decode cX4_withRank 25 = .ok (.if_icmp .ne 7, 3) := by decide +kernel
theorem dX4_withRank_28 : decode cX4_withRank 28 = .ok (.iconst 1, 1) := by decide +kernel
theorem dX4_withRank_29 : decode cX4_withRank 29 = .ok (.goto 4, 3) := by decide +kernel
theorem dX4_withRank_32 : decode cX4_withRank 32 = .ok (.iconst 0, 1) := by decide +kernel
theorem dX4_withRank_33 : decode cX4_withRank 33 = .ok (.iadd, 1) := by decide +kernel
theorem dX4_withRank_34 : decode cX4_withRank 34 = .ok (.istore_n 2, 1) := by decide +kernel
theorem dX4_withRank_35 : decode cX4_withRank 35 = .ok (.iinc 3 1, 3) := by decide +kernel
theorem dX4_withRank_38 : decode cX4_withRank 38 = .ok (.goto (-34), 3) := by decide +kernel
theorem dX4_withRank_41 : decode cX4_withRank 41 = .ok (.iload_n 2, 1) := by decide +kernel
theorem dX4_withRank_42 : decode cX4_withRank 42 = .ok (.ireturn, 1) := by decide +kernel
theorem dX4_ahead_0 : decode cX4_ahead 0 = .ok (.iload_n 2, 1) := by decide +kernel
theorem dX4_ahead_1 : decode cX4_ahead 1 = .ok (.ldc 69, 2) := by decide +kernel
theorem dX4_ahead_3 : decode cX4_ahead 3 = .ok (.if_icmp .ne 6, 3) := by decide +kernel
theorem dX4_ahead_6 : decode cX4_ahead 6 = .ok (.ldc 69, 2) := by decide +kernel
theorem dX4_ahead_8 : decode cX4_ahead 8 = .ok (.ireturn, 1) := by decide +kernel
theorem dX4_ahead_9 : decode cX4_ahead 9 = .ok (.iload_n 2, 1) := by decide +kernel
theorem dX4_ahead_10 : decode cX4_ahead 10 = .ok (.sipush 169, 3) := by decide +kernel
theorem dX4_ahead_13 : decode cX4_ahead 13 = .ok (.idiv, 1) := by decide +kernel
theorem dX4_ahead_14 : decode cX4_ahead 14 = .ok (.istore_n 3, 1) := by decide +kernel
theorem dX4_ahead_15 : decode cX4_ahead 15 = .ok (.iload_n 1, 1) := by decide +kernel
theorem dX4_ahead_16 : decode cX4_ahead 16 = .ok (.iconst 4, 1) := by decide +kernel
theorem dX4_ahead_17 : decode cX4_ahead 17 = .ok (.if_icmp .ge 13, 3) := by decide +kernel
theorem dX4_ahead_20 : decode cX4_ahead 20 = .ok (.iload_n 2, 1) := by decide +kernel
theorem dX4_ahead_21 : decode cX4_ahead 21 = .ok (.bipush 13, 2) := by decide +kernel
theorem dX4_ahead_23 : decode cX4_ahead 23 = .ok (.idiv, 1) := by decide +kernel
theorem dX4_ahead_24 : decode cX4_ahead 24 = .ok (.bipush 13, 2) := by decide +kernel
theorem dX4_ahead_26 : decode cX4_ahead 26 = .ok (.irem, 1) := by decide +kernel
theorem dX4_ahead_27 : decode cX4_ahead 27 = .ok (.goto 4, 3) := by decide +kernel
theorem dX4_ahead_30 : decode cX4_ahead 30 = .ok (.iconst 0, 1) := by decide +kernel
theorem dX4_ahead_31 : decode cX4_ahead 31 = .ok (.istore 4, 2) := by decide +kernel
theorem dX4_ahead_33 : decode cX4_ahead 33 = .ok (.iload_n 1, 1) := by decide +kernel
theorem dX4_ahead_34 : decode cX4_ahead 34 = .ok (.iconst 2, 1) := by decide +kernel
theorem dX4_ahead_35 : decode cX4_ahead 35 = .ok (.if_icmp .ge 10, 3) := by decide +kernel
theorem dX4_ahead_38 : decode cX4_ahead 38 = .ok (.iload_n 2, 1) := by decide +kernel
theorem dX4_ahead_39 : decode cX4_ahead 39 = .ok (.bipush 13, 2) := by decide +kernel
theorem dX4_ahead_41 : decode cX4_ahead 41 = .ok (.irem, 1) := by decide +kernel
theorem dX4_ahead_42 : decode cX4_ahead 42 = .ok (.goto 4, 3) := by decide +kernel
theorem dX4_ahead_45 : decode cX4_ahead 45 = .ok (.iconst 0, 1) := by decide +kernel
theorem dX4_ahead_46 : decode cX4_ahead 46 = .ok (.istore 5, 2) := by decide +kernel
theorem dX4_ahead_48 : decode cX4_ahead 48 = .ok (.iload_n 1, 1) := by decide +kernel
theorem dX4_ahead_49 : decode cX4_ahead 49 = .ok (.iconst 2, 1) := by decide +kernel
theorem dX4_ahead_50 : decode cX4_ahead 50 = .ok (.irem, 1) := by decide +kernel
theorem dX4_ahead_51 : decode cX4_ahead 51 = .ok (.istore 6, 2) := by decide +kernel
theorem dX4_ahead_53 : decode cX4_ahead 53 = .ok (.iload_n 1, 1) := by decide +kernel
theorem dX4_ahead_54 : decode cX4_ahead 54 = .ok (.iconst 1, 1) := by decide +kernel
theorem dX4_ahead_55 : decode cX4_ahead 55 = .ok (.if_icmp .ne 21, 3) := by decide +kernel
theorem dX4_ahead_58 : decode cX4_ahead 58 = .ok (.iload 5, 2) := by decide +kernel
theorem dX4_ahead_60 : decode cX4_ahead 60 = .ok (.aload_n 0, 1) := by decide +kernel
theorem dX4_ahead_61 : decode cX4_ahead 61 = .ok (.getfield 70, 3) := by decide +kernel
theorem dX4_ahead_64 : decode cX4_ahead 64 = .ok (.if_icmp .ge 12, 3) := by decide +kernel
theorem dX4_ahead_67 : decode cX4_ahead 67 = .ok (.iinc 5 1, 3) := by decide +kernel
theorem dX4_ahead_70 : decode cX4_ahead 70 = .ok (.iconst 0, 1) := by decide +kernel
theorem dX4_ahead_71 : decode cX4_ahead 71 = .ok (.istore 6, 2) := by decide +kernel
theorem dX4_ahead_73 : decode cX4_ahead 73 = .ok (.goto 11, 3) := by decide +kernel
theorem dX4_ahead_76 : decode cX4_ahead 76 = .ok (.iload_n 1, 1) := by decide +kernel
theorem dX4_ahead_77 : decode cX4_ahead 77 = .ok (.iconst 1, 1) := by decide +kernel
theorem dX4_ahead_78 : decode cX4_ahead 78 = .ok (.if_icmp .ne 6, 3) := by decide +kernel
theorem dX4_ahead_81 : decode cX4_ahead 81 = .ok (.iconst 0, 1) := by decide +kernel
theorem dX4_ahead_82 : decode cX4_ahead 82 = .ok (.istore 5, 2) := by decide +kernel
theorem dX4_ahead_84 : decode cX4_ahead 84 = .ok (.iload_n 1, 1) := by decide +kernel
theorem dX4_ahead_85 : decode cX4_ahead 85 = .ok (.iconst 4, 1) := by decide +kernel
theorem dX4_ahead_86 : decode cX4_ahead 86 = .ok (.if_icmp .ge 27, 3) := by decide +kernel
theorem dX4_ahead_89 : decode cX4_ahead 89 = .ok (.iload 6, 2) := by decide +kernel
theorem dX4_ahead_91 : decode cX4_ahead 91 = .ok (.iconst 1, 1) := by decide +kernel
theorem dX4_ahead_92 : decode cX4_ahead 92 = .ok (.if_icmp .ne 21, 3) := by decide +kernel
theorem dX4_ahead_95 : decode cX4_ahead 95 = .ok (.iload 4, 2) := by decide +kernel
theorem dX4_ahead_97 : decode cX4_ahead 97 = .ok (.aload_n 0, 1) := by decide +kernel
theorem dX4_ahead_98 : decode cX4_ahead 98 = .ok (.getfield 73, 3) := by decide +kernel
theorem dX4_ahead_101 : decode cX4_ahead 101 = .ok (.if_icmp .ge 12, 3) := by decide +kernel
theorem dX4_ahead_104 : decode cX4_ahead 104 = .ok (.iinc 4 1, 3) := by decide +kernel
theorem dX4_ahead_107 : decode cX4_ahead 107 = .ok (.iconst 0, 1) := by decide +kernel
theorem dX4_ahead_108 : decode cX4_ahead 108 = .ok (.istore 6, 2) := by decide +kernel
theorem dX4_ahead_110 : decode cX4_ahead 110 = .ok (.goto 17, 3) := by decide +kernel
theorem dX4_ahead_113 : decode cX4_ahead 113 = .ok (.iload_n 1, 1) := by decide +kernel
theorem dX4_ahead_114 : decode cX4_ahead 114 = .ok (.iconst 4, 1) := by decide +kernel
theorem dX4_ahead_115 : decode cX4_ahead 115 = .ok (.if_icmp .ge 12, 3) := by decide +kernel
theorem dX4_ahead_118 : decode cX4_ahead 118 = .ok (.iload 6, 2) := by decide +kernel
theorem dX4_ahead_120 : decode cX4_ahead 120 = .ok (.iconst 1, 1) := by decide +kernel
theorem dX4_ahead_121 : decode cX4_ahead 121 = .ok (.if_icmp .ne 6, 3) := by decide +kernel
theorem dX4_ahead_124 : decode cX4_ahead 124 = .ok (.iconst 0, 1) := by decide +kernel
theorem dX4_ahead_125 : decode cX4_ahead 125 = .ok (.istore 4, 2) := by decide +kernel
theorem dX4_ahead_127 : decode cX4_ahead 127 = .ok (.iload_n 3, 1) := by decide +kernel
theorem dX4_ahead_128 : decode cX4_ahead 128 = .ok (.iload 6, 2) := by decide +kernel
theorem dX4_ahead_130 : decode cX4_ahead 130 = .ok (.iadd, 1) := by decide +kernel
theorem dX4_ahead_131 : decode cX4_ahead 131 = .ok (.istore_n 3, 1) := by decide +kernel
theorem dX4_ahead_132 : decode cX4_ahead 132 = .ok (.iload_n 3, 1) := by decide +kernel
theorem dX4_ahead_133 : decode cX4_ahead 133 = .ok (.aload_n 0, 1) := by decide +kernel
theorem dX4_ahead_134 : decode cX4_ahead 134 = .ok (.getfield 76, 3) := by decide +kernel
theorem dX4_ahead_137 : decode cX4_ahead 137 = .ok (.if_icmp .le 8, 3) := by decide +kernel
theorem dX4_ahead_140 : decode cX4_ahead 140 = .ok (.ldc 69, 2) := by decide +kernel
theorem dX4_ahead_142 : decode cX4_ahead 142 = .ok (.goto 17, 3) := by decide +kernel
theorem dX4_ahead_145 : decode cX4_ahead 145 = .ok (.sipush 169, 3) := by decide +kernel
theorem dX4_ahead_148 : decode cX4_ahead 148 = .ok (.iload_n 3, 1) := by decide +kernel
theorem dX4_ahead_149 : decode cX4_ahead 149 = .ok (.imul, 1) := by decide +kernel
theorem dX4_ahead_150 : decode cX4_ahead 150 = .ok (.bipush 13, 2) := by decide +kernel
theorem dX4_ahead_152 : decode cX4_ahead 152 = .ok (.iload 4, 2) := by decide +kernel
theorem dX4_ahead_154 : decode cX4_ahead 154 = .ok (.imul, 1) := by decide +kernel
theorem dX4_ahead_155 : decode cX4_ahead 155 = .ok (.iadd, 1) := by decide +kernel
theorem dX4_ahead_156 : decode cX4_ahead 156 = .ok (.iload 5, 2) := by decide +kernel
theorem dX4_ahead_158 : decode cX4_ahead 158 = .ok (.iadd, 1) := by decide +kernel
theorem dX4_ahead_159 : decode cX4_ahead 159 = .ok (.ireturn, 1) := by decide +kernel
theorem dX4_lifted_0 : decode cX4_lifted 0 = .ok (.aload_n 0, 1) := by decide +kernel
theorem dX4_lifted_1 : decode cX4_lifted 1 = .ok (.getfield 7, 3) := by decide +kernel
theorem dX4_lifted_4 : decode cX4_lifted 4 = .ok (.iconst 1, 1) := by decide +kernel
theorem dX4_lifted_5 : decode cX4_lifted 5 = .ok (.iload_n 1, 1) := by decide +kernel
theorem dX4_lifted_6 : decode cX4_lifted 6 = .ok (.iadd, 1) := by decide +kernel
theorem dX4_lifted_7 : decode cX4_lifted 7 = .ok (.iaload, 1) := by decide +kernel
theorem dX4_lifted_8 : decode cX4_lifted 8 = .ok (.ifCond .ne 7, 3) := by decide +kernel
theorem dX4_lifted_11 : decode cX4_lifted 11 = .ok (.iconst 1, 1) := by decide +kernel
theorem dX4_lifted_12 : decode cX4_lifted 12 = .ok (.goto 4, 3) := by decide +kernel
theorem dX4_lifted_15 : decode cX4_lifted 15 = .ok (.iconst 0, 1) := by decide +kernel
theorem dX4_lifted_16 : decode cX4_lifted 16 = .ok (.istore_n 2, 1) := by decide +kernel
theorem dX4_lifted_17 : decode cX4_lifted 17 = .ok (.iload_n 2, 1) := by decide +kernel
theorem dX4_lifted_18 : decode cX4_lifted 18 = .ok (.ifCond .eq 8, 3) := by decide +kernel
theorem dX4_lifted_21 : decode cX4_lifted 21 = .ok (.ldc 69, 2) := by decide +kernel
theorem dX4_lifted_23 : decode cX4_lifted 23 = .ok (.goto 4, 3) := by decide +kernel
theorem dX4_lifted_26 : decode cX4_lifted 26 = .ok (.iconst 0, 1) := by decide +kernel
theorem dX4_lifted_27 : decode cX4_lifted 27 = .ok (.istore_n 3, 1) := by decide +kernel
theorem dX4_lifted_28 : decode cX4_lifted 28 = .ok (.iconst 0, 1) := by decide +kernel
theorem dX4_lifted_29 : decode cX4_lifted 29 = .ok (.istore 4, 2) := by decide +kernel
theorem dX4_lifted_31 : decode cX4_lifted 31 = .ok (.iload 4, 2) := by decide +kernel
theorem dX4_lifted_33 : decode cX4_lifted 33 = .ok (.aload_n 0, 1) := by decide +kernel
theorem dX4_lifted_34 : decode cX4_lifted 34 = .ok (.getfield 7, 3) := by decide +kernel
theorem dX4_lifted_37 : decode cX4_lifted 37 = .ok (.iconst 0, 1) := by decide +kernel
theorem dX4_lifted_38 : decode cX4_lifted 38 = .ok (.iaload, 1) := by decide +kernel
theorem dX4_lifted_39 : decode cX4_lifted 39 = .ok (.if_icmp .ge 73, 3) := by decide +kernel
theorem dX4_lifted_42 : decode cX4_lifted 42 = .ok (.aload_n 0, 1) := by decide +kernel
theorem dX4_lifted_43 : decode cX4_lifted 43 = .ok (.iload_n 1, 1) := by decide +kernel
theorem dX4_lifted_44 : decode cX4_lifted 44 = .ok (.iload 4, 2) := by decide +kernel
theorem dX4_lifted_46 : decode cX4_lifted 46 = .ok (.invokevirtual 61, 3) := by decide +kernel
theorem dX4_lifted_49 : decode cX4_lifted 49 = .ok (.ifCond .eq 57, 3) := by decide +kernel
theorem dX4_lifted_52 : decode cX4_lifted 52 = .ok (.aload_n 0, 1) := by decide +kernel
theorem dX4_lifted_53 : decode cX4_lifted 53 = .ok (.aload_n 0, 1) := by decide +kernel
theorem dX4_lifted_54 : decode cX4_lifted 54 = .ok (.getfield 7, 3) := by decide +kernel
theorem dX4_lifted_57 : decode cX4_lifted 57 = .ok (.bipush 13, 2) := by decide +kernel
theorem dX4_lifted_59 : decode cX4_lifted 59 = .ok (.iload_n 1, 1) := by decide +kernel
theorem dX4_lifted_60 : decode cX4_lifted 60 = .ok (.iadd, 1) := by decide +kernel
theorem dX4_lifted_61 : decode cX4_lifted 61 = .ok (.iaload, 1) := by decide +kernel
theorem dX4_lifted_62 : decode cX4_lifted 62 = .ok (.aload_n 0, 1) := by decide +kernel
theorem dX4_lifted_63 : decode cX4_lifted 63 = .ok (.getfield 22, 3) := by decide +kernel
theorem dX4_lifted_66 : decode cX4_lifted 66 = .ok (.iload 4, 2) := by decide +kernel
theorem dX4_lifted_68 : decode cX4_lifted 68 = .ok (.iaload, 1) := by decide +kernel
theorem dX4_lifted_69 : decode cX4_lifted 69 = .ok (.invokevirtual 79, 3) := by decide +kernel
theorem dX4_lifted_72 : decode cX4_lifted 72 = .ok (.istore 5, 2) := by decide +kernel
theorem dX4_lifted_74 : decode cX4_lifted 74 = .ok (.iload_n 2, 1) := by decide +kernel
theorem dX4_lifted_75 : decode cX4_lifted 75 = .ok (.ifCond .eq 18, 3) := by decide +kernel
theorem dX4_lifted_78 : decode cX4_lifted 78 = .ok (.iload 5, 2) := by decide +kernel
theorem dX4_lifted_80 : decode cX4_lifted 80 = .ok (.iload_n 3, 1) := by decide +kernel
theorem dX4_lifted_81 : decode cX4_lifted 81 = .ok (.if_icmp .ge 8, 3) := by decide +kernel
theorem dX4_lifted_84 : decode cX4_lifted 84 = .ok (.iload 5, 2) := by decide +kernel
theorem dX4_lifted_86 : decode cX4_lifted 86 = .ok (.goto 19, 3) := by decide +kernel
theorem dX4_lifted_89 : decode cX4_lifted 89 = .ok (.iload_n 3, 1) := by decide +kernel
theorem dX4_lifted_90 : decode cX4_lifted 90 = .ok (.goto 15, 3) := by decide +kernel
theorem dX4_lifted_93 : decode cX4_lifted 93 = .ok (.iload 5, 2) := by decide +kernel
theorem dX4_lifted_95 : decode cX4_lifted 95 = .ok (.iload_n 3, 1) := by decide +kernel
theorem dX4_lifted_96 : decode cX4_lifted 96 = .ok (.if_icmp .le 8, 3) := by decide +kernel
theorem dX4_lifted_99 : decode cX4_lifted 99 = .ok (.iload 5, 2) := by decide +kernel
theorem dX4_lifted_101 : decode cX4_lifted 101 = .ok (.goto 4, 3) := by decide +kernel
theorem dX4_lifted_104 : decode cX4_lifted 104 = .ok (.iload_n 3, 1) := by decide +kernel
theorem dX4_lifted_105 : decode cX4_lifted 105 = .ok (.istore_n 3, 1) := by decide +kernel
theorem dX4_lifted_106 : decode cX4_lifted 106 = .ok (.iinc 4 1, 3) := by decide +kernel
theorem dX4_lifted_109 : decode cX4_lifted 109 = .ok (.goto (-78), 3) := by decide +kernel
theorem dX4_lifted_112 : decode cX4_lifted 112 = .ok (.iload_n 3, 1) := by decide +kernel
theorem dX4_lifted_113 : decode cX4_lifted 113 = .ok (.ireturn, 1) := by decide +kernel
theorem dX4_won_0 : decode cX4_won 0 = .ok (.aload_n 0, 1) := by decide +kernel
theorem dX4_won_1 : decode cX4_won 1 = .ok (.aload_n 0, 1) := by decide +kernel
theorem dX4_won_2 : decode cX4_won 2 = .ok (.iconst 1, 1) := by decide +kernel
theorem dX4_won_3 : decode cX4_won 3 = .ok (.invokevirtual 83, 3) := by decide +kernel
theorem dX4_won_6 : decode cX4_won 6 = .ok (.putfield 70, 3) := by decide +kernel
theorem dX4_won_9 : decode cX4_won 9 = .ok (.aload_n 0, 1) := by decide +kernel
theorem dX4_won_10 : decode cX4_won 10 = .ok (.aload_n 0, 1) := by decide +kernel
theorem dX4_won_11 : decode cX4_won 11 = .ok (.iconst 3, 1) := by decide +kernel
theorem dX4_won_12 : decode cX4_won 12 = .ok (.invokevirtual 83, 3) := by decide +kernel
theorem dX4_won_15 : decode cX4_won 15 = .ok (.putfield 73, 3) := by decide +kernel
theorem dX4_won_18 : decode cX4_won 18 = .ok (.aload_n 0, 1) := by decide +kernel
theorem dX4_won_19 : decode cX4_won 19 = .ok (.aload_n 0, 1) := by decide +kernel
theorem dX4_won_20 : decode cX4_won 20 = .ok (.iconst 5, 1) := by decide +kernel
theorem dX4_won_21 : decode cX4_won 21 = .ok (.invokevirtual 83, 3) := by decide +kernel
theorem dX4_won_24 : decode cX4_won 24 = .ok (.putfield 76, 3) := by decide +kernel
theorem dX4_won_27 : decode cX4_won 27 = .ok (.iconst 0, 1) := by decide +kernel
theorem dX4_won_28 : decode cX4_won 28 = .ok (.istore_n 1, 1) := by decide +kernel
theorem dX4_won_29 : decode cX4_won 29 = .ok (.iload_n 1, 1) := by decide +kernel
theorem dX4_won_30 : decode cX4_won 30 = .ok (.bipush 12, 2) := by decide +kernel
theorem dX4_won_32 : decode cX4_won 32 = .ok (.if_icmp .ge 16, 3) := by decide +kernel
theorem dX4_won_35 : decode cX4_won 35 = .ok (.aload_n 0, 1) := by decide +kernel
theorem dX4_won_36 : decode cX4_won 36 = .ok (.getfield 22, 3) := by decide +kernel
theorem dX4_won_39 : decode cX4_won 39 = .ok (.iload_n 1, 1) := by decide +kernel
theorem dX4_won_40 : decode cX4_won 40 = .ok (.iconst 0, 1) := by decide +kernel
theorem dX4_won_41 : decode cX4_won 41 = .ok (.iastore, 1) := by decide +kernel
theorem dX4_won_42 : decode cX4_won 42 = .ok (.iinc 1 1, 3) := by decide +kernel
theorem dX4_won_45 : decode cX4_won 45 = .ok (.goto (-16), 3) := by decide +kernel
theorem dX4_won_48 : decode cX4_won 48 = .ok (.iconst 1, 1) := by decide +kernel
theorem dX4_won_49 : decode cX4_won 49 = .ok (.istore_n 1, 1) := by decide +kernel
theorem dX4_won_50 : decode cX4_won 50 = .ok (.iload_n 1, 1) := by decide +kernel
theorem dX4_won_51 : decode cX4_won 51 = .ok (.ifCond .eq 78, 3) := by decide +kernel
theorem dX4_won_54 : decode cX4_won 54 = .ok (.iconst 0, 1) := by decide +kernel
theorem dX4_won_55 : decode cX4_won 55 = .ok (.istore_n 1, 1) := by decide +kernel
theorem dX4_won_56 : decode cX4_won 56 = .ok (.iconst 0, 1) := by decide +kernel
theorem dX4_won_57 : decode cX4_won 57 = .ok (.istore_n 2, 1) := by decide +kernel
theorem dX4_won_58 : decode cX4_won 58 = .ok (.iload_n 2, 1) := by decide +kernel
theorem dX4_won_59 : decode cX4_won 59 = .ok (.aload_n 0, 1) := by decide +kernel
theorem dX4_won_60 : decode cX4_won 60 = .ok (.getfield 7, 3) := by decide +kernel
theorem dX4_won_63 : decode cX4_won 63 = .ok (.iconst 0, 1) := by decide +kernel
theorem dX4_won_64 : decode cX4_won 64 = .ok (.iaload, 1) := by decide +kernel
theorem dX4_won_65 : decode cX4_won 65 = .ok (.if_icmp .ge 61, 3) := by decide +kernel
theorem dX4_won_68 : decode cX4_won 68 = .ok (.aload_n 0, 1) := by decide +kernel
theorem dX4_won_69 : decode cX4_won 69 = .ok (.iload_n 2, 1) := by decide +kernel
theorem dX4_won_70 : decode cX4_won 70 = .ok (.invokevirtual 86, 3) := by decide +kernel
theorem dX4_won_73 : decode cX4_won 73 = .ok (.istore_n 3, 1) := by decide +kernel
theorem dX4_won_74 : decode cX4_won 74 = .ok (.iload_n 1, 1) := by decide +kernel
theorem dX4_won_75 : decode cX4_won 75 = .ok (.ifCond .ne 13, 3) := by decide +kernel
theorem dX4_won_78 : decode cX4_won 78 = .ok (.iload_n 3, 1) := by decide +kernel
theorem dX4_won_79 : decode cX4_won 79 = .ok (.aload_n 0, 1) := by decide +kernel
theorem dX4_won_80 : decode cX4_won 80 = .ok (.getfield 22, 3) := by decide +kernel
theorem dX4_won_83 : decode cX4_won 83 = .ok (.iload_n 2, 1) := by decide +kernel
theorem dX4_won_84 : decode cX4_won 84 = .ok (.iaload, 1) := by decide +kernel
theorem dX4_won_85 : decode cX4_won 85 = .ok (.if_icmp .le 7, 3) := by decide +kernel
theorem dX4_won_88 : decode cX4_won 88 = .ok (.iconst 1, 1) := by decide +kernel
theorem dX4_won_89 : decode cX4_won 89 = .ok (.goto 4, 3) := by decide +kernel
theorem dX4_won_92 : decode cX4_won 92 = .ok (.iconst 0, 1) := by decide +kernel
theorem dX4_won_93 : decode cX4_won 93 = .ok (.istore_n 1, 1) := by decide +kernel
theorem dX4_won_94 : decode cX4_won 94 = .ok (.aload_n 0, 1) := by decide +kernel
theorem dX4_won_95 : decode cX4_won 95 = .ok (.getfield 22, 3) := by decide +kernel
theorem dX4_won_98 : decode cX4_won 98 = .ok (.iload_n 2, 1) := by decide +kernel
theorem dX4_won_99 : decode cX4_won 99 = .ok (.iload_n 3, 1) := by decide +kernel
theorem dX4_won_100 : decode cX4_won 100 = .ok (.aload_n 0, 1) := by decide +kernel
theorem dX4_won_101 : decode cX4_won 101 = .ok (.getfield 22, 3) := by decide +kernel
theorem dX4_won_104 : decode cX4_won 104 = .ok (.iload_n 2, 1) := by decide +kernel
theorem dX4_won_105 : decode cX4_won 105 = .ok (.iaload, 1) := by decide +kernel
theorem dX4_won_106 : decode cX4_won 106 = .ok (.if_icmp .le 7, 3) := by decide +kernel
theorem dX4_won_109 : decode cX4_won 109 = .ok (.iload_n 3, 1) := by decide +kernel
theorem dX4_won_110 : decode cX4_won 110 = .ok (.goto 9, 3) := by decide +kernel
theorem dX4_won_113 : decode cX4_won 113 = .ok (.aload_n 0, 1) := by decide +kernel
theorem dX4_won_114 : decode cX4_won 114 = .ok (.getfield 22, 3) := by decide +kernel
theorem dX4_won_117 : decode cX4_won 117 = .ok (.iload_n 2, 1) := by decide +kernel
theorem dX4_won_118 : decode cX4_won 118 = .ok (.iaload, 1) := by decide +kernel
theorem dX4_won_119 : decode cX4_won 119 = .ok (.iastore, 1) := by decide +kernel
theorem dX4_won_120 : decode cX4_won 120 = .ok (.iinc 2 1, 3) := by decide +kernel
theorem dX4_won_123 : decode cX4_won 123 = .ok (.goto (-65), 3) := by decide +kernel
theorem dX4_won_126 : decode cX4_won 126 = .ok (.goto (-76), 3) := by decide +kernel
theorem dX4_won_129 : decode cX4_won 129 = .ok (.iconst 0, 1) := by decide +kernel
theorem dX4_won_130 : decode cX4_won 130 = .ok (.istore_n 2, 1) := by decide +kernel
theorem dX4_won_131 : decode cX4_won 131 = .ok (.iconst 0, 1) := by decide +kernel
theorem dX4_won_132 : decode cX4_won 132 = .ok (.istore_n 3, 1) := by decide +kernel
theorem dX4_won_133 : decode cX4_won 133 = .ok (.iload_n 3, 1) := by decide +kernel
theorem dX4_won_134 : decode cX4_won 134 = .ok (.aload_n 0, 1) := by decide +kernel
theorem dX4_won_135 : decode cX4_won 135 = .ok (.getfield 7, 3) := by decide +kernel
theorem dX4_won_138 : decode cX4_won 138 = .ok (.iconst 0, 1) := by decide +kernel
theorem dX4_won_139 : decode cX4_won 139 = .ok (.iaload, 1) := by decide +kernel
theorem dX4_won_140 : decode cX4_won 140 = .ok (.if_icmp .ge 30, 3) := by decide +kernel
theorem dX4_won_143 : decode cX4_won 143 = .ok (.iload_n 2, 1) := by decide +kernel
theorem dX4_won_144 : decode cX4_won 144 = .ok (.aload_n 0, 1) := by decide +kernel
theorem dX4_won_145 : decode cX4_won 145 = .ok (.getfield 22, 3) := by decide +kernel
theorem dX4_won_148 : decode cX4_won 148 = .ok (.iload_n 3, 1) := by decide +kernel
theorem dX4_won_149 : decode cX4_won 149 = .ok (.iaload, 1) := by decide +kernel
theorem dX4_won_150 : decode cX4_won 150 = .ok (.ldc 69, 2) := by decide +kernel
theorem dX4_won_152 : decode cX4_won 152 = .ok (.if_icmp .ge 9, 3) := by decide +kernel
theorem dX4_won_155 : decode cX4_won 155 = .ok (.iconst 1, 1) := by decide +kernel
theorem dX4_won_156 : decode cX4_won 156 = .ok (.iload_n 3, 1) := by decide +kernel
theorem dX4_won_157 : decode cX4_won 157 = .ok (.ishl, 1) := by decide +kernel
theorem dX4_won_158 : decode cX4_won 158 = .ok (.goto 4, 3) := by decide +kernel
theorem dX4_won_161 : decode cX4_won 161 = .ok (.iconst 0, 1) := by decide +kernel
theorem dX4_won_162 : decode cX4_won 162 = .ok (.ior, 1) := by decide +kernel
theorem dX4_won_163 : decode cX4_won 163 = .ok (.istore_n 2, 1) := by decide +kernel
theorem dX4_won_164 : decode cX4_won 164 = .ok (.iinc 3 1, 3) := by decide +kernel
theorem dX4_won_167 : decode cX4_won 167 = .ok (.goto (-34), 3) := by decide +kernel
theorem dX4_won_170 : decode cX4_won 170 = .ok (.iload_n 2, 1) := by decide +kernel
theorem dX4_won_171 : decode cX4_won 171 = .ok (.ireturn, 1) := by decide +kernel
theorem dX4_winner_0 : decode cX4_winner 0 = .ok (.iconst 1, 1) := by decide +kernel
theorem dX4_winner_1 : decode cX4_winner 1 = .ok (.iload_n 0, 1) := by decide +kernel
theorem dX4_winner_2 : decode cX4_winner 2 = .ok (.iload_n 1, 1) := by decide +kernel
theorem dX4_winner_3 : decode cX4_winner 3 = .ok (.ishr, 1) := by decide +kernel
theorem dX4_winner_4 : decode cX4_winner 4 = .ok (.iconst 1, 1) := by decide +kernel
theorem dX4_winner_5 : decode cX4_winner 5 = .ok (.iand, 1) := by decide +kernel
theorem dX4_winner_6 : decode cX4_winner 6 = .ok (.isub, 1) := by decide +kernel
theorem dX4_winner_7 : decode cX4_winner 7 = .ok (.ireturn, 1) := by decide +kernel
theorem dX4_chooses_0 : decode cX4_chooses 0 = .ok (.aload_n 0, 1) := by decide +kernel
theorem dX4_chooses_1 : decode cX4_chooses 1 = .ok (.invokevirtual 89, 3) := by decide +kernel
theorem dX4_chooses_4 : decode cX4_chooses 4 = .ok (.istore_n 1, 1) := by decide +kernel
theorem dX4_chooses_5 : decode cX4_chooses 5 = .ok (.iconst 0, 1) := by decide +kernel
theorem dX4_chooses_6 : decode cX4_chooses 6 = .ok (.istore_n 2, 1) := by decide +kernel
theorem dX4_chooses_7 : decode cX4_chooses 7 = .ok (.iload_n 2, 1) := by decide +kernel
theorem dX4_chooses_8 : decode cX4_chooses 8 = .ok (.aload_n 0, 1) := by decide +kernel
theorem dX4_chooses_9 : decode cX4_chooses 9 = .ok (.getfield 7, 3) := by decide +kernel
theorem dX4_chooses_12 : decode cX4_chooses 12 = .ok (.iconst 0, 1) := by decide +kernel
theorem dX4_chooses_13 : decode cX4_chooses 13 = .ok (.iaload, 1) := by decide +kernel
theorem dX4_chooses_14 : decode cX4_chooses 14 = .ok (.if_icmp .ge 39, 3) := by decide +kernel
theorem dX4_chooses_17 : decode cX4_chooses 17 = .ok (.aload_n 0, 1) := by decide +kernel
theorem dX4_chooses_18 : decode cX4_chooses 18 = .ok (.getfield 28, 3) := by decide +kernel
theorem dX4_chooses_21 : decode cX4_chooses 21 = .ok (.iload_n 2, 1) := by decide +kernel
theorem dX4_chooses_22 : decode cX4_chooses 22 = .ok (.aload_n 0, 1) := by decide +kernel
theorem dX4_chooses_23 : decode cX4_chooses 23 = .ok (.getfield 7, 3) := by decide +kernel
theorem dX4_chooses_26 : decode cX4_chooses 26 = .ok (.bipush 25, 2) := by decide +kernel
theorem dX4_chooses_28 : decode cX4_chooses 28 = .ok (.iload_n 2, 1) := by decide +kernel
theorem dX4_chooses_29 : decode cX4_chooses 29 = .ok (.iadd, 1) := by decide +kernel
theorem dX4_chooses_30 : decode cX4_chooses 30 = .ok (.iaload, 1) := by decide +kernel
theorem dX4_chooses_31 : decode cX4_chooses 31 = .ok (.iastore, 1) := by decide +kernel
theorem dX4_chooses_32 : decode cX4_chooses 32 = .ok (.aload_n 0, 1) := by decide +kernel
theorem dX4_chooses_33 : decode cX4_chooses 33 = .ok (.getfield 25, 3) := by decide +kernel
theorem dX4_chooses_36 : decode cX4_chooses 36 = .ok (.iload_n 2, 1) := by decide +kernel
theorem dX4_chooses_37 : decode cX4_chooses 37 = .ok (.aload_n 0, 1) := by decide +kernel
theorem dX4_chooses_38 : decode cX4_chooses 38 = .ok (.getfield 28, 3) := by decide +kernel
theorem dX4_chooses_41 : decode cX4_chooses 41 = .ok (.iload_n 2, 1) := by decide +kernel
theorem dX4_chooses_42 : decode cX4_chooses 42 = .ok (.iaload, 1) := by decide +kernel
theorem dX4_chooses_43 : decode cX4_chooses 43 = .ok (.invokestatic 93, 3) := by decide +kernel
theorem dX4_chooses_46 : decode cX4_chooses 46 = .ok (.iastore, 1) := by decide +kernel
theorem dX4_chooses_47 : decode cX4_chooses 47 = .ok (.iinc 2 1, 3) := by decide +kernel
theorem dX4_chooses_50 : decode cX4_chooses 50 = .ok (.goto (-43), 3) := by decide +kernel
theorem dX4_chooses_53 : decode cX4_chooses 53 = .ok (.iconst 0, 1) := by decide +kernel
theorem dX4_chooses_54 : decode cX4_chooses 54 = .ok (.istore_n 2, 1) := by decide +kernel
theorem dX4_chooses_55 : decode cX4_chooses 55 = .ok (.iload_n 2, 1) := by decide +kernel
theorem dX4_chooses_56 : decode cX4_chooses 56 = .ok (.aload_n 0, 1) := by decide +kernel
theorem dX4_chooses_57 : decode cX4_chooses 57 = .ok (.getfield 7, 3) := by decide +kernel
theorem dX4_chooses_60 : decode cX4_chooses 60 = .ok (.iconst 0, 1) := by decide +kernel
theorem dX4_chooses_61 : decode cX4_chooses 61 = .ok (.iaload, 1) := by decide +kernel
theorem dX4_chooses_62 : decode cX4_chooses 62 = .ok (.if_icmp .ge 114, 3) := by decide +kernel
theorem dX4_chooses_65 : decode cX4_chooses 65 = .ok (.aload_n 0, 1) := by decide +kernel
theorem dX4_chooses_66 : decode cX4_chooses 66 = .ok (.getfield 7, 3) := by decide +kernel
theorem dX4_chooses_69 : decode cX4_chooses 69 = .ok (.iconst 1, 1) := by decide +kernel
theorem dX4_chooses_70 : decode cX4_chooses 70 = .ok (.iload_n 2, 1) := by decide +kernel
theorem dX4_chooses_71 : decode cX4_chooses 71 = .ok (.iadd, 1) := by decide +kernel
theorem dX4_chooses_72 : decode cX4_chooses 72 = .ok (.iaload, 1) := by decide +kernel
theorem dX4_chooses_73 : decode cX4_chooses 73 = .ok (.iload_n 1, 1) := by decide +kernel
theorem dX4_chooses_74 : decode cX4_chooses 74 = .ok (.iload_n 2, 1) := by decide +kernel
theorem dX4_chooses_75 : decode cX4_chooses 75 = .ok (.invokestatic 96, 3) := by decide +kernel
theorem dX4_chooses_78 : decode cX4_chooses 78 = .ok (.if_icmp .ne 12, 3) := by decide +kernel
theorem dX4_chooses_81 : decode cX4_chooses 81 = .ok (.aload_n 0, 1) := by decide +kernel
theorem dX4_chooses_82 : decode cX4_chooses 82 = .ok (.getfield 28, 3) := by decide +kernel
theorem dX4_chooses_85 : decode cX4_chooses 85 = .ok (.iload_n 2, 1) := by decide +kernel
theorem dX4_chooses_86 : decode cX4_chooses 86 = .ok (.iaload, 1) := by decide +kernel
theorem dX4_chooses_87 : decode cX4_chooses 87 = .ok (.ifCond .ne 7, 3) := by decide +kernel
theorem dX4_chooses_90 : decode cX4_chooses 90 = .ok (.iconst 1, 1) := by decide +kernel
theorem dX4_chooses_91 : decode cX4_chooses 91 = .ok (.goto 4, 3) := by decide +kernel
theorem dX4_chooses_94 : decode cX4_chooses 94 = .ok (.iconst 0, 1) := by decide +kernel
theorem dX4_chooses_95 : decode cX4_chooses 95 = .ok (.istore_n 3, 1) := by decide +kernel
theorem dX4_chooses_96 : decode cX4_chooses 96 = .ok (.iconst 0, 1) := by decide +kernel
theorem dX4_chooses_97 : decode cX4_chooses 97 = .ok (.istore 4, 2) := by decide +kernel
theorem dX4_chooses_99 : decode cX4_chooses 99 = .ok (.iload 4, 2) := by decide +kernel
theorem dX4_chooses_101 : decode cX4_chooses 101 = .ok (.aload_n 0, 1) := by decide +kernel
theorem dX4_chooses_102 : decode cX4_chooses 102 = .ok (.getfield 7, 3) := by decide +kernel
theorem dX4_chooses_105 : decode cX4_chooses 105 = .ok (.iconst 0, 1) := by decide +kernel
theorem dX4_chooses_106 : decode cX4_chooses 106 = .ok (.iaload, 1) := by decide +kernel
theorem dX4_chooses_107 : decode cX4_chooses 107 = .ok (.if_icmp .ge 63, 3) := by decide +kernel
theorem dX4_chooses_110 : decode cX4_chooses 110 = .ok (.iload_n 3, 1) := by decide +kernel
theorem dX4_chooses_111 : decode cX4_chooses 111 = .ok (.ifCond .ne 59, 3) := by decide +kernel
theorem dX4_chooses_114 : decode cX4_chooses 114 = .ok (.aload_n 0, 1) := by decide +kernel
theorem dX4_chooses_115 : decode cX4_chooses 115 = .ok (.getfield 28, 3) := by decide +kernel
theorem dX4_chooses_118 : decode cX4_chooses 118 = .ok (.iload_n 2, 1) := by decide +kernel
theorem dX4_chooses_119 : decode cX4_chooses 119 = .ok (.iaload, 1) := by decide +kernel
theorem dX4_chooses_120 : decode cX4_chooses 120 = .ok (.iload 4, 2) := by decide +kernel
theorem dX4_chooses_122 : decode cX4_chooses 122 = .ok (.ishr, 1) := by decide +kernel
theorem dX4_chooses_123 : decode cX4_chooses 123 = .ok (.iconst 1, 1) := by decide +kernel
theorem dX4_chooses_124 : decode cX4_chooses 124 = .ok (.iand, 1) := by decide +kernel
theorem dX4_chooses_125 : decode cX4_chooses 125 = .ok (.iconst 1, 1) := by decide +kernel
theorem dX4_chooses_126 : decode cX4_chooses 126 = .ok (.if_icmp .ne 38, 3) := by decide +kernel
theorem dX4_chooses_129 : decode cX4_chooses 129 = .ok (.aload_n 0, 1) := by decide +kernel
theorem dX4_chooses_130 : decode cX4_chooses 130 = .ok (.getfield 7, 3) := by decide +kernel
theorem dX4_chooses_133 : decode cX4_chooses 133 = .ok (.bipush 25, 2) := by decide +kernel
theorem dX4_chooses_135 : decode cX4_chooses 135 = .ok (.iload_n 2, 1) := by decide +kernel
theorem dX4_chooses_136 : decode cX4_chooses 136 = .ok (.iadd, 1) := by decide +kernel
theorem dX4_chooses_137 : decode cX4_chooses 137 = .ok (.iconst 1, 1) := by decide +kernel
theorem dX4_chooses_138 : decode cX4_chooses 138 = .ok (.iload 4, 2) := by decide +kernel
theorem dX4_chooses_140 : decode cX4_chooses 140 = .ok (.ishl, 1) := by decide +kernel
theorem dX4_chooses_141 : decode cX4_chooses 141 = .ok (.iastore, 1) := by decide +kernel
theorem dX4_chooses_142 : decode cX4_chooses 142 = .ok (.aload_n 0, 1) := by decide +kernel
theorem dX4_chooses_143 : decode cX4_chooses 143 = .ok (.invokevirtual 89, 3) := by decide +kernel
theorem dX4_chooses_146 : decode cX4_chooses 146 = .ok (.iload_n 1, 1) := by decide +kernel
theorem dX4_chooses_147 : decode cX4_chooses 147 = .ok (.if_icmp .ne 7, 3) := by decide +kernel
theorem dX4_chooses_150 : decode cX4_chooses 150 = .ok (.iconst 1, 1) := by decide +kernel
theorem dX4_chooses_151 : decode cX4_chooses 151 = .ok (.goto 4, 3) := by decide +kernel
theorem dX4_chooses_154 : decode cX4_chooses 154 = .ok (.iconst 0, 1) := by decide +kernel
theorem dX4_chooses_155 : decode cX4_chooses 155 = .ok (.istore_n 3, 1) := by decide +kernel
theorem dX4_chooses_156 : decode cX4_chooses 156 = .ok (.aload_n 0, 1) := by decide +kernel
theorem dX4_chooses_157 : decode cX4_chooses 157 = .ok (.getfield 25, 3) := by decide +kernel
theorem dX4_chooses_160 : decode cX4_chooses 160 = .ok (.iload_n 2, 1) := by decide +kernel
theorem dX4_chooses_161 : decode cX4_chooses 161 = .ok (.iload 4, 2) := by decide +kernel
theorem dX4_chooses_163 : decode cX4_chooses 163 = .ok (.iastore, 1) := by decide +kernel
theorem dX4_chooses_164 : decode cX4_chooses 164 = .ok (.iinc 4 1, 3) := by decide +kernel
theorem dX4_chooses_167 : decode cX4_chooses 167 = .ok (.goto (-68), 3) := by decide +kernel
theorem dX4_chooses_170 : decode cX4_chooses 170 = .ok (.iinc 2 1, 3) := by decide +kernel
theorem dX4_chooses_173 : decode cX4_chooses 173 = .ok (.goto (-118), 3) := by decide +kernel
theorem dX4_chooses_176 : decode cX4_chooses 176 = .ok (.iconst 0, 1) := by decide +kernel
theorem dX4_chooses_177 : decode cX4_chooses 177 = .ok (.istore_n 2, 1) := by decide +kernel
theorem dX4_chooses_178 : decode cX4_chooses 178 = .ok (.iload_n 2, 1) := by decide +kernel
theorem dX4_chooses_179 : decode cX4_chooses 179 = .ok (.aload_n 0, 1) := by decide +kernel
theorem dX4_chooses_180 : decode cX4_chooses 180 = .ok (.getfield 7, 3) := by decide +kernel
theorem dX4_chooses_183 : decode cX4_chooses 183 = .ok (.iconst 0, 1) := by decide +kernel
theorem dX4_chooses_184 : decode cX4_chooses 184 = .ok (.iaload, 1) := by decide +kernel
theorem dX4_chooses_185 : decode cX4_chooses 185 = .ok (.if_icmp .ge 24, 3) := by decide +kernel
theorem dX4_chooses_188 : decode cX4_chooses 188 = .ok (.aload_n 0, 1) := by decide +kernel
theorem dX4_chooses_189 : decode cX4_chooses 189 = .ok (.getfield 7, 3) := by decide +kernel
theorem dX4_chooses_192 : decode cX4_chooses 192 = .ok (.bipush 25, 2) := by decide +kernel
theorem dX4_chooses_194 : decode cX4_chooses 194 = .ok (.iload_n 2, 1) := by decide +kernel
theorem dX4_chooses_195 : decode cX4_chooses 195 = .ok (.iadd, 1) := by decide +kernel
theorem dX4_chooses_196 : decode cX4_chooses 196 = .ok (.aload_n 0, 1) := by decide +kernel
theorem dX4_chooses_197 : decode cX4_chooses 197 = .ok (.getfield 28, 3) := by decide +kernel
theorem dX4_chooses_200 : decode cX4_chooses 200 = .ok (.iload_n 2, 1) := by decide +kernel
theorem dX4_chooses_201 : decode cX4_chooses 201 = .ok (.iaload, 1) := by decide +kernel
theorem dX4_chooses_202 : decode cX4_chooses 202 = .ok (.iastore, 1) := by decide +kernel
theorem dX4_chooses_203 : decode cX4_chooses 203 = .ok (.iinc 2 1, 3) := by decide +kernel
theorem dX4_chooses_206 : decode cX4_chooses 206 = .ok (.goto (-28), 3) := by decide +kernel
theorem dX4_chooses_209 : decode cX4_chooses 209 = .ok (.iload_n 1, 1) := by decide +kernel
theorem dX4_chooses_210 : decode cX4_chooses 210 = .ok (.ireturn, 1) := by decide +kernel
theorem dX4_into_0 : decode cX4_into 0 = .ok (.iconst 0, 1) := by decide +kernel
theorem dX4_into_1 : decode cX4_into 1 = .ok (.istore_n 2, 1) := by decide +kernel
theorem dX4_into_2 : decode cX4_into 2 = .ok (.iconst 0, 1) := by decide +kernel
theorem dX4_into_3 : decode cX4_into 3 = .ok (.istore_n 3, 1) := by decide +kernel
theorem dX4_into_4 : decode cX4_into 4 = .ok (.iload_n 3, 1) := by decide +kernel
theorem dX4_into_5 : decode cX4_into 5 = .ok (.aload_n 0, 1) := by decide +kernel
theorem dX4_into_6 : decode cX4_into 6 = .ok (.getfield 7, 3) := by decide +kernel
theorem dX4_into_9 : decode cX4_into 9 = .ok (.iconst 0, 1) := by decide +kernel
theorem dX4_into_10 : decode cX4_into 10 = .ok (.iaload, 1) := by decide +kernel
theorem dX4_into_11 : decode cX4_into 11 = .ok (.if_icmp .ge 28, 3) := by decide +kernel
theorem dX4_into_14 : decode cX4_into 14 = .ok (.iload_n 2, 1) := by decide +kernel
theorem dX4_into_15 : decode cX4_into 15 = .ok (.aload_n 0, 1) := by decide +kernel
theorem dX4_into_16 : decode cX4_into 16 = .ok (.iload_n 3, 1) := by decide +kernel
theorem dX4_into_17 : decode cX4_into 17 = .ok (.iload_n 1, 1) := by decide +kernel
theorem dX4_into_18 : decode cX4_into 18 = .ok (.invokevirtual 61, 3) := by decide +kernel
theorem dX4_into_21 : decode cX4_into 21 = .ok (.ifCond .eq 9, 3) := by decide +kernel
theorem dX4_into_24 : decode cX4_into 24 = .ok (.iconst 1, 1) := by decide +kernel
theorem dX4_into_25 : decode cX4_into 25 = .ok (.iload_n 3, 1) := by decide +kernel
theorem dX4_into_26 : decode cX4_into 26 = .ok (.ishl, 1) := by decide +kernel
theorem dX4_into_27 : decode cX4_into 27 = .ok (.goto 4, 3) := by decide +kernel
theorem dX4_into_30 : decode cX4_into 30 = .ok (.iconst 0, 1) := by decide +kernel
theorem dX4_into_31 : decode cX4_into 31 = .ok (.ior, 1) := by decide +kernel
theorem dX4_into_32 : decode cX4_into 32 = .ok (.istore_n 2, 1) := by decide +kernel
theorem dX4_into_33 : decode cX4_into 33 = .ok (.iinc 3 1, 3) := by decide +kernel
theorem dX4_into_36 : decode cX4_into 36 = .ok (.goto (-32), 3) := by decide +kernel
theorem dX4_into_39 : decode cX4_into 39 = .ok (.iload_n 2, 1) := by decide +kernel
theorem dX4_into_40 : decode cX4_into 40 = .ok (.ireturn, 1) := by decide +kernel
theorem dX4_choiceAt_0 : decode cX4_choiceAt 0 = .ok (.aload_n 0, 1) := by decide +kernel
theorem dX4_choiceAt_1 : decode cX4_choiceAt 1 = .ok (.invokevirtual 99, 3) := by decide +kernel
theorem dX4_choiceAt_4 : decode cX4_choiceAt 4 = .ok (.ifCond .ge 8, 3) := by decide +kernel
theorem dX4_choiceAt_7 : decode cX4_choiceAt 7 = .ok (.bipush (-4), 2) := by decide +kernel
theorem dX4_choiceAt_9 : decode cX4_choiceAt 9 = .ok (.goto 9, 3) := by decide +kernel
theorem dX4_choiceAt_12 : decode cX4_choiceAt 12 = .ok (.aload_n 0, 1) := by decide +kernel
theorem dX4_choiceAt_13 : decode cX4_choiceAt 13 = .ok (.getfield 25, 3) := by decide +kernel
theorem dX4_choiceAt_16 : decode cX4_choiceAt 16 = .ok (.iload_n 1, 1) := by decide +kernel
theorem dX4_choiceAt_17 : decode cX4_choiceAt 17 = .ok (.iaload, 1) := by decide +kernel
theorem dX4_choiceAt_18 : decode cX4_choiceAt 18 = .ok (.ireturn, 1) := by decide +kernel
theorem dX4_placeOf_0 : decode cX4_placeOf 0 = .ok (.aload_n 0, 1) := by decide +kernel
theorem dX4_placeOf_1 : decode cX4_placeOf 1 = .ok (.iload_n 1, 1) := by decide +kernel
theorem dX4_placeOf_2 : decode cX4_placeOf 2 = .ok (.invokevirtual 57, 3) := by decide +kernel
theorem dX4_placeOf_5 : decode cX4_placeOf 5 = .ok (.ifCond .eq 12, 3) := by decide +kernel
theorem dX4_placeOf_8 : decode cX4_placeOf 8 = .ok (.iload_n 2, 1) := by decide +kernel
theorem dX4_placeOf_9 : decode cX4_placeOf 9 = .ok (.iconst 0, 1) := by decide +kernel
theorem dX4_placeOf_10 : decode cX4_placeOf 10 = .ok (.iconst 5, 1) := by decide +kernel
theorem dX4_placeOf_11 : decode cX4_placeOf 11 = .ok (.invokestatic 50, 3) := by decide +kernel
theorem dX4_placeOf_14 : decode cX4_placeOf 14 = .ok (.ifCond .ne 5, 3) := by decide +kernel
theorem dX4_placeOf_17 : decode cX4_placeOf 17 = .ok (.iconst (-1), 1) := by decide +kernel
theorem dX4_placeOf_18 : decode cX4_placeOf 18 = .ok (.ireturn, 1) := by decide +kernel
theorem dX4_placeOf_19 : decode cX4_placeOf 19 = .ok (.iload_n 2, 1) := by decide +kernel
theorem dX4_placeOf_20 : decode cX4_placeOf 20 = .ok (.tableswitch 80 0 4 #[36, 45, 55, 65, 71], 36) := by decide +kernel
theorem dX4_placeOf_56 : decode cX4_placeOf 56 = .ok (.aload_n 0, 1) := by decide +kernel
theorem dX4_placeOf_57 : decode cX4_placeOf 57 = .ok (.getfield 7, 3) := by decide +kernel
theorem dX4_placeOf_60 : decode cX4_placeOf 60 = .ok (.iconst 1, 1) := by decide +kernel
theorem dX4_placeOf_61 : decode cX4_placeOf 61 = .ok (.iload_n 1, 1) := by decide +kernel
theorem dX4_placeOf_62 : decode cX4_placeOf 62 = .ok (.iadd, 1) := by decide +kernel
theorem dX4_placeOf_63 : decode cX4_placeOf 63 = .ok (.iaload, 1) := by decide +kernel
theorem dX4_placeOf_64 : decode cX4_placeOf 64 = .ok (.ireturn, 1) := by decide +kernel
theorem dX4_placeOf_65 : decode cX4_placeOf 65 = .ok (.aload_n 0, 1) := by decide +kernel
theorem dX4_placeOf_66 : decode cX4_placeOf 66 = .ok (.getfield 7, 3) := by decide +kernel
theorem dX4_placeOf_69 : decode cX4_placeOf 69 = .ok (.bipush 13, 2) := by decide +kernel
theorem dX4_placeOf_71 : decode cX4_placeOf 71 = .ok (.iload_n 1, 1) := by decide +kernel
theorem dX4_placeOf_72 : decode cX4_placeOf 72 = .ok (.iadd, 1) := by decide +kernel
theorem dX4_placeOf_73 : decode cX4_placeOf 73 = .ok (.iaload, 1) := by decide +kernel
theorem dX4_placeOf_74 : decode cX4_placeOf 74 = .ok (.ireturn, 1) := by decide +kernel
theorem dX4_placeOf_75 : decode cX4_placeOf 75 = .ok (.aload_n 0, 1) := by decide +kernel
theorem dX4_placeOf_76 : decode cX4_placeOf 76 = .ok (.getfield 7, 3) := by decide +kernel
theorem dX4_placeOf_79 : decode cX4_placeOf 79 = .ok (.bipush 25, 2) := by decide +kernel
theorem dX4_placeOf_81 : decode cX4_placeOf 81 = .ok (.iload_n 1, 1) := by decide +kernel
theorem dX4_placeOf_82 : decode cX4_placeOf 82 = .ok (.iadd, 1) := by decide +kernel
theorem dX4_placeOf_83 : decode cX4_placeOf 83 = .ok (.iaload, 1) := by decide +kernel
theorem dX4_placeOf_84 : decode cX4_placeOf 84 = .ok (.ireturn, 1) := by decide +kernel
theorem dX4_placeOf_85 : decode cX4_placeOf 85 = .ok (.aload_n 0, 1) := by decide +kernel
theorem dX4_placeOf_86 : decode cX4_placeOf 86 = .ok (.iload_n 1, 1) := by decide +kernel
theorem dX4_placeOf_87 : decode cX4_placeOf 87 = .ok (.invokevirtual 102, 3) := by decide +kernel
theorem dX4_placeOf_90 : decode cX4_placeOf 90 = .ok (.ireturn, 1) := by decide +kernel
theorem dX4_placeOf_91 : decode cX4_placeOf 91 = .ok (.aload_n 0, 1) := by decide +kernel
theorem dX4_placeOf_92 : decode cX4_placeOf 92 = .ok (.invokevirtual 89, 3) := by decide +kernel
theorem dX4_placeOf_95 : decode cX4_placeOf 95 = .ok (.iload_n 1, 1) := by decide +kernel
theorem dX4_placeOf_96 : decode cX4_placeOf 96 = .ok (.invokestatic 96, 3) := by decide +kernel
theorem dX4_placeOf_99 : decode cX4_placeOf 99 = .ok (.ireturn, 1) := by decide +kernel
theorem dX4_placeOf_100 : decode cX4_placeOf 100 = .ok (.aload_n 0, 1) := by decide +kernel
theorem dX4_placeOf_101 : decode cX4_placeOf 101 = .ok (.iload_n 1, 1) := by decide +kernel
theorem dX4_placeOf_102 : decode cX4_placeOf 102 = .ok (.invokevirtual 105, 3) := by decide +kernel
theorem dX4_placeOf_105 : decode cX4_placeOf 105 = .ok (.ireturn, 1) := by decide +kernel
theorem dX4_manyWays_0 : decode cX4_manyWays 0 = .ok (.iconst 0, 1) := by decide +kernel
theorem dX4_manyWays_1 : decode cX4_manyWays 1 = .ok (.istore_n 1, 1) := by decide +kernel
theorem dX4_manyWays_2 : decode cX4_manyWays 2 = .ok (.iconst 0, 1) := by decide +kernel
theorem dX4_manyWays_3 : decode cX4_manyWays 3 = .ok (.istore_n 2, 1) := by decide +kernel
theorem dX4_manyWays_4 : decode cX4_manyWays 4 = .ok (.iload_n 2, 1) := by decide +kernel
theorem dX4_manyWays_5 : decode cX4_manyWays 5 = .ok (.aload_n 0, 1) := by decide +kernel
theorem dX4_manyWays_6 : decode cX4_manyWays 6 = .ok (.getfield 7, 3) := by decide +kernel
theorem dX4_manyWays_9 : decode cX4_manyWays 9 = .ok (.iconst 0, 1) := by decide +kernel
theorem dX4_manyWays_10 : decode cX4_manyWays 10 = .ok (.iaload, 1) := by decide +kernel
theorem dX4_manyWays_11 : decode cX4_manyWays 11 = .ok (.if_icmp .ge 24, 3) := by decide +kernel
theorem dX4_manyWays_14 : decode cX4_manyWays 14 = .ok (.iload_n 1, 1) := by decide +kernel
theorem dX4_manyWays_15 : decode cX4_manyWays 15 = .ok (.aload_n 0, 1) := by decide +kernel
theorem dX4_manyWays_16 : decode cX4_manyWays 16 = .ok (.getfield 7, 3) := by decide +kernel
theorem dX4_manyWays_19 : decode cX4_manyWays 19 = .ok (.bipush 25, 2) := by decide +kernel
theorem dX4_manyWays_21 : decode cX4_manyWays 21 = .ok (.iload_n 2, 1) := by decide +kernel
theorem dX4_manyWays_22 : decode cX4_manyWays 22 = .ok (.iadd, 1) := by decide +kernel
theorem dX4_manyWays_23 : decode cX4_manyWays 23 = .ok (.iaload, 1) := by decide +kernel
theorem dX4_manyWays_24 : decode cX4_manyWays 24 = .ok (.invokestatic 65, 3) := by decide +kernel
theorem dX4_manyWays_27 : decode cX4_manyWays 27 = .ok (.iadd, 1) := by decide +kernel
theorem dX4_manyWays_28 : decode cX4_manyWays 28 = .ok (.istore_n 1, 1) := by decide +kernel
theorem dX4_manyWays_29 : decode cX4_manyWays 29 = .ok (.iinc 2 1, 3) := by decide +kernel
theorem dX4_manyWays_32 : decode cX4_manyWays 32 = .ok (.goto (-28), 3) := by decide +kernel
theorem dX4_manyWays_35 : decode cX4_manyWays 35 = .ok (.iload_n 1, 1) := by decide +kernel
theorem dX4_manyWays_36 : decode cX4_manyWays 36 = .ok (.ireturn, 1) := by decide +kernel
theorem dX4_dead_0 : decode cX4_dead 0 = .ok (.iconst 0, 1) := by decide +kernel
theorem dX4_dead_1 : decode cX4_dead 1 = .ok (.istore_n 1, 1) := by decide +kernel
theorem dX4_dead_2 : decode cX4_dead 2 = .ok (.iconst 0, 1) := by decide +kernel
theorem dX4_dead_3 : decode cX4_dead 3 = .ok (.istore_n 2, 1) := by decide +kernel
theorem dX4_dead_4 : decode cX4_dead 4 = .ok (.iload_n 2, 1) := by decide +kernel
theorem dX4_dead_5 : decode cX4_dead 5 = .ok (.aload_n 0, 1) := by decide +kernel
theorem dX4_dead_6 : decode cX4_dead 6 = .ok (.getfield 7, 3) := by decide +kernel
theorem dX4_dead_9 : decode cX4_dead 9 = .ok (.iconst 0, 1) := by decide +kernel
theorem dX4_dead_10 : decode cX4_dead 10 = .ok (.iaload, 1) := by decide +kernel
theorem dX4_dead_11 : decode cX4_dead 11 = .ok (.if_icmp .ge 31, 3) := by decide +kernel
theorem dX4_dead_14 : decode cX4_dead 14 = .ok (.iload_n 1, 1) := by decide +kernel
theorem dX4_dead_15 : decode cX4_dead 15 = .ok (.aload_n 0, 1) := by decide +kernel
theorem dX4_dead_16 : decode cX4_dead 16 = .ok (.getfield 7, 3) := by decide +kernel
theorem dX4_dead_19 : decode cX4_dead 19 = .ok (.bipush 25, 2) := by decide +kernel
theorem dX4_dead_21 : decode cX4_dead 21 = .ok (.iload_n 2, 1) := by decide +kernel
theorem dX4_dead_22 : decode cX4_dead 22 = .ok (.iadd, 1) := by decide +kernel
theorem dX4_dead_23 : decode cX4_dead 23 = .ok (.iaload, 1) := by decide +kernel
theorem dX4_dead_24 : decode cX4_dead 24 = .ok (.ifCond .ne 9, 3) := by decide +kernel
theorem dX4_dead_27 : decode cX4_dead 27 = .ok (.iconst 1, 1) := by decide +kernel
theorem dX4_dead_28 : decode cX4_dead 28 = .ok (.iload_n 2, 1) := by decide +kernel
theorem dX4_dead_29 : decode cX4_dead 29 = .ok (.ishl, 1) := by decide +kernel
theorem dX4_dead_30 : decode cX4_dead 30 = .ok (.goto 4, 3) := by decide +kernel
theorem dX4_dead_33 : decode cX4_dead 33 = .ok (.iconst 0, 1) := by decide +kernel
theorem dX4_dead_34 : decode cX4_dead 34 = .ok (.ior, 1) := by decide +kernel
theorem dX4_dead_35 : decode cX4_dead 35 = .ok (.istore_n 1, 1) := by decide +kernel
theorem dX4_dead_36 : decode cX4_dead 36 = .ok (.iinc 2 1, 3) := by decide +kernel
theorem dX4_dead_39 : decode cX4_dead 39 = .ok (.goto (-35), 3) := by decide +kernel
theorem dX4_dead_42 : decode cX4_dead 42 = .ok (.iload_n 1, 1) := by decide +kernel
theorem dX4_dead_43 : decode cX4_dead 43 = .ok (.ireturn, 1) := by decide +kernel
theorem dX4_greatest_0 : decode cX4_greatest 0 = .ok (.bipush (-4), 2) := by decide +kernel
theorem dX4_greatest_2 : decode cX4_greatest 2 = .ok (.istore_n 1, 1) := by decide +kernel
theorem dX4_greatest_3 : decode cX4_greatest 3 = .ok (.iconst 0, 1) := by decide +kernel
theorem dX4_greatest_4 : decode cX4_greatest 4 = .ok (.istore_n 2, 1) := by decide +kernel
theorem dX4_greatest_5 : decode cX4_greatest 5 = .ok (.iload_n 2, 1) := by decide +kernel
theorem dX4_greatest_6 : decode cX4_greatest 6 = .ok (.aload_n 0, 1) := by decide +kernel
theorem dX4_greatest_7 : decode cX4_greatest 7 = .ok (.getfield 7, 3) := by decide +kernel
theorem dX4_greatest_10 : decode cX4_greatest 10 = .ok (.iconst 0, 1) := by decide +kernel
theorem dX4_greatest_11 : decode cX4_greatest 11 = .ok (.iaload, 1) := by decide +kernel
theorem dX4_greatest_12 : decode cX4_greatest 12 = .ok (.if_icmp .ge 36, 3) := by decide +kernel
theorem dX4_greatest_15 : decode cX4_greatest 15 = .ok (.aload_n 0, 1) := by decide +kernel
theorem dX4_greatest_16 : decode cX4_greatest 16 = .ok (.getfield 7, 3) := by decide +kernel
theorem dX4_greatest_19 : decode cX4_greatest 19 = .ok (.bipush 13, 2) := by decide +kernel
theorem dX4_greatest_21 : decode cX4_greatest 21 = .ok (.iload_n 2, 1) := by decide +kernel
theorem dX4_greatest_22 : decode cX4_greatest 22 = .ok (.iadd, 1) := by decide +kernel
theorem dX4_greatest_23 : decode cX4_greatest 23 = .ok (.iaload, 1) := by decide +kernel
theorem dX4_greatest_24 : decode cX4_greatest 24 = .ok (.iload_n 1, 1) := by decide +kernel
theorem dX4_greatest_25 : decode cX4_greatest 25 = .ok (.if_icmp .le 15, 3) := by decide +kernel
theorem dX4_greatest_28 : decode cX4_greatest 28 = .ok (.aload_n 0, 1) := by decide +kernel
theorem dX4_greatest_29 : decode cX4_greatest 29 = .ok (.getfield 7, 3) := by decide +kernel
theorem dX4_greatest_32 : decode cX4_greatest 32 = .ok (.bipush 13, 2) := by decide +kernel
theorem dX4_greatest_34 : decode cX4_greatest 34 = .ok (.iload_n 2, 1) := by decide +kernel
theorem dX4_greatest_35 : decode cX4_greatest 35 = .ok (.iadd, 1) := by decide +kernel
theorem dX4_greatest_36 : decode cX4_greatest 36 = .ok (.iaload, 1) := by decide +kernel
theorem dX4_greatest_37 : decode cX4_greatest 37 = .ok (.goto 4, 3) := by decide +kernel
theorem dX4_greatest_40 : decode cX4_greatest 40 = .ok (.iload_n 1, 1) := by decide +kernel
theorem dX4_greatest_41 : decode cX4_greatest 41 = .ok (.istore_n 1, 1) := by decide +kernel
theorem dX4_greatest_42 : decode cX4_greatest 42 = .ok (.iinc 2 1, 3) := by decide +kernel
theorem dX4_greatest_45 : decode cX4_greatest 45 = .ok (.goto (-40), 3) := by decide +kernel
theorem dX4_greatest_48 : decode cX4_greatest 48 = .ok (.iload_n 1, 1) := by decide +kernel
theorem dX4_greatest_49 : decode cX4_greatest 49 = .ok (.ireturn, 1) := by decide +kernel
theorem dX4_count_0 : decode cX4_count 0 = .ok (.iload_n 1, 1) := by decide +kernel
theorem dX4_count_1 : decode cX4_count 1 = .ok (.tableswitch 111 0 8 #[51, 58, 63, 68, 78, 83, 88, 93, 98], 51) := by decide +kernel
theorem dX4_count_52 : decode cX4_count 52 = .ok (.aload_n 0, 1) := by decide +kernel
theorem dX4_count_53 : decode cX4_count 53 = .ok (.getfield 7, 3) := by decide +kernel
theorem dX4_count_56 : decode cX4_count 56 = .ok (.iconst 0, 1) := by decide +kernel
theorem dX4_count_57 : decode cX4_count 57 = .ok (.iaload, 1) := by decide +kernel
theorem dX4_count_58 : decode cX4_count 58 = .ok (.ireturn, 1) := by decide +kernel
theorem dX4_count_59 : decode cX4_count 59 = .ok (.aload_n 0, 1) := by decide +kernel
theorem dX4_count_60 : decode cX4_count 60 = .ok (.invokevirtual 108, 3) := by decide +kernel
theorem dX4_count_63 : decode cX4_count 63 = .ok (.ireturn, 1) := by decide +kernel
theorem dX4_count_64 : decode cX4_count 64 = .ok (.aload_n 0, 1) := by decide +kernel
theorem dX4_count_65 : decode cX4_count 65 = .ok (.invokevirtual 89, 3) := by decide +kernel
theorem dX4_count_68 : decode cX4_count 68 = .ok (.ireturn, 1) := by decide +kernel
theorem dX4_count_69 : decode cX4_count 69 = .ok (.aload_n 0, 1) := by decide +kernel
theorem dX4_count_70 : decode cX4_count 70 = .ok (.invokevirtual 111, 3) := by decide +kernel
theorem dX4_count_73 : decode cX4_count 73 = .ok (.aload_n 0, 1) := by decide +kernel
theorem dX4_count_74 : decode cX4_count 74 = .ok (.invokevirtual 89, 3) := by decide +kernel
theorem dX4_count_77 : decode cX4_count 77 = .ok (.isub, 1) := by decide +kernel
theorem dX4_count_78 : decode cX4_count 78 = .ok (.ireturn, 1) := by decide +kernel
theorem dX4_count_79 : decode cX4_count 79 = .ok (.aload_n 0, 1) := by decide +kernel
theorem dX4_count_80 : decode cX4_count 80 = .ok (.invokevirtual 114, 3) := by decide +kernel
theorem dX4_count_83 : decode cX4_count 83 = .ok (.ireturn, 1) := by decide +kernel
theorem dX4_count_84 : decode cX4_count 84 = .ok (.aload_n 0, 1) := by decide +kernel
theorem dX4_count_85 : decode cX4_count 85 = .ok (.invokevirtual 117, 3) := by decide +kernel
theorem dX4_count_88 : decode cX4_count 88 = .ok (.ireturn, 1) := by decide +kernel
theorem dX4_count_89 : decode cX4_count 89 = .ok (.aload_n 0, 1) := by decide +kernel
theorem dX4_count_90 : decode cX4_count 90 = .ok (.getfield 46, 3) := by decide +kernel
theorem dX4_count_93 : decode cX4_count 93 = .ok (.ireturn, 1) := by decide +kernel
theorem dX4_count_94 : decode cX4_count 94 = .ok (.aload_n 0, 1) := by decide +kernel
theorem dX4_count_95 : decode cX4_count 95 = .ok (.getfield 120, 3) := by decide +kernel
theorem dX4_count_98 : decode cX4_count 98 = .ok (.ireturn, 1) := by decide +kernel
theorem dX4_count_99 : decode cX4_count 99 = .ok (.aload_n 0, 1) := by decide +kernel
theorem dX4_count_100 : decode cX4_count 100 = .ok (.getfield 123, 3) := by decide +kernel
theorem dX4_count_103 : decode cX4_count 103 = .ok (.ifCond .eq 7, 3) := by decide +kernel
theorem dX4_count_106 : decode cX4_count 106 = .ok (.iconst 1, 1) := by decide +kernel
theorem dX4_count_107 : decode cX4_count 107 = .ok (.goto 4, 3) := by decide +kernel
theorem dX4_count_110 : decode cX4_count 110 = .ok (.iconst 0, 1) := by decide +kernel
theorem dX4_count_111 : decode cX4_count 111 = .ok (.ireturn, 1) := by decide +kernel
theorem dX4_count_112 : decode cX4_count 112 = .ok (.iconst (-1), 1) := by decide +kernel
theorem dX4_count_113 : decode cX4_count 113 = .ok (.ireturn, 1) := by decide +kernel
theorem dX4_isSet_0 : decode cX4_isSet 0 = .ok (.iload_n 1, 1) := by decide +kernel
theorem dX4_isSet_1 : decode cX4_isSet 1 = .ok (.iconst 0, 1) := by decide +kernel
theorem dX4_isSet_2 : decode cX4_isSet 2 = .ok (.iconst 1, 1) := by decide +kernel
theorem dX4_isSet_3 : decode cX4_isSet 3 = .ok (.invokestatic 50, 3) := by decide +kernel
theorem dX4_isSet_6 : decode cX4_isSet 6 = .ok (.ifCond .eq 19, 3) := by decide +kernel
theorem dX4_isSet_9 : decode cX4_isSet 9 = .ok (.iload_n 2, 1) := by decide +kernel
theorem dX4_isSet_10 : decode cX4_isSet 10 = .ok (.iconst 0, 1) := by decide +kernel
theorem dX4_isSet_11 : decode cX4_isSet 11 = .ok (.aload_n 0, 1) := by decide +kernel
theorem dX4_isSet_12 : decode cX4_isSet 12 = .ok (.invokevirtual 111, 3) := by decide +kernel
theorem dX4_isSet_15 : decode cX4_isSet 15 = .ok (.invokestatic 50, 3) := by decide +kernel
theorem dX4_isSet_18 : decode cX4_isSet 18 = .ok (.ifCond .eq 7, 3) := by decide +kernel
theorem dX4_isSet_21 : decode cX4_isSet 21 = .ok (.iconst 1, 1) := by decide +kernel
theorem dX4_isSet_22 : decode cX4_isSet 22 = .ok (.goto 4, 3) := by decide +kernel
theorem dX4_isSet_25 : decode cX4_isSet 25 = .ok (.iconst 0, 1) := by decide +kernel
theorem dX4_isSet_26 : decode cX4_isSet 26 = .ok (.ireturn, 1) := by decide +kernel
theorem dX4_pulls_0 : decode cX4_pulls 0 = .ok (.iload_n 2, 1) := by decide +kernel
theorem dX4_pulls_1 : decode cX4_pulls 1 = .ok (.istore_n 3, 1) := by decide +kernel
theorem dX4_pulls_2 : decode cX4_pulls 2 = .ok (.iconst 0, 1) := by decide +kernel
theorem dX4_pulls_3 : decode cX4_pulls 3 = .ok (.istore 4, 2) := by decide +kernel
theorem dX4_pulls_5 : decode cX4_pulls 5 = .ok (.iload 4, 2) := by decide +kernel
theorem dX4_pulls_7 : decode cX4_pulls 7 = .ok (.aload_n 0, 1) := by decide +kernel
theorem dX4_pulls_8 : decode cX4_pulls 8 = .ok (.getfield 7, 3) := by decide +kernel
theorem dX4_pulls_11 : decode cX4_pulls 11 = .ok (.iconst 0, 1) := by decide +kernel
theorem dX4_pulls_12 : decode cX4_pulls 12 = .ok (.iaload, 1) := by decide +kernel
theorem dX4_pulls_13 : decode cX4_pulls 13 = .ok (.if_icmp .ge 86, 3) := by decide +kernel
theorem dX4_pulls_16 : decode cX4_pulls 16 = .ok (.aload_n 0, 1) := by decide +kernel
theorem dX4_pulls_17 : decode cX4_pulls 17 = .ok (.getfield 7, 3) := by decide +kernel
theorem dX4_pulls_20 : decode cX4_pulls 20 = .ok (.bipush 25, 2) := by decide +kernel
theorem dX4_pulls_22 : decode cX4_pulls 22 = .ok (.iload 4, 2) := by decide +kernel
theorem dX4_pulls_24 : decode cX4_pulls 24 = .ok (.iadd, 1) := by decide +kernel
theorem dX4_pulls_25 : decode cX4_pulls 25 = .ok (.iaload, 1) := by decide +kernel
theorem dX4_pulls_26 : decode cX4_pulls 26 = .ok (.istore 5, 2) := by decide +kernel
theorem dX4_pulls_28 : decode cX4_pulls 28 = .ok (.aload_n 0, 1) := by decide +kernel
theorem dX4_pulls_29 : decode cX4_pulls 29 = .ok (.getfield 7, 3) := by decide +kernel
theorem dX4_pulls_32 : decode cX4_pulls 32 = .ok (.iconst 1, 1) := by decide +kernel
theorem dX4_pulls_33 : decode cX4_pulls 33 = .ok (.iload 4, 2) := by decide +kernel
theorem dX4_pulls_35 : decode cX4_pulls 35 = .ok (.iadd, 1) := by decide +kernel
theorem dX4_pulls_36 : decode cX4_pulls 36 = .ok (.iaload, 1) := by decide +kernel
theorem dX4_pulls_37 : decode cX4_pulls 37 = .ok (.iload_n 1, 1) := by decide +kernel
theorem dX4_pulls_38 : decode cX4_pulls 38 = .ok (.if_icmp .ne 18, 3) := by decide +kernel
theorem dX4_pulls_41 : decode cX4_pulls 41 = .ok (.iload 5, 2) := by decide +kernel
theorem dX4_pulls_43 : decode cX4_pulls 43 = .ok (.iload_n 2, 1) := by decide +kernel
theorem dX4_pulls_44 : decode cX4_pulls 44 = .ok (.iand, 1) := by decide +kernel
theorem dX4_pulls_45 : decode cX4_pulls 45 = .ok (.ifCond .eq 7, 3) := by decide +kernel
theorem dX4_pulls_48 : decode cX4_pulls 48 = .ok (.iconst 1, 1) := by decide +kernel
theorem dX4_pulls_49 : decode cX4_pulls 49 = .ok (.goto 26, 3) := by decide +kernel
theorem dX4_pulls_52 : decode cX4_pulls 52 = .ok (.iconst 0, 1) := by decide +kernel
theorem dX4_pulls_53 : decode cX4_pulls 53 = .ok (.goto 22, 3) := by decide +kernel
theorem dX4_pulls_56 : decode cX4_pulls 56 = .ok (.iload 5, 2) := by decide +kernel
theorem dX4_pulls_58 : decode cX4_pulls 58 = .ok (.ifCond .eq 16, 3) := by decide +kernel
theorem dX4_pulls_61 : decode cX4_pulls 61 = .ok (.iload 5, 2) := by decide +kernel
theorem dX4_pulls_63 : decode cX4_pulls 63 = .ok (.iload_n 2, 1) := by decide +kernel
theorem dX4_pulls_64 : decode cX4_pulls 64 = .ok (.iconst (-1), 1) := by decide +kernel
theorem dX4_pulls_65 : decode cX4_pulls 65 = .ok (.ixor, 1) := by decide +kernel
theorem dX4_pulls_66 : decode cX4_pulls 66 = .ok (.iand, 1) := by decide +kernel
theorem dX4_pulls_67 : decode cX4_pulls 67 = .ok (.ifCond .ne 7, 3) := by decide +kernel
theorem dX4_pulls_70 : decode cX4_pulls 70 = .ok (.iconst 1, 1) := by decide +kernel
theorem dX4_pulls_71 : decode cX4_pulls 71 = .ok (.goto 4, 3) := by decide +kernel
theorem dX4_pulls_74 : decode cX4_pulls 74 = .ok (.iconst 0, 1) := by decide +kernel
theorem dX4_pulls_75 : decode cX4_pulls 75 = .ok (.istore 6, 2) := by decide +kernel
theorem dX4_pulls_77 : decode cX4_pulls 77 = .ok (.iload_n 3, 1) := by decide +kernel
theorem dX4_pulls_78 : decode cX4_pulls 78 = .ok (.iload 6, 2) := by decide +kernel
theorem dX4_pulls_80 : decode cX4_pulls 80 = .ok (.ifCond .eq 10, 3) := by decide +kernel
theorem dX4_pulls_83 : decode cX4_pulls 83 = .ok (.iconst 1, 1) := by decide +kernel
theorem dX4_pulls_84 : decode cX4_pulls 84 = .ok (.iload 4, 2) := by decide +kernel
theorem dX4_pulls_86 : decode cX4_pulls 86 = .ok (.ishl, 1) := by decide +kernel
theorem dX4_pulls_87 : decode cX4_pulls 87 = .ok (.goto 4, 3) := by decide +kernel
theorem dX4_pulls_90 : decode cX4_pulls 90 = .ok (.iconst 0, 1) := by decide +kernel
theorem dX4_pulls_91 : decode cX4_pulls 91 = .ok (.ior, 1) := by decide +kernel
theorem dX4_pulls_92 : decode cX4_pulls 92 = .ok (.istore_n 3, 1) := by decide +kernel
theorem dX4_pulls_93 : decode cX4_pulls 93 = .ok (.iinc 4 1, 3) := by decide +kernel
theorem dX4_pulls_96 : decode cX4_pulls 96 = .ok (.goto (-91), 3) := by decide +kernel
theorem dX4_pulls_99 : decode cX4_pulls 99 = .ok (.iload_n 3, 1) := by decide +kernel
theorem dX4_pulls_100 : decode cX4_pulls 100 = .ok (.ireturn, 1) := by decide +kernel
theorem dX4_pulled_0 : decode cX4_pulled 0 = .ok (.aload_n 0, 1) := by decide +kernel
theorem dX4_pulled_1 : decode cX4_pulled 1 = .ok (.iload_n 1, 1) := by decide +kernel
theorem dX4_pulled_2 : decode cX4_pulled 2 = .ok (.iload_n 2, 1) := by decide +kernel
theorem dX4_pulled_3 : decode cX4_pulled 3 = .ok (.invokevirtual 127, 3) := by decide +kernel
theorem dX4_pulled_6 : decode cX4_pulled 6 = .ok (.ifCond .ne 5, 3) := by decide +kernel
theorem dX4_pulled_9 : decode cX4_pulled 9 = .ok (.iconst (-1), 1) := by decide +kernel
theorem dX4_pulled_10 : decode cX4_pulled 10 = .ok (.ireturn, 1) := by decide +kernel
theorem dX4_pulled_11 : decode cX4_pulled 11 = .ok (.iload_n 2, 1) := by decide +kernel
theorem dX4_pulled_12 : decode cX4_pulled 12 = .ok (.istore_n 3, 1) := by decide +kernel
theorem dX4_pulled_13 : decode cX4_pulled 13 = .ok (.iconst 0, 1) := by decide +kernel
theorem dX4_pulled_14 : decode cX4_pulled 14 = .ok (.istore 4, 2) := by decide +kernel
theorem dX4_pulled_16 : decode cX4_pulled 16 = .ok (.iload 4, 2) := by decide +kernel
theorem dX4_pulled_18 : decode cX4_pulled 18 = .ok (.bipush 12, 2) := by decide +kernel
theorem dX4_pulled_20 : decode cX4_pulled 20 = .ok (.if_icmp .ge 16, 3) := by decide +kernel
theorem dX4_pulled_23 : decode cX4_pulled 23 = .ok (.aload_n 0, 1) := by decide +kernel
theorem dX4_pulled_24 : decode cX4_pulled 24 = .ok (.iload_n 1, 1) := by decide +kernel
theorem dX4_pulled_25 : decode cX4_pulled 25 = .ok (.iload_n 3, 1) := by decide +kernel
theorem dX4_pulled_26 : decode cX4_pulled 26 = .ok (.invokevirtual 130, 3) := by decide +kernel
theorem dX4_pulled_29 : decode cX4_pulled 29 = .ok (.istore_n 3, 1) := by decide +kernel
theorem dX4_pulled_30 : decode cX4_pulled 30 = .ok (.iinc 4 1, 3) := by decide +kernel
theorem dX4_pulled_33 : decode cX4_pulled 33 = .ok (.goto (-17), 3) := by decide +kernel
theorem dX4_pulled_36 : decode cX4_pulled 36 = .ok (.iload_n 3, 1) := by decide +kernel
theorem dX4_pulled_37 : decode cX4_pulled 37 = .ok (.ireturn, 1) := by decide +kernel
theorem dX4_steps_0 : decode cX4_steps 0 = .ok (.aload_n 0, 1) := by decide +kernel
theorem dX4_steps_1 : decode cX4_steps 1 = .ok (.iload_n 1, 1) := by decide +kernel
theorem dX4_steps_2 : decode cX4_steps 2 = .ok (.iload_n 2, 1) := by decide +kernel
theorem dX4_steps_3 : decode cX4_steps 3 = .ok (.invokevirtual 127, 3) := by decide +kernel
theorem dX4_steps_6 : decode cX4_steps 6 = .ok (.ifCond .eq 11, 3) := by decide +kernel
theorem dX4_steps_9 : decode cX4_steps 9 = .ok (.aload_n 0, 1) := by decide +kernel
theorem dX4_steps_10 : decode cX4_steps 10 = .ok (.iload_n 3, 1) := by decide +kernel
theorem dX4_steps_11 : decode cX4_steps 11 = .ok (.invokevirtual 57, 3) := by decide +kernel
theorem dX4_steps_14 : decode cX4_steps 14 = .ok (.ifCond .ne 5, 3) := by decide +kernel
theorem dX4_steps_17 : decode cX4_steps 17 = .ok (.iconst (-1), 1) := by decide +kernel
theorem dX4_steps_18 : decode cX4_steps 18 = .ok (.ireturn, 1) := by decide +kernel
theorem dX4_steps_19 : decode cX4_steps 19 = .ok (.iload_n 2, 1) := by decide +kernel
theorem dX4_steps_20 : decode cX4_steps 20 = .ok (.istore 4, 2) := by decide +kernel
theorem dX4_steps_22 : decode cX4_steps 22 = .ok (.iconst 0, 1) := by decide +kernel
theorem dX4_steps_23 : decode cX4_steps 23 = .ok (.istore 5, 2) := by decide +kernel
theorem dX4_steps_25 : decode cX4_steps 25 = .ok (.iload 5, 2) := by decide +kernel
theorem dX4_steps_27 : decode cX4_steps 27 = .ok (.bipush 12, 2) := by decide +kernel
theorem dX4_steps_29 : decode cX4_steps 29 = .ok (.if_icmp .gt 31, 3) := by decide +kernel
theorem dX4_steps_32 : decode cX4_steps 32 = .ok (.iload 4, 2) := by decide +kernel
theorem dX4_steps_34 : decode cX4_steps 34 = .ok (.iload_n 3, 1) := by decide +kernel
theorem dX4_steps_35 : decode cX4_steps 35 = .ok (.ishr, 1) := by decide +kernel
theorem dX4_steps_36 : decode cX4_steps 36 = .ok (.iconst 1, 1) := by decide +kernel
theorem dX4_steps_37 : decode cX4_steps 37 = .ok (.iand, 1) := by decide +kernel
theorem dX4_steps_38 : decode cX4_steps 38 = .ok (.iconst 1, 1) := by decide +kernel
theorem dX4_steps_39 : decode cX4_steps 39 = .ok (.if_icmp .ne 6, 3) := by decide +kernel
theorem dX4_steps_42 : decode cX4_steps 42 = .ok (.iload 5, 2) := by decide +kernel
theorem dX4_steps_44 : decode cX4_steps 44 = .ok (.ireturn, 1) := by decide +kernel
theorem dX4_steps_45 : decode cX4_steps 45 = .ok (.aload_n 0, 1) := by decide +kernel
theorem dX4_steps_46 : decode cX4_steps 46 = .ok (.iload_n 1, 1) := by decide +kernel
theorem dX4_steps_47 : decode cX4_steps 47 = .ok (.iload 4, 2) := by decide +kernel
theorem dX4_steps_49 : decode cX4_steps 49 = .ok (.invokevirtual 130, 3) := by decide +kernel
theorem dX4_steps_52 : decode cX4_steps 52 = .ok (.istore 4, 2) := by decide +kernel
theorem dX4_steps_54 : decode cX4_steps 54 = .ok (.iinc 5 1, 3) := by decide +kernel
theorem dX4_steps_57 : decode cX4_steps 57 = .ok (.goto (-32), 3) := by decide +kernel
theorem dX4_steps_60 : decode cX4_steps 60 = .ok (.bipush (-4), 2) := by decide +kernel
theorem dX4_steps_62 : decode cX4_steps 62 = .ok (.ireturn, 1) := by decide +kernel
theorem dX4_holding_0 : decode cX4_holding 0 = .ok (.iconst 0, 1) := by decide +kernel
theorem dX4_holding_1 : decode cX4_holding 1 = .ok (.istore_n 3, 1) := by decide +kernel
theorem dX4_holding_2 : decode cX4_holding 2 = .ok (.iconst 0, 1) := by decide +kernel
theorem dX4_holding_3 : decode cX4_holding 3 = .ok (.istore 4, 2) := by decide +kernel
theorem dX4_holding_5 : decode cX4_holding 5 = .ok (.iload 4, 2) := by decide +kernel
theorem dX4_holding_7 : decode cX4_holding 7 = .ok (.aload_n 0, 1) := by decide +kernel
theorem dX4_holding_8 : decode cX4_holding 8 = .ok (.getfield 7, 3) := by decide +kernel
theorem dX4_holding_11 : decode cX4_holding 11 = .ok (.iconst 0, 1) := by decide +kernel
theorem dX4_holding_12 : decode cX4_holding 12 = .ok (.iaload, 1) := by decide +kernel
theorem dX4_holding_13 : decode cX4_holding 13 = .ok (.if_icmp .ge 96, 3) := by decide +kernel
theorem dX4_holding_16 : decode cX4_holding 16 = .ok (.aload_n 0, 1) := by decide +kernel
theorem dX4_holding_17 : decode cX4_holding 17 = .ok (.getfield 7, 3) := by decide +kernel
theorem dX4_holding_20 : decode cX4_holding 20 = .ok (.bipush 25, 2) := by decide +kernel
theorem dX4_holding_22 : decode cX4_holding 22 = .ok (.iload 4, 2) := by decide +kernel
theorem dX4_holding_24 : decode cX4_holding 24 = .ok (.iadd, 1) := by decide +kernel
theorem dX4_holding_25 : decode cX4_holding 25 = .ok (.iaload, 1) := by decide +kernel
theorem dX4_holding_26 : decode cX4_holding 26 = .ok (.istore 5, 2) := by decide +kernel
theorem dX4_holding_28 : decode cX4_holding 28 = .ok (.aload_n 0, 1) := by decide +kernel
theorem dX4_holding_29 : decode cX4_holding 29 = .ok (.getfield 7, 3) := by decide +kernel
theorem dX4_holding_32 : decode cX4_holding 32 = .ok (.iconst 1, 1) := by decide +kernel
theorem dX4_holding_33 : decode cX4_holding 33 = .ok (.iload 4, 2) := by decide +kernel
theorem dX4_holding_35 : decode cX4_holding 35 = .ok (.iadd, 1) := by decide +kernel
theorem dX4_holding_36 : decode cX4_holding 36 = .ok (.iaload, 1) := by decide +kernel
theorem dX4_holding_37 : decode cX4_holding 37 = .ok (.iload_n 1, 1) := by decide +kernel
theorem dX4_holding_38 : decode cX4_holding 38 = .ok (.if_icmp .ne 20, 3) := by decide +kernel
theorem dX4_holding_41 : decode cX4_holding 41 = .ok (.iload 5, 2) := by decide +kernel
theorem dX4_holding_43 : decode cX4_holding 43 = .ok (.iload_n 2, 1) := by decide +kernel
theorem dX4_holding_44 : decode cX4_holding 44 = .ok (.iconst (-1), 1) := by decide +kernel
theorem dX4_holding_45 : decode cX4_holding 45 = .ok (.ixor, 1) := by decide +kernel
theorem dX4_holding_46 : decode cX4_holding 46 = .ok (.iand, 1) := by decide +kernel
theorem dX4_holding_47 : decode cX4_holding 47 = .ok (.ifCond .ne 7, 3) := by decide +kernel
theorem dX4_holding_50 : decode cX4_holding 50 = .ok (.iconst 1, 1) := by decide +kernel
theorem dX4_holding_51 : decode cX4_holding 51 = .ok (.goto 24, 3) := by decide +kernel
theorem dX4_holding_54 : decode cX4_holding 54 = .ok (.iconst 0, 1) := by decide +kernel
theorem dX4_holding_55 : decode cX4_holding 55 = .ok (.goto 20, 3) := by decide +kernel
theorem dX4_holding_58 : decode cX4_holding 58 = .ok (.iload 5, 2) := by decide +kernel
theorem dX4_holding_60 : decode cX4_holding 60 = .ok (.ifCond .eq 10, 3) := by decide +kernel
theorem dX4_holding_63 : decode cX4_holding 63 = .ok (.iload 5, 2) := by decide +kernel
theorem dX4_holding_65 : decode cX4_holding 65 = .ok (.iload_n 2, 1) := by decide +kernel
theorem dX4_holding_66 : decode cX4_holding 66 = .ok (.iand, 1) := by decide +kernel
theorem dX4_holding_67 : decode cX4_holding 67 = .ok (.ifCond .eq 7, 3) := by decide +kernel
theorem dX4_holding_70 : decode cX4_holding 70 = .ok (.iconst 1, 1) := by decide +kernel
theorem dX4_holding_71 : decode cX4_holding 71 = .ok (.goto 4, 3) := by decide +kernel
theorem dX4_holding_74 : decode cX4_holding 74 = .ok (.iconst 0, 1) := by decide +kernel
theorem dX4_holding_75 : decode cX4_holding 75 = .ok (.istore 6, 2) := by decide +kernel
theorem dX4_holding_77 : decode cX4_holding 77 = .ok (.iload_n 3, 1) := by decide +kernel
theorem dX4_holding_78 : decode cX4_holding 78 = .ok (.iload_n 2, 1) := by decide +kernel
theorem dX4_holding_79 : decode cX4_holding 79 = .ok (.iload 4, 2) := by decide +kernel
theorem dX4_holding_81 : decode cX4_holding 81 = .ok (.ishr, 1) := by decide +kernel
theorem dX4_holding_82 : decode cX4_holding 82 = .ok (.iconst 1, 1) := by decide +kernel
theorem dX4_holding_83 : decode cX4_holding 83 = .ok (.iand, 1) := by decide +kernel
theorem dX4_holding_84 : decode cX4_holding 84 = .ok (.iconst 1, 1) := by decide +kernel
theorem dX4_holding_85 : decode cX4_holding 85 = .ok (.if_icmp .ne 15, 3) := by decide +kernel
theorem dX4_holding_88 : decode cX4_holding 88 = .ok (.iload 6, 2) := by decide +kernel
theorem dX4_holding_90 : decode cX4_holding 90 = .ok (.ifCond .eq 10, 3) := by decide +kernel
theorem dX4_holding_93 : decode cX4_holding 93 = .ok (.iconst 1, 1) := by decide +kernel
theorem dX4_holding_94 : decode cX4_holding 94 = .ok (.iload 4, 2) := by decide +kernel
theorem dX4_holding_96 : decode cX4_holding 96 = .ok (.ishl, 1) := by decide +kernel
theorem dX4_holding_97 : decode cX4_holding 97 = .ok (.goto 4, 3) := by decide +kernel
theorem dX4_holding_100 : decode cX4_holding 100 = .ok (.iconst 0, 1) := by decide +kernel
theorem dX4_holding_101 : decode cX4_holding 101 = .ok (.ior, 1) := by decide +kernel
theorem dX4_holding_102 : decode cX4_holding 102 = .ok (.istore_n 3, 1) := by decide +kernel
theorem dX4_holding_103 : decode cX4_holding 103 = .ok (.iinc 4 1, 3) := by decide +kernel
theorem dX4_holding_106 : decode cX4_holding 106 = .ok (.goto (-101), 3) := by decide +kernel
theorem dX4_holding_109 : decode cX4_holding 109 = .ok (.iload_n 3, 1) := by decide +kernel
theorem dX4_holding_110 : decode cX4_holding 110 = .ok (.ireturn, 1) := by decide +kernel
theorem dX4_trap_0 : decode cX4_trap 0 = .ok (.aload_n 0, 1) := by decide +kernel
theorem dX4_trap_1 : decode cX4_trap 1 = .ok (.iload_n 1, 1) := by decide +kernel
theorem dX4_trap_2 : decode cX4_trap 2 = .ok (.iload_n 2, 1) := by decide +kernel
theorem dX4_trap_3 : decode cX4_trap 3 = .ok (.invokevirtual 127, 3) := by decide +kernel
theorem dX4_trap_6 : decode cX4_trap 6 = .ok (.ifCond .ne 5, 3) := by decide +kernel
theorem dX4_trap_9 : decode cX4_trap 9 = .ok (.iconst (-1), 1) := by decide +kernel
theorem dX4_trap_10 : decode cX4_trap 10 = .ok (.ireturn, 1) := by decide +kernel
theorem dX4_trap_11 : decode cX4_trap 11 = .ok (.aload_n 0, 1) := by decide +kernel
theorem dX4_trap_12 : decode cX4_trap 12 = .ok (.iload_n 1, 1) := by decide +kernel
theorem dX4_trap_13 : decode cX4_trap 13 = .ok (.iload_n 2, 1) := by decide +kernel
theorem dX4_trap_14 : decode cX4_trap 14 = .ok (.invokevirtual 133, 3) := by decide +kernel
theorem dX4_trap_17 : decode cX4_trap 17 = .ok (.iload_n 2, 1) := by decide +kernel
theorem dX4_trap_18 : decode cX4_trap 18 = .ok (.if_icmp .ne 7, 3) := by decide +kernel
theorem dX4_trap_21 : decode cX4_trap 21 = .ok (.iconst 1, 1) := by decide +kernel
theorem dX4_trap_22 : decode cX4_trap 22 = .ok (.goto 4, 3) := by decide +kernel
theorem dX4_trap_25 : decode cX4_trap 25 = .ok (.iconst 0, 1) := by decide +kernel
theorem dX4_trap_26 : decode cX4_trap 26 = .ok (.ireturn, 1) := by decide +kernel
theorem dX4_greatestTrap_0 : decode cX4_greatestTrap 0 = .ok (.aload_n 0, 1) := by decide +kernel
theorem dX4_greatestTrap_1 : decode cX4_greatestTrap 1 = .ok (.iload_n 1, 1) := by decide +kernel
theorem dX4_greatestTrap_2 : decode cX4_greatestTrap 2 = .ok (.iload_n 2, 1) := by decide +kernel
theorem dX4_greatestTrap_3 : decode cX4_greatestTrap 3 = .ok (.invokevirtual 127, 3) := by decide +kernel
theorem dX4_greatestTrap_6 : decode cX4_greatestTrap 6 = .ok (.ifCond .ne 5, 3) := by decide +kernel
theorem dX4_greatestTrap_9 : decode cX4_greatestTrap 9 = .ok (.iconst (-1), 1) := by decide +kernel
theorem dX4_greatestTrap_10 : decode cX4_greatestTrap 10 = .ok (.ireturn, 1) := by decide +kernel
theorem dX4_greatestTrap_11 : decode cX4_greatestTrap 11 = .ok (.iload_n 2, 1) := by decide +kernel
theorem dX4_greatestTrap_12 : decode cX4_greatestTrap 12 = .ok (.istore_n 3, 1) := by decide +kernel
theorem dX4_greatestTrap_13 : decode cX4_greatestTrap 13 = .ok (.iconst 0, 1) := by decide +kernel
theorem dX4_greatestTrap_14 : decode cX4_greatestTrap 14 = .ok (.istore 4, 2) := by decide +kernel
theorem dX4_greatestTrap_16 : decode cX4_greatestTrap 16 = .ok (.iload 4, 2) := by decide +kernel
theorem dX4_greatestTrap_18 : decode cX4_greatestTrap 18 = .ok (.bipush 12, 2) := by decide +kernel
theorem dX4_greatestTrap_20 : decode cX4_greatestTrap 20 = .ok (.if_icmp .ge 16, 3) := by decide +kernel
theorem dX4_greatestTrap_23 : decode cX4_greatestTrap 23 = .ok (.aload_n 0, 1) := by decide +kernel
theorem dX4_greatestTrap_24 : decode cX4_greatestTrap 24 = .ok (.iload_n 1, 1) := by decide +kernel
theorem dX4_greatestTrap_25 : decode cX4_greatestTrap 25 = .ok (.iload_n 3, 1) := by decide +kernel
theorem dX4_greatestTrap_26 : decode cX4_greatestTrap 26 = .ok (.invokevirtual 133, 3) := by decide +kernel
theorem dX4_greatestTrap_29 : decode cX4_greatestTrap 29 = .ok (.istore_n 3, 1) := by decide +kernel
theorem dX4_greatestTrap_30 : decode cX4_greatestTrap 30 = .ok (.iinc 4 1, 3) := by decide +kernel
theorem dX4_greatestTrap_33 : decode cX4_greatestTrap 33 = .ok (.goto (-17), 3) := by decide +kernel
theorem dX4_greatestTrap_36 : decode cX4_greatestTrap 36 = .ok (.iload_n 3, 1) := by decide +kernel
theorem dX4_greatestTrap_37 : decode cX4_greatestTrap 37 = .ok (.ireturn, 1) := by decide +kernel
theorem dX4_play_0 : decode cX4_play 0 = .ok (.aload_n 0, 1) := by decide +kernel
theorem dX4_play_1 : decode cX4_play 1 = .ok (.iload_n 1, 1) := by decide +kernel
theorem dX4_play_2 : decode cX4_play 2 = .ok (.invokevirtual 57, 3) := by decide +kernel
theorem dX4_play_5 : decode cX4_play 5 = .ok (.ifCond .eq 12, 3) := by decide +kernel
theorem dX4_play_8 : decode cX4_play 8 = .ok (.iload_n 2, 1) := by decide +kernel
theorem dX4_play_9 : decode cX4_play 9 = .ok (.iconst 0, 1) := by decide +kernel
theorem dX4_play_10 : decode cX4_play 10 = .ok (.iconst 3, 1) := by decide +kernel
theorem dX4_play_11 : decode cX4_play 11 = .ok (.invokestatic 50, 3) := by decide +kernel
theorem dX4_play_14 : decode cX4_play 14 = .ok (.ifCond .ne 5, 3) := by decide +kernel
theorem dX4_play_17 : decode cX4_play 17 = .ok (.iconst (-1), 1) := by decide +kernel
theorem dX4_play_18 : decode cX4_play 18 = .ok (.ireturn, 1) := by decide +kernel
theorem dX4_play_19 : decode cX4_play 19 = .ok (.aload_n 0, 1) := by decide +kernel
theorem dX4_play_20 : decode cX4_play 20 = .ok (.invokevirtual 99, 3) := by decide +kernel
theorem dX4_play_23 : decode cX4_play 23 = .ok (.istore_n 3, 1) := by decide +kernel
theorem dX4_play_24 : decode cX4_play 24 = .ok (.iconst 0, 1) := by decide +kernel
theorem dX4_play_25 : decode cX4_play 25 = .ok (.istore 4, 2) := by decide +kernel
theorem dX4_play_27 : decode cX4_play 27 = .ok (.iload_n 1, 1) := by decide +kernel
theorem dX4_play_28 : decode cX4_play 28 = .ok (.istore 5, 2) := by decide +kernel
theorem dX4_play_30 : decode cX4_play 30 = .ok (.iload_n 1, 1) := by decide +kernel
theorem dX4_play_31 : decode cX4_play 31 = .ok (.istore 6, 2) := by decide +kernel
theorem dX4_play_33 : decode cX4_play 33 = .ok (.iload 6, 2) := by decide +kernel
theorem dX4_play_35 : decode cX4_play 35 = .ok (.ifCond .lt 38, 3) := by decide +kernel
theorem dX4_play_38 : decode cX4_play 38 = .ok (.iload 4, 2) := by decide +kernel
theorem dX4_play_40 : decode cX4_play 40 = .ok (.iload 6, 2) := by decide +kernel
theorem dX4_play_42 : decode cX4_play 42 = .ok (.ishr, 1) := by decide +kernel
theorem dX4_play_43 : decode cX4_play 43 = .ok (.iconst 1, 1) := by decide +kernel
theorem dX4_play_44 : decode cX4_play 44 = .ok (.iand, 1) := by decide +kernel
theorem dX4_play_45 : decode cX4_play 45 = .ok (.ifCond .ne 28, 3) := by decide +kernel
theorem dX4_play_48 : decode cX4_play 48 = .ok (.iload 4, 2) := by decide +kernel
theorem dX4_play_50 : decode cX4_play 50 = .ok (.iconst 1, 1) := by decide +kernel
theorem dX4_play_51 : decode cX4_play 51 = .ok (.iload 6, 2) := by decide +kernel
theorem dX4_play_53 : decode cX4_play 53 = .ok (.ishl, 1) := by decide +kernel
theorem dX4_play_54 : decode cX4_play 54 = .ok (.ior, 1) := by decide +kernel
theorem dX4_play_55 : decode cX4_play 55 = .ok (.istore 4, 2) := by decide +kernel
theorem dX4_play_57 : decode cX4_play 57 = .ok (.iload 6, 2) := by decide +kernel
theorem dX4_play_59 : decode cX4_play 59 = .ok (.istore 5, 2) := by decide +kernel
theorem dX4_play_61 : decode cX4_play 61 = .ok (.aload_n 0, 1) := by decide +kernel
theorem dX4_play_62 : decode cX4_play 62 = .ok (.getfield 25, 3) := by decide +kernel
theorem dX4_play_65 : decode cX4_play 65 = .ok (.iload 6, 2) := by decide +kernel
theorem dX4_play_67 : decode cX4_play 67 = .ok (.iaload, 1) := by decide +kernel
theorem dX4_play_68 : decode cX4_play 68 = .ok (.istore 6, 2) := by decide +kernel
theorem dX4_play_70 : decode cX4_play 70 = .ok (.goto (-37), 3) := by decide +kernel
theorem dX4_play_73 : decode cX4_play 73 = .ok (.iload_n 2, 1) := by decide +kernel
theorem dX4_play_74 : decode cX4_play 74 = .ok (.ifCond .eq 7, 3) := by decide +kernel
theorem dX4_play_77 : decode cX4_play 77 = .ok (.iload_n 3, 1) := by decide +kernel
theorem dX4_play_78 : decode cX4_play 78 = .ok (.ifCond .ge 9, 3) := by decide +kernel
theorem dX4_play_81 : decode cX4_play 81 = .ok (.iload 4, 2) := by decide +kernel
theorem dX4_play_83 : decode cX4_play 83 = .ok (.invokestatic 65, 3) := by decide +kernel
theorem dX4_play_86 : decode cX4_play 86 = .ok (.ireturn, 1) := by decide +kernel
theorem dX4_play_87 : decode cX4_play 87 = .ok (.iload 6, 2) := by decide +kernel
theorem dX4_play_89 : decode cX4_play 89 = .ok (.ifCond .ge 25, 3) := by decide +kernel
theorem dX4_play_92 : decode cX4_play 92 = .ok (.iload_n 2, 1) := by decide +kernel
theorem dX4_play_93 : decode cX4_play 93 = .ok (.iconst 3, 1) := by decide +kernel
theorem dX4_play_94 : decode cX4_play 94 = .ok (.if_icmp .ne 17, 3) := by decide +kernel
theorem dX4_play_97 : decode cX4_play 97 = .ok (.iconst 1, 1) := by decide +kernel
theorem dX4_play_98 : decode cX4_play 98 = .ok (.aload_n 0, 1) := by decide +kernel
theorem dX4_play_99 : decode cX4_play 99 = .ok (.getfield 7, 3) := by decide +kernel
theorem dX4_play_102 : decode cX4_play 102 = .ok (.iconst 1, 1) := by decide +kernel
theorem dX4_play_103 : decode cX4_play 103 = .ok (.iload 5, 2) := by decide +kernel
theorem dX4_play_105 : decode cX4_play 105 = .ok (.iadd, 1) := by decide +kernel
theorem dX4_play_106 : decode cX4_play 106 = .ok (.iaload, 1) := by decide +kernel
theorem dX4_play_107 : decode cX4_play 107 = .ok (.isub, 1) := by decide +kernel
theorem dX4_play_108 : decode cX4_play 108 = .ok (.goto 5, 3) := by decide +kernel
theorem dX4_play_111 : decode cX4_play 111 = .ok (.bipush (-4), 2) := by decide +kernel
theorem dX4_play_113 : decode cX4_play 113 = .ok (.ireturn, 1) := by decide +kernel
theorem dX4_play_114 : decode cX4_play 114 = .ok (.iconst 0, 1) := by decide +kernel
theorem dX4_play_115 : decode cX4_play 115 = .ok (.istore 7, 2) := by decide +kernel
theorem dX4_play_117 : decode cX4_play 117 = .ok (.iload 6, 2) := by decide +kernel
theorem dX4_play_119 : decode cX4_play 119 = .ok (.istore 8, 2) := by decide +kernel
theorem dX4_play_121 : decode cX4_play 121 = .ok (.iconst 0, 1) := by decide +kernel
theorem dX4_play_122 : decode cX4_play 122 = .ok (.istore 9, 2) := by decide +kernel
theorem dX4_play_124 : decode cX4_play 124 = .ok (.iload 9, 2) := by decide +kernel
theorem dX4_play_126 : decode cX4_play 126 = .ok (.bipush 12, 2) := by decide +kernel
theorem dX4_play_128 : decode cX4_play 128 = .ok (.if_icmp .ge 50, 3) := by decide +kernel
theorem dX4_play_131 : decode cX4_play 131 = .ok (.aload_n 0, 1) := by decide +kernel
theorem dX4_play_132 : decode cX4_play 132 = .ok (.getfield 7, 3) := by decide +kernel
theorem dX4_play_135 : decode cX4_play 135 = .ok (.bipush 13, 2) := by decide +kernel
theorem dX4_play_137 : decode cX4_play 137 = .ok (.iload 8, 2) := by decide +kernel
theorem dX4_play_139 : decode cX4_play 139 = .ok (.iadd, 1) := by decide +kernel
theorem dX4_play_140 : decode cX4_play 140 = .ok (.iaload, 1) := by decide +kernel
theorem dX4_play_141 : decode cX4_play 141 = .ok (.iload 7, 2) := by decide +kernel
theorem dX4_play_143 : decode cX4_play 143 = .ok (.if_icmp .le 16, 3) := by decide +kernel
theorem dX4_play_146 : decode cX4_play 146 = .ok (.aload_n 0, 1) := by decide +kernel
theorem dX4_play_147 : decode cX4_play 147 = .ok (.getfield 7, 3) := by decide +kernel
theorem dX4_play_150 : decode cX4_play 150 = .ok (.bipush 13, 2) := by decide +kernel
theorem dX4_play_152 : decode cX4_play 152 = .ok (.iload 8, 2) := by decide +kernel
theorem dX4_play_154 : decode cX4_play 154 = .ok (.iadd, 1) := by decide +kernel
theorem dX4_play_155 : decode cX4_play 155 = .ok (.iaload, 1) := by decide +kernel
theorem dX4_play_156 : decode cX4_play 156 = .ok (.goto 5, 3) := by decide +kernel
theorem dX4_play_159 : decode cX4_play 159 = .ok (.iload 7, 2) := by decide +kernel
theorem dX4_play_161 : decode cX4_play 161 = .ok (.istore 7, 2) := by decide +kernel
theorem dX4_play_163 : decode cX4_play 163 = .ok (.aload_n 0, 1) := by decide +kernel
theorem dX4_play_164 : decode cX4_play 164 = .ok (.getfield 25, 3) := by decide +kernel
theorem dX4_play_167 : decode cX4_play 167 = .ok (.iload 8, 2) := by decide +kernel
theorem dX4_play_169 : decode cX4_play 169 = .ok (.iaload, 1) := by decide +kernel
theorem dX4_play_170 : decode cX4_play 170 = .ok (.istore 8, 2) := by decide +kernel
theorem dX4_play_172 : decode cX4_play 172 = .ok (.iinc 9 1, 3) := by decide +kernel
theorem dX4_play_175 : decode cX4_play 175 = .ok (.goto (-51), 3) := by decide +kernel
theorem dX4_play_178 : decode cX4_play 178 = .ok (.iload_n 2, 1) := by decide +kernel
theorem dX4_play_179 : decode cX4_play 179 = .ok (.iconst 1, 1) := by decide +kernel
theorem dX4_play_180 : decode cX4_play 180 = .ok (.if_icmp .ne 8, 3) := by decide +kernel
theorem dX4_play_183 : decode cX4_play 183 = .ok (.iload 6, 2) := by decide +kernel
theorem dX4_play_185 : decode cX4_play 185 = .ok (.goto 17, 3) := by decide +kernel
theorem dX4_play_188 : decode cX4_play 188 = .ok (.iload_n 2, 1) := by decide +kernel
theorem dX4_play_189 : decode cX4_play 189 = .ok (.iconst 2, 1) := by decide +kernel
theorem dX4_play_190 : decode cX4_play 190 = .ok (.if_icmp .ne 8, 3) := by decide +kernel
theorem dX4_play_193 : decode cX4_play 193 = .ok (.iload 7, 2) := by decide +kernel
theorem dX4_play_195 : decode cX4_play 195 = .ok (.goto 7, 3) := by decide +kernel
theorem dX4_play_198 : decode cX4_play 198 = .ok (.iload 7, 2) := by decide +kernel
theorem dX4_play_200 : decode cX4_play 200 = .ok (.iconst 2, 1) := by decide +kernel
theorem dX4_play_201 : decode cX4_play 201 = .ok (.irem, 1) := by decide +kernel
theorem dX4_play_202 : decode cX4_play 202 = .ok (.ireturn, 1) := by decide +kernel
theorem dX4_proves_0 : decode cX4_proves 0 = .ok (.iload_n 1, 1) := by decide +kernel
theorem dX4_proves_1 : decode cX4_proves 1 = .ok (.iconst 0, 1) := by decide +kernel
theorem dX4_proves_2 : decode cX4_proves 2 = .ok (.iconst 1, 1) := by decide +kernel
theorem dX4_proves_3 : decode cX4_proves 3 = .ok (.invokestatic 50, 3) := by decide +kernel
theorem dX4_proves_6 : decode cX4_proves 6 = .ok (.ifCond .ne 5, 3) := by decide +kernel
theorem dX4_proves_9 : decode cX4_proves 9 = .ok (.iconst (-1), 1) := by decide +kernel
theorem dX4_proves_10 : decode cX4_proves 10 = .ok (.ireturn, 1) := by decide +kernel
theorem dX4_proves_11 : decode cX4_proves 11 = .ok (.aload_n 0, 1) := by decide +kernel
theorem dX4_proves_12 : decode cX4_proves 12 = .ok (.invokevirtual 99, 3) := by decide +kernel
theorem dX4_proves_15 : decode cX4_proves 15 = .ok (.istore_n 2, 1) := by decide +kernel
theorem dX4_proves_16 : decode cX4_proves 16 = .ok (.iload_n 1, 1) := by decide +kernel
theorem dX4_proves_17 : decode cX4_proves 17 = .ok (.ifCond .ne 7, 3) := by decide +kernel
theorem dX4_proves_20 : decode cX4_proves 20 = .ok (.iload_n 2, 1) := by decide +kernel
theorem dX4_proves_21 : decode cX4_proves 21 = .ok (.goto 9, 3) := by decide +kernel
theorem dX4_proves_24 : decode cX4_proves 24 = .ok (.aload_n 0, 1) := by decide +kernel
theorem dX4_proves_25 : decode cX4_proves 25 = .ok (.invokevirtual 111, 3) := by decide +kernel
theorem dX4_proves_28 : decode cX4_proves 28 = .ok (.iload_n 2, 1) := by decide +kernel
theorem dX4_proves_29 : decode cX4_proves 29 = .ok (.isub, 1) := by decide +kernel
theorem dX4_proves_30 : decode cX4_proves 30 = .ok (.istore_n 3, 1) := by decide +kernel
theorem dX4_proves_31 : decode cX4_proves 31 = .ok (.iconst 1, 1) := by decide +kernel
theorem dX4_proves_32 : decode cX4_proves 32 = .ok (.istore 4, 2) := by decide +kernel
theorem dX4_proves_34 : decode cX4_proves 34 = .ok (.iconst 0, 1) := by decide +kernel
theorem dX4_proves_35 : decode cX4_proves 35 = .ok (.istore 5, 2) := by decide +kernel
theorem dX4_proves_37 : decode cX4_proves 37 = .ok (.iload 5, 2) := by decide +kernel
theorem dX4_proves_39 : decode cX4_proves 39 = .ok (.aload_n 0, 1) := by decide +kernel
theorem dX4_proves_40 : decode cX4_proves 40 = .ok (.getfield 7, 3) := by decide +kernel
theorem dX4_proves_43 : decode cX4_proves 43 = .ok (.iconst 0, 1) := by decide +kernel
theorem dX4_proves_44 : decode cX4_proves 44 = .ok (.iaload, 1) := by decide +kernel
theorem dX4_proves_45 : decode cX4_proves 45 = .ok (.if_icmp .ge 132, 3) := by decide +kernel
theorem dX4_proves_48 : decode cX4_proves 48 = .ok (.iload_n 3, 1) := by decide +kernel
theorem dX4_proves_49 : decode cX4_proves 49 = .ok (.iload 5, 2) := by decide +kernel
theorem dX4_proves_51 : decode cX4_proves 51 = .ok (.ishr, 1) := by decide +kernel
theorem dX4_proves_52 : decode cX4_proves 52 = .ok (.iconst 1, 1) := by decide +kernel
theorem dX4_proves_53 : decode cX4_proves 53 = .ok (.iand, 1) := by decide +kernel
theorem dX4_proves_54 : decode cX4_proves 54 = .ok (.iconst 1, 1) := by decide +kernel
theorem dX4_proves_55 : decode cX4_proves 55 = .ok (.if_icmp .ne 7, 3) := by decide +kernel
theorem dX4_proves_58 : decode cX4_proves 58 = .ok (.iconst 1, 1) := by decide +kernel
theorem dX4_proves_59 : decode cX4_proves 59 = .ok (.goto 4, 3) := by decide +kernel
theorem dX4_proves_62 : decode cX4_proves 62 = .ok (.iconst 0, 1) := by decide +kernel
theorem dX4_proves_63 : decode cX4_proves 63 = .ok (.istore 6, 2) := by decide +kernel
theorem dX4_proves_65 : decode cX4_proves 65 = .ok (.iload 6, 2) := by decide +kernel
theorem dX4_proves_67 : decode cX4_proves 67 = .ok (.ifCond .eq 20, 3) := by decide +kernel
theorem dX4_proves_70 : decode cX4_proves 70 = .ok (.aload_n 0, 1) := by decide +kernel
theorem dX4_proves_71 : decode cX4_proves 71 = .ok (.getfield 7, 3) := by decide +kernel
theorem dX4_proves_74 : decode cX4_proves 74 = .ok (.iconst 1, 1) := by decide +kernel
theorem dX4_proves_75 : decode cX4_proves 75 = .ok (.iload 5, 2) := by decide +kernel
theorem dX4_proves_77 : decode cX4_proves 77 = .ok (.iadd, 1) := by decide +kernel
theorem dX4_proves_78 : decode cX4_proves 78 = .ok (.iaload, 1) := by decide +kernel
theorem dX4_proves_79 : decode cX4_proves 79 = .ok (.iload_n 1, 1) := by decide +kernel
theorem dX4_proves_80 : decode cX4_proves 80 = .ok (.if_icmp .ne 7, 3) := by decide +kernel
theorem dX4_proves_83 : decode cX4_proves 83 = .ok (.iconst 1, 1) := by decide +kernel
theorem dX4_proves_84 : decode cX4_proves 84 = .ok (.goto 4, 3) := by decide +kernel
theorem dX4_proves_87 : decode cX4_proves 87 = .ok (.iconst 0, 1) := by decide +kernel
theorem dX4_proves_88 : decode cX4_proves 88 = .ok (.istore 7, 2) := by decide +kernel
theorem dX4_proves_90 : decode cX4_proves 90 = .ok (.aload_n 0, 1) := by decide +kernel
theorem dX4_proves_91 : decode cX4_proves 91 = .ok (.getfield 7, 3) := by decide +kernel
theorem dX4_proves_94 : decode cX4_proves 94 = .ok (.bipush 25, 2) := by decide +kernel
theorem dX4_proves_96 : decode cX4_proves 96 = .ok (.iload 5, 2) := by decide +kernel
theorem dX4_proves_98 : decode cX4_proves 98 = .ok (.iadd, 1) := by decide +kernel
theorem dX4_proves_99 : decode cX4_proves 99 = .ok (.iload 7, 2) := by decide +kernel
theorem dX4_proves_101 : decode cX4_proves 101 = .ok (.ifCond .eq 25, 3) := by decide +kernel
theorem dX4_proves_104 : decode cX4_proves 104 = .ok (.aload_n 0, 1) := by decide +kernel
theorem dX4_proves_105 : decode cX4_proves 105 = .ok (.getfield 25, 3) := by decide +kernel
theorem dX4_proves_108 : decode cX4_proves 108 = .ok (.iload 5, 2) := by decide +kernel
theorem dX4_proves_110 : decode cX4_proves 110 = .ok (.iaload, 1) := by decide +kernel
theorem dX4_proves_111 : decode cX4_proves 111 = .ok (.ifCond .lt 15, 3) := by decide +kernel
theorem dX4_proves_114 : decode cX4_proves 114 = .ok (.iconst 1, 1) := by decide +kernel
theorem dX4_proves_115 : decode cX4_proves 115 = .ok (.aload_n 0, 1) := by decide +kernel
theorem dX4_proves_116 : decode cX4_proves 116 = .ok (.getfield 25, 3) := by decide +kernel
theorem dX4_proves_119 : decode cX4_proves 119 = .ok (.iload 5, 2) := by decide +kernel
theorem dX4_proves_121 : decode cX4_proves 121 = .ok (.iaload, 1) := by decide +kernel
theorem dX4_proves_122 : decode cX4_proves 122 = .ok (.ishl, 1) := by decide +kernel
theorem dX4_proves_123 : decode cX4_proves 123 = .ok (.goto 13, 3) := by decide +kernel
theorem dX4_proves_126 : decode cX4_proves 126 = .ok (.aload_n 0, 1) := by decide +kernel
theorem dX4_proves_127 : decode cX4_proves 127 = .ok (.getfield 7, 3) := by decide +kernel
theorem dX4_proves_130 : decode cX4_proves 130 = .ok (.bipush 25, 2) := by decide +kernel
theorem dX4_proves_132 : decode cX4_proves 132 = .ok (.iload 5, 2) := by decide +kernel
theorem dX4_proves_134 : decode cX4_proves 134 = .ok (.iadd, 1) := by decide +kernel
theorem dX4_proves_135 : decode cX4_proves 135 = .ok (.iaload, 1) := by decide +kernel
theorem dX4_proves_136 : decode cX4_proves 136 = .ok (.iastore, 1) := by decide +kernel
theorem dX4_proves_137 : decode cX4_proves 137 = .ok (.iload 4, 2) := by decide +kernel
theorem dX4_proves_139 : decode cX4_proves 139 = .ok (.ifCond .eq 29, 3) := by decide +kernel
theorem dX4_proves_142 : decode cX4_proves 142 = .ok (.iload 6, 2) := by decide +kernel
theorem dX4_proves_144 : decode cX4_proves 144 = .ok (.ifCond .eq 20, 3) := by decide +kernel
theorem dX4_proves_147 : decode cX4_proves 147 = .ok (.aload_n 0, 1) := by decide +kernel
theorem dX4_proves_148 : decode cX4_proves 148 = .ok (.getfield 7, 3) := by decide +kernel
theorem dX4_proves_151 : decode cX4_proves 151 = .ok (.bipush 25, 2) := by decide +kernel
theorem dX4_proves_153 : decode cX4_proves 153 = .ok (.iload 5, 2) := by decide +kernel
theorem dX4_proves_155 : decode cX4_proves 155 = .ok (.iadd, 1) := by decide +kernel
theorem dX4_proves_156 : decode cX4_proves 156 = .ok (.iaload, 1) := by decide +kernel
theorem dX4_proves_157 : decode cX4_proves 157 = .ok (.iload_n 3, 1) := by decide +kernel
theorem dX4_proves_158 : decode cX4_proves 158 = .ok (.iconst (-1), 1) := by decide +kernel
theorem dX4_proves_159 : decode cX4_proves 159 = .ok (.ixor, 1) := by decide +kernel
theorem dX4_proves_160 : decode cX4_proves 160 = .ok (.iand, 1) := by decide +kernel
theorem dX4_proves_161 : decode cX4_proves 161 = .ok (.ifCond .ne 7, 3) := by decide +kernel
theorem dX4_proves_164 : decode cX4_proves 164 = .ok (.iconst 1, 1) := by decide +kernel
theorem dX4_proves_165 : decode cX4_proves 165 = .ok (.goto 4, 3) := by decide +kernel
theorem dX4_proves_168 : decode cX4_proves 168 = .ok (.iconst 0, 1) := by decide +kernel
theorem dX4_proves_169 : decode cX4_proves 169 = .ok (.istore 4, 2) := by decide +kernel
theorem dX4_proves_171 : decode cX4_proves 171 = .ok (.iinc 5 1, 3) := by decide +kernel
theorem dX4_proves_174 : decode cX4_proves 174 = .ok (.goto (-137), 3) := by decide +kernel
theorem dX4_proves_177 : decode cX4_proves 177 = .ok (.aload_n 0, 1) := by decide +kernel
theorem dX4_proves_178 : decode cX4_proves 178 = .ok (.invokevirtual 89, 3) := by decide +kernel
theorem dX4_proves_181 : decode cX4_proves 181 = .ok (.istore 5, 2) := by decide +kernel
theorem dX4_proves_183 : decode cX4_proves 183 = .ok (.iload_n 1, 1) := by decide +kernel
theorem dX4_proves_184 : decode cX4_proves 184 = .ok (.ifCond .ne 8, 3) := by decide +kernel
theorem dX4_proves_187 : decode cX4_proves 187 = .ok (.iload 5, 2) := by decide +kernel
theorem dX4_proves_189 : decode cX4_proves 189 = .ok (.goto 10, 3) := by decide +kernel
theorem dX4_proves_192 : decode cX4_proves 192 = .ok (.aload_n 0, 1) := by decide +kernel
theorem dX4_proves_193 : decode cX4_proves 193 = .ok (.invokevirtual 111, 3) := by decide +kernel
theorem dX4_proves_196 : decode cX4_proves 196 = .ok (.iload 5, 2) := by decide +kernel
theorem dX4_proves_198 : decode cX4_proves 198 = .ok (.isub, 1) := by decide +kernel
theorem dX4_proves_199 : decode cX4_proves 199 = .ok (.istore 6, 2) := by decide +kernel
theorem dX4_proves_201 : decode cX4_proves 201 = .ok (.iconst 0, 1) := by decide +kernel
theorem dX4_proves_202 : decode cX4_proves 202 = .ok (.istore 7, 2) := by decide +kernel
theorem dX4_proves_204 : decode cX4_proves 204 = .ok (.iload 7, 2) := by decide +kernel
theorem dX4_proves_206 : decode cX4_proves 206 = .ok (.aload_n 0, 1) := by decide +kernel
theorem dX4_proves_207 : decode cX4_proves 207 = .ok (.getfield 7, 3) := by decide +kernel
theorem dX4_proves_210 : decode cX4_proves 210 = .ok (.iconst 0, 1) := by decide +kernel
theorem dX4_proves_211 : decode cX4_proves 211 = .ok (.iaload, 1) := by decide +kernel
theorem dX4_proves_212 : decode cX4_proves 212 = .ok (.if_icmp .ge 26, 3) := by decide +kernel
theorem dX4_proves_215 : decode cX4_proves 215 = .ok (.aload_n 0, 1) := by decide +kernel
theorem dX4_proves_216 : decode cX4_proves 216 = .ok (.getfield 7, 3) := by decide +kernel
theorem dX4_proves_219 : decode cX4_proves 219 = .ok (.bipush 25, 2) := by decide +kernel
theorem dX4_proves_221 : decode cX4_proves 221 = .ok (.iload 7, 2) := by decide +kernel
theorem dX4_proves_223 : decode cX4_proves 223 = .ok (.iadd, 1) := by decide +kernel
theorem dX4_proves_224 : decode cX4_proves 224 = .ok (.aload_n 0, 1) := by decide +kernel
theorem dX4_proves_225 : decode cX4_proves 225 = .ok (.getfield 28, 3) := by decide +kernel
theorem dX4_proves_228 : decode cX4_proves 228 = .ok (.iload 7, 2) := by decide +kernel
theorem dX4_proves_230 : decode cX4_proves 230 = .ok (.iaload, 1) := by decide +kernel
theorem dX4_proves_231 : decode cX4_proves 231 = .ok (.iastore, 1) := by decide +kernel
theorem dX4_proves_232 : decode cX4_proves 232 = .ok (.iinc 7 1, 3) := by decide +kernel
theorem dX4_proves_235 : decode cX4_proves 235 = .ok (.goto (-31), 3) := by decide +kernel
theorem dX4_proves_238 : decode cX4_proves 238 = .ok (.iload 4, 2) := by decide +kernel
theorem dX4_proves_240 : decode cX4_proves 240 = .ok (.ifCond .eq 16, 3) := by decide +kernel
theorem dX4_proves_243 : decode cX4_proves 243 = .ok (.iload_n 3, 1) := by decide +kernel
theorem dX4_proves_244 : decode cX4_proves 244 = .ok (.iload 6, 2) := by decide +kernel
theorem dX4_proves_246 : decode cX4_proves 246 = .ok (.iconst (-1), 1) := by decide +kernel
theorem dX4_proves_247 : decode cX4_proves 247 = .ok (.ixor, 1) := by decide +kernel
theorem dX4_proves_248 : decode cX4_proves 248 = .ok (.iand, 1) := by decide +kernel
theorem dX4_proves_249 : decode cX4_proves 249 = .ok (.ifCond .ne 7, 3) := by decide +kernel
theorem dX4_proves_252 : decode cX4_proves 252 = .ok (.iconst 1, 1) := by decide +kernel
theorem dX4_proves_253 : decode cX4_proves 253 = .ok (.goto 4, 3) := by decide +kernel
theorem dX4_proves_256 : decode cX4_proves 256 = .ok (.iconst 0, 1) := by decide +kernel
theorem dX4_proves_257 : decode cX4_proves 257 = .ok (.ireturn, 1) := by decide +kernel
theorem dX4_only_0 : decode cX4_only 0 = .ok (.aload_n 0, 1) := by decide +kernel
theorem dX4_only_1 : decode cX4_only 1 = .ok (.iload_n 1, 1) := by decide +kernel
theorem dX4_only_2 : decode cX4_only 2 = .ok (.invokevirtual 57, 3) := by decide +kernel
theorem dX4_only_5 : decode cX4_only 5 = .ok (.ifCond .eq 11, 3) := by decide +kernel
theorem dX4_only_8 : decode cX4_only 8 = .ok (.aload_n 0, 1) := by decide +kernel
theorem dX4_only_9 : decode cX4_only 9 = .ok (.iload_n 2, 1) := by decide +kernel
theorem dX4_only_10 : decode cX4_only 10 = .ok (.invokevirtual 57, 3) := by decide +kernel
theorem dX4_only_13 : decode cX4_only 13 = .ok (.ifCond .ne 5, 3) := by decide +kernel
theorem dX4_only_16 : decode cX4_only 16 = .ok (.iconst (-1), 1) := by decide +kernel
theorem dX4_only_17 : decode cX4_only 17 = .ok (.ireturn, 1) := by decide +kernel
theorem dX4_only_18 : decode cX4_only 18 = .ok (.aload_n 0, 1) := by decide +kernel
theorem dX4_only_19 : decode cX4_only 19 = .ok (.iload_n 1, 1) := by decide +kernel
theorem dX4_only_20 : decode cX4_only 20 = .ok (.iload_n 2, 1) := by decide +kernel
theorem dX4_only_21 : decode cX4_only 21 = .ok (.invokevirtual 61, 3) := by decide +kernel
theorem dX4_only_24 : decode cX4_only 24 = .ok (.ifCond .ne 6, 3) := by decide +kernel
theorem dX4_only_27 : decode cX4_only 27 = .ok (.bipush (-2), 2) := by decide +kernel
theorem dX4_only_29 : decode cX4_only 29 = .ok (.ireturn, 1) := by decide +kernel
theorem dX4_only_30 : decode cX4_only 30 = .ok (.aload_n 0, 1) := by decide +kernel
theorem dX4_only_31 : decode cX4_only 31 = .ok (.getfield 7, 3) := by decide +kernel
theorem dX4_only_34 : decode cX4_only 34 = .ok (.bipush 25, 2) := by decide +kernel
theorem dX4_only_36 : decode cX4_only 36 = .ok (.iload_n 1, 1) := by decide +kernel
theorem dX4_only_37 : decode cX4_only 37 = .ok (.iadd, 1) := by decide +kernel
theorem dX4_only_38 : decode cX4_only 38 = .ok (.iaload, 1) := by decide +kernel
theorem dX4_only_39 : decode cX4_only 39 = .ok (.istore_n 3, 1) := by decide +kernel
theorem dX4_only_40 : decode cX4_only 40 = .ok (.aload_n 0, 1) := by decide +kernel
theorem dX4_only_41 : decode cX4_only 41 = .ok (.getfield 7, 3) := by decide +kernel
theorem dX4_only_44 : decode cX4_only 44 = .ok (.bipush 25, 2) := by decide +kernel
theorem dX4_only_46 : decode cX4_only 46 = .ok (.iload_n 1, 1) := by decide +kernel
theorem dX4_only_47 : decode cX4_only 47 = .ok (.iadd, 1) := by decide +kernel
theorem dX4_only_48 : decode cX4_only 48 = .ok (.iconst 1, 1) := by decide +kernel
theorem dX4_only_49 : decode cX4_only 49 = .ok (.iload_n 2, 1) := by decide +kernel
theorem dX4_only_50 : decode cX4_only 50 = .ok (.ishl, 1) := by decide +kernel
theorem dX4_only_51 : decode cX4_only 51 = .ok (.iastore, 1) := by decide +kernel
theorem dX4_only_52 : decode cX4_only 52 = .ok (.aload_n 0, 1) := by decide +kernel
theorem dX4_only_53 : decode cX4_only 53 = .ok (.invokevirtual 89, 3) := by decide +kernel
theorem dX4_only_56 : decode cX4_only 56 = .ok (.istore 4, 2) := by decide +kernel
theorem dX4_only_58 : decode cX4_only 58 = .ok (.aload_n 0, 1) := by decide +kernel
theorem dX4_only_59 : decode cX4_only 59 = .ok (.getfield 7, 3) := by decide +kernel
theorem dX4_only_62 : decode cX4_only 62 = .ok (.bipush 25, 2) := by decide +kernel
theorem dX4_only_64 : decode cX4_only 64 = .ok (.iload_n 1, 1) := by decide +kernel
theorem dX4_only_65 : decode cX4_only 65 = .ok (.iadd, 1) := by decide +kernel
theorem dX4_only_66 : decode cX4_only 66 = .ok (.iload_n 3, 1) := by decide +kernel
theorem dX4_only_67 : decode cX4_only 67 = .ok (.iastore, 1) := by decide +kernel
theorem dX4_only_68 : decode cX4_only 68 = .ok (.iload 4, 2) := by decide +kernel
theorem dX4_only_70 : decode cX4_only 70 = .ok (.ireturn, 1) := by decide +kernel
theorem dX4_turns_0 : decode cX4_turns 0 = .ok (.aload_n 0, 1) := by decide +kernel
theorem dX4_turns_1 : decode cX4_turns 1 = .ok (.getfield 7, 3) := by decide +kernel
theorem dX4_turns_4 : decode cX4_turns 4 = .ok (.bipush 13, 2) := by decide +kernel
theorem dX4_turns_6 : decode cX4_turns 6 = .ok (.iload_n 3, 1) := by decide +kernel
theorem dX4_turns_7 : decode cX4_turns 7 = .ok (.iadd, 1) := by decide +kernel
theorem dX4_turns_8 : decode cX4_turns 8 = .ok (.iaload, 1) := by decide +kernel
theorem dX4_turns_9 : decode cX4_turns 9 = .ok (.istore 5, 2) := by decide +kernel
theorem dX4_turns_11 : decode cX4_turns 11 = .ok (.aload_n 0, 1) := by decide +kernel
theorem dX4_turns_12 : decode cX4_turns 12 = .ok (.getfield 7, 3) := by decide +kernel
theorem dX4_turns_15 : decode cX4_turns 15 = .ok (.bipush 13, 2) := by decide +kernel
theorem dX4_turns_17 : decode cX4_turns 17 = .ok (.iload_n 3, 1) := by decide +kernel
theorem dX4_turns_18 : decode cX4_turns 18 = .ok (.iadd, 1) := by decide +kernel
theorem dX4_turns_19 : decode cX4_turns 19 = .ok (.iload 4, 2) := by decide +kernel
theorem dX4_turns_21 : decode cX4_turns 21 = .ok (.iastore, 1) := by decide +kernel
theorem dX4_turns_22 : decode cX4_turns 22 = .ok (.aload_n 0, 1) := by decide +kernel
theorem dX4_turns_23 : decode cX4_turns 23 = .ok (.invokevirtual 89, 3) := by decide +kernel
theorem dX4_turns_26 : decode cX4_turns 26 = .ok (.iload_n 1, 1) := by decide +kernel
theorem dX4_turns_27 : decode cX4_turns 27 = .ok (.invokestatic 96, 3) := by decide +kernel
theorem dX4_turns_30 : decode cX4_turns 30 = .ok (.iload_n 2, 1) := by decide +kernel
theorem dX4_turns_31 : decode cX4_turns 31 = .ok (.if_icmp .eq 7, 3) := by decide +kernel
theorem dX4_turns_34 : decode cX4_turns 34 = .ok (.iconst 1, 1) := by decide +kernel
theorem dX4_turns_35 : decode cX4_turns 35 = .ok (.goto 4, 3) := by decide +kernel
theorem dX4_turns_38 : decode cX4_turns 38 = .ok (.iconst 0, 1) := by decide +kernel
theorem dX4_turns_39 : decode cX4_turns 39 = .ok (.istore 6, 2) := by decide +kernel
theorem dX4_turns_41 : decode cX4_turns 41 = .ok (.aload_n 0, 1) := by decide +kernel
theorem dX4_turns_42 : decode cX4_turns 42 = .ok (.getfield 7, 3) := by decide +kernel
theorem dX4_turns_45 : decode cX4_turns 45 = .ok (.bipush 13, 2) := by decide +kernel
theorem dX4_turns_47 : decode cX4_turns 47 = .ok (.iload_n 3, 1) := by decide +kernel
theorem dX4_turns_48 : decode cX4_turns 48 = .ok (.iadd, 1) := by decide +kernel
theorem dX4_turns_49 : decode cX4_turns 49 = .ok (.iload 5, 2) := by decide +kernel
theorem dX4_turns_51 : decode cX4_turns 51 = .ok (.iastore, 1) := by decide +kernel
theorem dX4_turns_52 : decode cX4_turns 52 = .ok (.iload 6, 2) := by decide +kernel
theorem dX4_turns_54 : decode cX4_turns 54 = .ok (.ireturn, 1) := by decide +kernel
theorem dX4_littleChange_0 : decode cX4_littleChange 0 = .ok (.aload_n 0, 1) := by decide +kernel
theorem dX4_littleChange_1 : decode cX4_littleChange 1 = .ok (.iload_n 1, 1) := by decide +kernel
theorem dX4_littleChange_2 : decode cX4_littleChange 2 = .ok (.invokevirtual 57, 3) := by decide +kernel
theorem dX4_littleChange_5 : decode cX4_littleChange 5 = .ok (.ifCond .eq 12, 3) := by decide +kernel
theorem dX4_littleChange_8 : decode cX4_littleChange 8 = .ok (.iload_n 2, 1) := by decide +kernel
theorem dX4_littleChange_9 : decode cX4_littleChange 9 = .ok (.iconst 0, 1) := by decide +kernel
theorem dX4_littleChange_10 : decode cX4_littleChange 10 = .ok (.iconst 1, 1) := by decide +kernel
theorem dX4_littleChange_11 : decode cX4_littleChange 11 = .ok (.invokestatic 50, 3) := by decide +kernel
theorem dX4_littleChange_14 : decode cX4_littleChange 14 = .ok (.ifCond .ne 5, 3) := by decide +kernel
theorem dX4_littleChange_17 : decode cX4_littleChange 17 = .ok (.iconst (-1), 1) := by decide +kernel
theorem dX4_littleChange_18 : decode cX4_littleChange 18 = .ok (.ireturn, 1) := by decide +kernel
theorem dX4_littleChange_19 : decode cX4_littleChange 19 = .ok (.aload_n 0, 1) := by decide +kernel
theorem dX4_littleChange_20 : decode cX4_littleChange 20 = .ok (.invokevirtual 89, 3) := by decide +kernel
theorem dX4_littleChange_23 : decode cX4_littleChange 23 = .ok (.iload_n 1, 1) := by decide +kernel
theorem dX4_littleChange_24 : decode cX4_littleChange 24 = .ok (.invokestatic 96, 3) := by decide +kernel
theorem dX4_littleChange_27 : decode cX4_littleChange 27 = .ok (.istore_n 3, 1) := by decide +kernel
theorem dX4_littleChange_28 : decode cX4_littleChange 28 = .ok (.iconst 1, 1) := by decide +kernel
theorem dX4_littleChange_29 : decode cX4_littleChange 29 = .ok (.istore 4, 2) := by decide +kernel
theorem dX4_littleChange_31 : decode cX4_littleChange 31 = .ok (.iload 4, 2) := by decide +kernel
theorem dX4_littleChange_33 : decode cX4_littleChange 33 = .ok (.bipush 6, 2) := by decide +kernel
theorem dX4_littleChange_35 : decode cX4_littleChange 35 = .ok (.if_icmp .ge 120, 3) := by decide +kernel
theorem dX4_littleChange_38 : decode cX4_littleChange 38 = .ok (.iconst 0, 1) := by decide +kernel
theorem dX4_littleChange_39 : decode cX4_littleChange 39 = .ok (.istore 5, 2) := by decide +kernel
theorem dX4_littleChange_41 : decode cX4_littleChange 41 = .ok (.iload 5, 2) := by decide +kernel
theorem dX4_littleChange_43 : decode cX4_littleChange 43 = .ok (.aload_n 0, 1) := by decide +kernel
theorem dX4_littleChange_44 : decode cX4_littleChange 44 = .ok (.getfield 7, 3) := by decide +kernel
theorem dX4_littleChange_47 : decode cX4_littleChange 47 = .ok (.iconst 0, 1) := by decide +kernel
theorem dX4_littleChange_48 : decode cX4_littleChange 48 = .ok (.iaload, 1) := by decide +kernel
theorem dX4_littleChange_49 : decode cX4_littleChange 49 = .ok (.if_icmp .ge 100, 3) := by decide +kernel
theorem dX4_littleChange_52 : decode cX4_littleChange 52 = .ok (.aload_n 0, 1) := by decide +kernel
theorem dX4_littleChange_53 : decode cX4_littleChange 53 = .ok (.getfield 7, 3) := by decide +kernel
theorem dX4_littleChange_56 : decode cX4_littleChange 56 = .ok (.bipush 13, 2) := by decide +kernel
theorem dX4_littleChange_58 : decode cX4_littleChange 58 = .ok (.iload 5, 2) := by decide +kernel
theorem dX4_littleChange_60 : decode cX4_littleChange 60 = .ok (.iadd, 1) := by decide +kernel
theorem dX4_littleChange_61 : decode cX4_littleChange 61 = .ok (.iaload, 1) := by decide +kernel
theorem dX4_littleChange_62 : decode cX4_littleChange 62 = .ok (.istore 6, 2) := by decide +kernel
theorem dX4_littleChange_64 : decode cX4_littleChange 64 = .ok (.iload 6, 2) := by decide +kernel
theorem dX4_littleChange_66 : decode cX4_littleChange 66 = .ok (.iload 4, 2) := by decide +kernel
theorem dX4_littleChange_68 : decode cX4_littleChange 68 = .ok (.if_icmp .lt 34, 3) := by decide +kernel
theorem dX4_littleChange_71 : decode cX4_littleChange 71 = .ok (.aload_n 0, 1) := by decide +kernel
theorem dX4_littleChange_72 : decode cX4_littleChange 72 = .ok (.iload_n 1, 1) := by decide +kernel
theorem dX4_littleChange_73 : decode cX4_littleChange 73 = .ok (.iload_n 3, 1) := by decide +kernel
theorem dX4_littleChange_74 : decode cX4_littleChange 74 = .ok (.iload 5, 2) := by decide +kernel
theorem dX4_littleChange_76 : decode cX4_littleChange 76 = .ok (.iload 6, 2) := by decide +kernel
theorem dX4_littleChange_78 : decode cX4_littleChange 78 = .ok (.iload 4, 2) := by decide +kernel
theorem dX4_littleChange_80 : decode cX4_littleChange 80 = .ok (.isub, 1) := by decide +kernel
theorem dX4_littleChange_81 : decode cX4_littleChange 81 = .ok (.invokevirtual 136, 3) := by decide +kernel
theorem dX4_littleChange_84 : decode cX4_littleChange 84 = .ok (.ifCond .eq 18, 3) := by decide +kernel
theorem dX4_littleChange_87 : decode cX4_littleChange 87 = .ok (.iload_n 2, 1) := by decide +kernel
theorem dX4_littleChange_88 : decode cX4_littleChange 88 = .ok (.ifCond .ne 8, 3) := by decide +kernel
theorem dX4_littleChange_91 : decode cX4_littleChange 91 = .ok (.iload 5, 2) := by decide +kernel
theorem dX4_littleChange_93 : decode cX4_littleChange 93 = .ok (.goto 8, 3) := by decide +kernel
theorem dX4_littleChange_96 : decode cX4_littleChange 96 = .ok (.iload 6, 2) := by decide +kernel
theorem dX4_littleChange_98 : decode cX4_littleChange 98 = .ok (.iload 4, 2) := by decide +kernel
theorem dX4_littleChange_100 : decode cX4_littleChange 100 = .ok (.isub, 1) := by decide +kernel
theorem dX4_littleChange_101 : decode cX4_littleChange 101 = .ok (.ireturn, 1) := by decide +kernel
theorem dX4_littleChange_102 : decode cX4_littleChange 102 = .ok (.iload 6, 2) := by decide +kernel
theorem dX4_littleChange_104 : decode cX4_littleChange 104 = .ok (.iload 4, 2) := by decide +kernel
theorem dX4_littleChange_106 : decode cX4_littleChange 106 = .ok (.iadd, 1) := by decide +kernel
theorem dX4_littleChange_107 : decode cX4_littleChange 107 = .ok (.bipush 6, 2) := by decide +kernel
theorem dX4_littleChange_109 : decode cX4_littleChange 109 = .ok (.if_icmp .ge 34, 3) := by decide +kernel
theorem dX4_littleChange_112 : decode cX4_littleChange 112 = .ok (.aload_n 0, 1) := by decide +kernel
theorem dX4_littleChange_113 : decode cX4_littleChange 113 = .ok (.iload_n 1, 1) := by decide +kernel
theorem dX4_littleChange_114 : decode cX4_littleChange 114 = .ok (.iload_n 3, 1) := by decide +kernel
theorem dX4_littleChange_115 : decode cX4_littleChange 115 = .ok (.iload 5, 2) := by decide +kernel
theorem dX4_littleChange_117 : decode cX4_littleChange 117 = .ok (.iload 6, 2) := by decide +kernel
theorem dX4_littleChange_119 : decode cX4_littleChange 119 = .ok (.iload 4, 2) := by decide +kernel
theorem dX4_littleChange_121 : decode cX4_littleChange 121 = .ok (.iadd, 1) := by decide +kernel
theorem dX4_littleChange_122 : decode cX4_littleChange 122 = .ok (.invokevirtual 136, 3) := by decide +kernel
theorem dX4_littleChange_125 : decode cX4_littleChange 125 = .ok (.ifCond .eq 18, 3) := by decide +kernel
theorem dX4_littleChange_128 : decode cX4_littleChange 128 = .ok (.iload_n 2, 1) := by decide +kernel
theorem dX4_littleChange_129 : decode cX4_littleChange 129 = .ok (.ifCond .ne 8, 3) := by decide +kernel
theorem dX4_littleChange_132 : decode cX4_littleChange 132 = .ok (.iload 5, 2) := by decide +kernel
theorem dX4_littleChange_134 : decode cX4_littleChange 134 = .ok (.goto 8, 3) := by decide +kernel
theorem dX4_littleChange_137 : decode cX4_littleChange 137 = .ok (.iload 6, 2) := by decide +kernel
theorem dX4_littleChange_139 : decode cX4_littleChange 139 = .ok (.iload 4, 2) := by decide +kernel
theorem dX4_littleChange_141 : decode cX4_littleChange 141 = .ok (.iadd, 1) := by decide +kernel
theorem dX4_littleChange_142 : decode cX4_littleChange 142 = .ok (.ireturn, 1) := by decide +kernel
theorem dX4_littleChange_143 : decode cX4_littleChange 143 = .ok (.iinc 5 1, 3) := by decide +kernel
theorem dX4_littleChange_146 : decode cX4_littleChange 146 = .ok (.goto (-105), 3) := by decide +kernel
theorem dX4_littleChange_149 : decode cX4_littleChange 149 = .ok (.iinc 4 1, 3) := by decide +kernel
theorem dX4_littleChange_152 : decode cX4_littleChange 152 = .ok (.goto (-121), 3) := by decide +kernel
theorem dX4_littleChange_155 : decode cX4_littleChange 155 = .ok (.bipush (-4), 2) := by decide +kernel
theorem dX4_littleChange_157 : decode cX4_littleChange 157 = .ok (.ireturn, 1) := by decide +kernel
theorem dX4_keep_0 : decode cX4_keep 0 = .ok (.aload_n 0, 1) := by decide +kernel
theorem dX4_keep_1 : decode cX4_keep 1 = .ok (.getfield 7, 3) := by decide +kernel
theorem dX4_keep_4 : decode cX4_keep 4 = .ok (.aload_n 0, 1) := by decide +kernel
theorem dX4_keep_5 : decode cX4_keep 5 = .ok (.getfield 16, 3) := by decide +kernel
theorem dX4_keep_8 : decode cX4_keep 8 = .ok (.invokestatic 140, 3) := by decide +kernel
theorem dX4_keep_11 : decode cX4_keep 11 = .ok (.aload_n 0, 1) := by decide +kernel
theorem dX4_keep_12 : decode cX4_keep 12 = .ok (.iconst 1, 1) := by decide +kernel
theorem dX4_keep_13 : decode cX4_keep 13 = .ok (.putfield 123, 3) := by decide +kernel
theorem dX4_keep_16 : decode cX4_keep 16 = .ok (.aload_n 0, 1) := by decide +kernel
theorem dX4_keep_17 : decode cX4_keep 17 = .ok (.getfield 7, 3) := by decide +kernel
theorem dX4_keep_20 : decode cX4_keep 20 = .ok (.iconst 0, 1) := by decide +kernel
theorem dX4_keep_21 : decode cX4_keep 21 = .ok (.iaload, 1) := by decide +kernel
theorem dX4_keep_22 : decode cX4_keep 22 = .ok (.ireturn, 1) := by decide +kernel
theorem dX4_restore_0 : decode cX4_restore 0 = .ok (.aload_n 0, 1) := by decide +kernel
theorem dX4_restore_1 : decode cX4_restore 1 = .ok (.getfield 123, 3) := by decide +kernel
theorem dX4_restore_4 : decode cX4_restore 4 = .ok (.ifCond .ne 6, 3) := by decide +kernel
theorem dX4_restore_7 : decode cX4_restore 7 = .ok (.bipush (-2), 2) := by decide +kernel
theorem dX4_restore_9 : decode cX4_restore 9 = .ok (.ireturn, 1) := by decide +kernel
theorem dX4_restore_10 : decode cX4_restore 10 = .ok (.aload_n 0, 1) := by decide +kernel
theorem dX4_restore_11 : decode cX4_restore 11 = .ok (.invokevirtual 54, 3) := by decide +kernel
theorem dX4_restore_14 : decode cX4_restore 14 = .ok (.aload_n 0, 1) := by decide +kernel
theorem dX4_restore_15 : decode cX4_restore 15 = .ok (.getfield 16, 3) := by decide +kernel
theorem dX4_restore_18 : decode cX4_restore 18 = .ok (.aload_n 0, 1) := by decide +kernel
theorem dX4_restore_19 : decode cX4_restore 19 = .ok (.getfield 7, 3) := by decide +kernel
theorem dX4_restore_22 : decode cX4_restore 22 = .ok (.invokestatic 140, 3) := by decide +kernel
theorem dX4_restore_25 : decode cX4_restore 25 = .ok (.aload_n 0, 1) := by decide +kernel
theorem dX4_restore_26 : decode cX4_restore 26 = .ok (.getfield 7, 3) := by decide +kernel
theorem dX4_restore_29 : decode cX4_restore 29 = .ok (.iconst 0, 1) := by decide +kernel
theorem dX4_restore_30 : decode cX4_restore 30 = .ok (.iaload, 1) := by decide +kernel
theorem dX4_restore_31 : decode cX4_restore 31 = .ok (.ireturn, 1) := by decide +kernel
theorem dX4_undo_0 : decode cX4_undo 0 = .ok (.aload_n 0, 1) := by decide +kernel
theorem dX4_undo_1 : decode cX4_undo 1 = .ok (.getfield 46, 3) := by decide +kernel
theorem dX4_undo_4 : decode cX4_undo 4 = .ok (.ifCond .ne 6, 3) := by decide +kernel
theorem dX4_undo_7 : decode cX4_undo 7 = .ok (.bipush (-2), 2) := by decide +kernel
theorem dX4_undo_9 : decode cX4_undo 9 = .ok (.ireturn, 1) := by decide +kernel
theorem dX4_undo_10 : decode cX4_undo 10 = .ok (.aload_n 0, 1) := by decide +kernel
theorem dX4_undo_11 : decode cX4_undo 11 = .ok (.dup, 1) := by decide +kernel
theorem dX4_undo_12 : decode cX4_undo 12 = .ok (.getfield 46, 3) := by decide +kernel
theorem dX4_undo_15 : decode cX4_undo 15 = .ok (.iconst 1, 1) := by decide +kernel
theorem dX4_undo_16 : decode cX4_undo 16 = .ok (.isub, 1) := by decide +kernel
theorem dX4_undo_17 : decode cX4_undo 17 = .ok (.putfield 46, 3) := by decide +kernel
theorem dX4_undo_20 : decode cX4_undo 20 = .ok (.iconst 0, 1) := by decide +kernel
theorem dX4_undo_21 : decode cX4_undo 21 = .ok (.istore_n 1, 1) := by decide +kernel
theorem dX4_undo_22 : decode cX4_undo 22 = .ok (.iload_n 1, 1) := by decide +kernel
theorem dX4_undo_23 : decode cX4_undo 23 = .ok (.bipush 37, 2) := by decide +kernel
theorem dX4_undo_25 : decode cX4_undo 25 = .ok (.if_icmp .ge 29, 3) := by decide +kernel
theorem dX4_undo_28 : decode cX4_undo 28 = .ok (.aload_n 0, 1) := by decide +kernel
theorem dX4_undo_29 : decode cX4_undo 29 = .ok (.getfield 7, 3) := by decide +kernel
theorem dX4_undo_32 : decode cX4_undo 32 = .ok (.iload_n 1, 1) := by decide +kernel
theorem dX4_undo_33 : decode cX4_undo 33 = .ok (.aload_n 0, 1) := by decide +kernel
theorem dX4_undo_34 : decode cX4_undo 34 = .ok (.getfield 13, 3) := by decide +kernel
theorem dX4_undo_37 : decode cX4_undo 37 = .ok (.bipush 37, 2) := by decide +kernel
theorem dX4_undo_39 : decode cX4_undo 39 = .ok (.aload_n 0, 1) := by decide +kernel
theorem dX4_undo_40 : decode cX4_undo 40 = .ok (.getfield 46, 3) := by decide +kernel
theorem dX4_undo_43 : decode cX4_undo 43 = .ok (.imul, 1) := by decide +kernel
theorem dX4_undo_44 : decode cX4_undo 44 = .ok (.iload_n 1, 1) := by decide +kernel
theorem dX4_undo_45 : decode cX4_undo 45 = .ok (.iadd, 1) := by decide +kernel
theorem dX4_undo_46 : decode cX4_undo 46 = .ok (.iaload, 1) := by decide +kernel
theorem dX4_undo_47 : decode cX4_undo 47 = .ok (.iastore, 1) := by decide +kernel
theorem dX4_undo_48 : decode cX4_undo 48 = .ok (.iinc 1 1, 3) := by decide +kernel
theorem dX4_undo_51 : decode cX4_undo 51 = .ok (.goto (-29), 3) := by decide +kernel
theorem dX4_undo_54 : decode cX4_undo 54 = .ok (.aload_n 0, 1) := by decide +kernel
theorem dX4_undo_55 : decode cX4_undo 55 = .ok (.getfield 46, 3) := by decide +kernel
theorem dX4_undo_58 : decode cX4_undo 58 = .ok (.ireturn, 1) := by decide +kernel
theorem dX4_type_0 : decode cX4_type 0 = .ok (.iload_n 1, 1) := by decide +kernel
theorem dX4_type_1 : decode cX4_type 1 = .ok (.bipush 32, 2) := by decide +kernel
theorem dX4_type_3 : decode cX4_type 3 = .ok (.bipush 126, 2) := by decide +kernel
theorem dX4_type_5 : decode cX4_type 5 = .ok (.invokestatic 50, 3) := by decide +kernel
theorem dX4_type_8 : decode cX4_type 8 = .ok (.ifCond .ne 5, 3) := by decide +kernel
theorem dX4_type_11 : decode cX4_type 11 = .ok (.iconst (-1), 1) := by decide +kernel
theorem dX4_type_12 : decode cX4_type 12 = .ok (.ireturn, 1) := by decide +kernel
theorem dX4_type_13 : decode cX4_type 13 = .ok (.aload_n 0, 1) := by decide +kernel
theorem dX4_type_14 : decode cX4_type 14 = .ok (.getfield 120, 3) := by decide +kernel
theorem dX4_type_17 : decode cX4_type 17 = .ok (.bipush 80, 2) := by decide +kernel
theorem dX4_type_19 : decode cX4_type 19 = .ok (.if_icmp .ne 6, 3) := by decide +kernel
theorem dX4_type_22 : decode cX4_type 22 = .ok (.bipush (-3), 2) := by decide +kernel
theorem dX4_type_24 : decode cX4_type 24 = .ok (.ireturn, 1) := by decide +kernel
theorem dX4_type_25 : decode cX4_type 25 = .ok (.aload_n 0, 1) := by decide +kernel
theorem dX4_type_26 : decode cX4_type 26 = .ok (.getfield 19, 3) := by decide +kernel
theorem dX4_type_29 : decode cX4_type 29 = .ok (.aload_n 0, 1) := by decide +kernel
theorem dX4_type_30 : decode cX4_type 30 = .ok (.getfield 120, 3) := by decide +kernel
theorem dX4_type_33 : decode cX4_type 33 = .ok (.iload_n 1, 1) := by decide +kernel
theorem dX4_type_34 : decode cX4_type 34 = .ok (.iastore, 1) := by decide +kernel
theorem dX4_type_35 : decode cX4_type 35 = .ok (.aload_n 0, 1) := by decide +kernel
theorem dX4_type_36 : decode cX4_type 36 = .ok (.dup, 1) := by decide +kernel
theorem dX4_type_37 : decode cX4_type 37 = .ok (.getfield 120, 3) := by decide +kernel
theorem dX4_type_40 : decode cX4_type 40 = .ok (.iconst 1, 1) := by decide +kernel
theorem dX4_type_41 : decode cX4_type 41 = .ok (.iadd, 1) := by decide +kernel
theorem dX4_type_42 : decode cX4_type 42 = .ok (.putfield 120, 3) := by decide +kernel
theorem dX4_type_45 : decode cX4_type 45 = .ok (.aload_n 0, 1) := by decide +kernel
theorem dX4_type_46 : decode cX4_type 46 = .ok (.getfield 120, 3) := by decide +kernel
theorem dX4_type_49 : decode cX4_type 49 = .ok (.ireturn, 1) := by decide +kernel
theorem dX4_clearText_0 : decode cX4_clearText 0 = .ok (.aload_n 0, 1) := by decide +kernel
theorem dX4_clearText_1 : decode cX4_clearText 1 = .ok (.getfield 120, 3) := by decide +kernel
theorem dX4_clearText_4 : decode cX4_clearText 4 = .ok (.istore_n 1, 1) := by decide +kernel
theorem dX4_clearText_5 : decode cX4_clearText 5 = .ok (.aload_n 0, 1) := by decide +kernel
theorem dX4_clearText_6 : decode cX4_clearText 6 = .ok (.iconst 0, 1) := by decide +kernel
theorem dX4_clearText_7 : decode cX4_clearText 7 = .ok (.putfield 120, 3) := by decide +kernel
theorem dX4_clearText_10 : decode cX4_clearText 10 = .ok (.iload_n 1, 1) := by decide +kernel
theorem dX4_clearText_11 : decode cX4_clearText 11 = .ok (.ireturn, 1) := by decide +kernel
theorem dX4_isAt_0 : decode cX4_isAt 0 = .ok (.aload_n 0, 1) := by decide +kernel
theorem dX4_isAt_1 : decode cX4_isAt 1 = .ok (.getfield 144, 3) := by decide +kernel
theorem dX4_isAt_4 : decode cX4_isAt 4 = .ok (.aload_n 0, 1) := by decide +kernel
theorem dX4_isAt_5 : decode cX4_isAt 5 = .ok (.getfield 120, 3) := by decide +kernel
theorem dX4_isAt_8 : decode cX4_isAt 8 = .ok (.if_icmp .ge 24, 3) := by decide +kernel
theorem dX4_isAt_11 : decode cX4_isAt 11 = .ok (.aload_n 0, 1) := by decide +kernel
theorem dX4_isAt_12 : decode cX4_isAt 12 = .ok (.getfield 19, 3) := by decide +kernel
theorem dX4_isAt_15 : decode cX4_isAt 15 = .ok (.aload_n 0, 1) := by decide +kernel
theorem dX4_isAt_16 : decode cX4_isAt 16 = .ok (.getfield 144, 3) := by decide +kernel
theorem dX4_isAt_19 : decode cX4_isAt 19 = .ok (.iaload, 1) := by decide +kernel
theorem dX4_isAt_20 : decode cX4_isAt 20 = .ok (.iload_n 1, 1) := by decide +kernel
theorem dX4_isAt_21 : decode cX4_isAt 21 = .ok (.iload_n 2, 1) := by decide +kernel
theorem dX4_isAt_22 : decode cX4_isAt 22 = .ok (.invokestatic 50, 3) := by decide +kernel
theorem dX4_isAt_25 : decode cX4_isAt 25 = .ok (.ifCond .eq 7, 3) := by decide +kernel
theorem dX4_isAt_28 : decode cX4_isAt 28 = .ok (.iconst 1, 1) := by decide +kernel
theorem dX4_isAt_29 : decode cX4_isAt 29 = .ok (.goto 4, 3) := by decide +kernel
theorem dX4_isAt_32 : decode cX4_isAt 32 = .ok (.iconst 0, 1) := by decide +kernel
theorem dX4_isAt_33 : decode cX4_isAt 33 = .ok (.ireturn, 1) := by decide +kernel
theorem dX4_fails_0 : decode cX4_fails 0 = .ok (.aload_n 0, 1) := by decide +kernel
theorem dX4_fails_1 : decode cX4_fails 1 = .ok (.iload_n 1, 1) := by decide +kernel
theorem dX4_fails_2 : decode cX4_fails 2 = .ok (.putfield 147, 3) := by decide +kernel
theorem dX4_fails_5 : decode cX4_fails 5 = .ok (.iconst 0, 1) := by decide +kernel
theorem dX4_fails_6 : decode cX4_fails 6 = .ok (.ireturn, 1) := by decide +kernel
theorem dX4_readsWay_0 : decode cX4_readsWay 0 = .ok (.aload_n 0, 1) := by decide +kernel
theorem dX4_readsWay_1 : decode cX4_readsWay 1 = .ok (.getfield 144, 3) := by decide +kernel
theorem dX4_readsWay_4 : decode cX4_readsWay 4 = .ok (.istore_n 1, 1) := by decide +kernel
theorem dX4_readsWay_5 : decode cX4_readsWay 5 = .ok (.aload_n 0, 1) := by decide +kernel
theorem dX4_readsWay_6 : decode cX4_readsWay 6 = .ok (.bipush 48, 2) := by decide +kernel
theorem dX4_readsWay_8 : decode cX4_readsWay 8 = .ok (.bipush 57, 2) := by decide +kernel
theorem dX4_readsWay_10 : decode cX4_readsWay 10 = .ok (.invokevirtual 150, 3) := by decide +kernel
theorem dX4_readsWay_13 : decode cX4_readsWay 13 = .ok (.ifCond .ne 9, 3) := by decide +kernel
theorem dX4_readsWay_16 : decode cX4_readsWay 16 = .ok (.aload_n 0, 1) := by decide +kernel
theorem dX4_readsWay_17 : decode cX4_readsWay 17 = .ok (.iconst 1, 1) := by decide +kernel
theorem dX4_readsWay_18 : decode cX4_readsWay 18 = .ok (.invokevirtual 153, 3) := by decide +kernel
theorem dX4_readsWay_21 : decode cX4_readsWay 21 = .ok (.ireturn, 1) := by decide +kernel
theorem dX4_readsWay_22 : decode cX4_readsWay 22 = .ok (.aload_n 0, 1) := by decide +kernel
theorem dX4_readsWay_23 : decode cX4_readsWay 23 = .ok (.getfield 19, 3) := by decide +kernel
theorem dX4_readsWay_26 : decode cX4_readsWay 26 = .ok (.aload_n 0, 1) := by decide +kernel
theorem dX4_readsWay_27 : decode cX4_readsWay 27 = .ok (.getfield 144, 3) := by decide +kernel
theorem dX4_readsWay_30 : decode cX4_readsWay 30 = .ok (.iaload, 1) := by decide +kernel
theorem dX4_readsWay_31 : decode cX4_readsWay 31 = .ok (.bipush 48, 2) := by decide +kernel
theorem dX4_readsWay_33 : decode cX4_readsWay 33 = .ok (.isub, 1) := by decide +kernel
theorem dX4_readsWay_34 : decode cX4_readsWay 34 = .ok (.istore_n 2, 1) := by decide +kernel
theorem dX4_readsWay_35 : decode cX4_readsWay 35 = .ok (.aload_n 0, 1) := by decide +kernel
theorem dX4_readsWay_36 : decode cX4_readsWay 36 = .ok (.dup, 1) := by decide +kernel
theorem dX4_readsWay_37 : decode cX4_readsWay 37 = .ok (.getfield 144, 3) := by decide +kernel
theorem dX4_readsWay_40 : decode cX4_readsWay 40 = .ok (.iconst 1, 1) := by decide +kernel
theorem dX4_readsWay_41 : decode cX4_readsWay 41 = .ok (.iadd, 1) := by decide +kernel
theorem dX4_readsWay_42 : decode cX4_readsWay 42 = .ok (.putfield 144, 3) := by decide +kernel
theorem dX4_readsWay_45 : decode cX4_readsWay 45 = .ok (.iload_n 2, 1) := by decide +kernel
theorem dX4_readsWay_46 : decode cX4_readsWay 46 = .ok (.ifCond .le 42, 3) := by decide +kernel
theorem dX4_readsWay_49 : decode cX4_readsWay 49 = .ok (.aload_n 0, 1) := by decide +kernel
theorem dX4_readsWay_50 : decode cX4_readsWay 50 = .ok (.bipush 48, 2) := by decide +kernel
theorem dX4_readsWay_52 : decode cX4_readsWay 52 = .ok (.bipush 57, 2) := by decide +kernel
theorem dX4_readsWay_54 : decode cX4_readsWay 54 = .ok (.invokevirtual 150, 3) := by decide +kernel
theorem dX4_readsWay_57 : decode cX4_readsWay 57 = .ok (.ifCond .eq 31, 3) := by decide +kernel
theorem dX4_readsWay_60 : decode cX4_readsWay 60 = .ok (.bipush 10, 2) := by decide +kernel
theorem dX4_readsWay_62 : decode cX4_readsWay 62 = .ok (.iload_n 2, 1) := by decide +kernel
theorem dX4_readsWay_63 : decode cX4_readsWay 63 = .ok (.imul, 1) := by decide +kernel
theorem dX4_readsWay_64 : decode cX4_readsWay 64 = .ok (.aload_n 0, 1) := by decide +kernel
theorem dX4_readsWay_65 : decode cX4_readsWay 65 = .ok (.getfield 19, 3) := by decide +kernel
theorem dX4_readsWay_68 : decode cX4_readsWay 68 = .ok (.aload_n 0, 1) := by decide +kernel
theorem dX4_readsWay_69 : decode cX4_readsWay 69 = .ok (.getfield 144, 3) := by decide +kernel
theorem dX4_readsWay_72 : decode cX4_readsWay 72 = .ok (.iaload, 1) := by decide +kernel
theorem dX4_readsWay_73 : decode cX4_readsWay 73 = .ok (.iadd, 1) := by decide +kernel
theorem dX4_readsWay_74 : decode cX4_readsWay 74 = .ok (.bipush 48, 2) := by decide +kernel
theorem dX4_readsWay_76 : decode cX4_readsWay 76 = .ok (.isub, 1) := by decide +kernel
theorem dX4_readsWay_77 : decode cX4_readsWay 77 = .ok (.istore_n 2, 1) := by decide +kernel
theorem dX4_readsWay_78 : decode cX4_readsWay 78 = .ok (.aload_n 0, 1) := by decide +kernel
theorem dX4_readsWay_79 : decode cX4_readsWay 79 = .ok (.dup, 1) := by decide +kernel
theorem dX4_readsWay_80 : decode cX4_readsWay 80 = .ok (.getfield 144, 3) := by decide +kernel
theorem dX4_readsWay_83 : decode cX4_readsWay 83 = .ok (.iconst 1, 1) := by decide +kernel
theorem dX4_readsWay_84 : decode cX4_readsWay 84 = .ok (.iadd, 1) := by decide +kernel
theorem dX4_readsWay_85 : decode cX4_readsWay 85 = .ok (.putfield 144, 3) := by decide +kernel
theorem dX4_readsWay_88 : decode cX4_readsWay 88 = .ok (.aload_n 0, 1) := by decide +kernel
theorem dX4_readsWay_89 : decode cX4_readsWay 89 = .ok (.getfield 43, 3) := by decide +kernel
theorem dX4_readsWay_92 : decode cX4_readsWay 92 = .ok (.iload_n 2, 1) := by decide +kernel
theorem dX4_readsWay_93 : decode cX4_readsWay 93 = .ok (.iaload, 1) := by decide +kernel
theorem dX4_readsWay_94 : decode cX4_readsWay 94 = .ok (.aload_n 0, 1) := by decide +kernel
theorem dX4_readsWay_95 : decode cX4_readsWay 95 = .ok (.getfield 156, 3) := by decide +kernel
theorem dX4_readsWay_98 : decode cX4_readsWay 98 = .ok (.iconst 1, 1) := by decide +kernel
theorem dX4_readsWay_99 : decode cX4_readsWay 99 = .ok (.iadd, 1) := by decide +kernel
theorem dX4_readsWay_100 : decode cX4_readsWay 100 = .ok (.if_icmp .ne 14, 3) := by decide +kernel
theorem dX4_readsWay_103 : decode cX4_readsWay 103 = .ok (.aload_n 0, 1) := by decide +kernel
theorem dX4_readsWay_104 : decode cX4_readsWay 104 = .ok (.iload_n 1, 1) := by decide +kernel
theorem dX4_readsWay_105 : decode cX4_readsWay 105 = .ok (.putfield 144, 3) := by decide +kernel
theorem dX4_readsWay_108 : decode cX4_readsWay 108 = .ok (.aload_n 0, 1) := by decide +kernel
theorem dX4_readsWay_109 : decode cX4_readsWay 109 = .ok (.iconst 3, 1) := by decide +kernel
theorem dX4_readsWay_110 : decode cX4_readsWay 110 = .ok (.invokevirtual 153, 3) := by decide +kernel
theorem dX4_readsWay_113 : decode cX4_readsWay 113 = .ok (.ireturn, 1) := by decide +kernel
theorem dX4_readsWay_114 : decode cX4_readsWay 114 = .ok (.aload_n 0, 1) := by decide +kernel
theorem dX4_readsWay_115 : decode cX4_readsWay 115 = .ok (.getfield 43, 3) := by decide +kernel
theorem dX4_readsWay_118 : decode cX4_readsWay 118 = .ok (.iload_n 2, 1) := by decide +kernel
theorem dX4_readsWay_119 : decode cX4_readsWay 119 = .ok (.aload_n 0, 1) := by decide +kernel
theorem dX4_readsWay_120 : decode cX4_readsWay 120 = .ok (.getfield 156, 3) := by decide +kernel
theorem dX4_readsWay_123 : decode cX4_readsWay 123 = .ok (.iconst 1, 1) := by decide +kernel
theorem dX4_readsWay_124 : decode cX4_readsWay 124 = .ok (.iadd, 1) := by decide +kernel
theorem dX4_readsWay_125 : decode cX4_readsWay 125 = .ok (.iastore, 1) := by decide +kernel
theorem dX4_readsWay_126 : decode cX4_readsWay 126 = .ok (.aload_n 0, 1) := by decide +kernel
theorem dX4_readsWay_127 : decode cX4_readsWay 127 = .ok (.getfield 40, 3) := by decide +kernel
theorem dX4_readsWay_130 : decode cX4_readsWay 130 = .ok (.iload_n 2, 1) := by decide +kernel
theorem dX4_readsWay_131 : decode cX4_readsWay 131 = .ok (.aload_n 0, 1) := by decide +kernel
theorem dX4_readsWay_132 : decode cX4_readsWay 132 = .ok (.getfield 40, 3) := by decide +kernel
theorem dX4_readsWay_135 : decode cX4_readsWay 135 = .ok (.iload_n 2, 1) := by decide +kernel
theorem dX4_readsWay_136 : decode cX4_readsWay 136 = .ok (.iaload, 1) := by decide +kernel
theorem dX4_readsWay_137 : decode cX4_readsWay 137 = .ok (.ifCond .ge 7, 3) := by decide +kernel
theorem dX4_readsWay_140 : decode cX4_readsWay 140 = .ok (.iload_n 1, 1) := by decide +kernel
theorem dX4_readsWay_141 : decode cX4_readsWay 141 = .ok (.goto 9, 3) := by decide +kernel
theorem dX4_readsWay_144 : decode cX4_readsWay 144 = .ok (.aload_n 0, 1) := by decide +kernel
theorem dX4_readsWay_145 : decode cX4_readsWay 145 = .ok (.getfield 40, 3) := by decide +kernel
theorem dX4_readsWay_148 : decode cX4_readsWay 148 = .ok (.iload_n 2, 1) := by decide +kernel
theorem dX4_readsWay_149 : decode cX4_readsWay 149 = .ok (.iaload, 1) := by decide +kernel
theorem dX4_readsWay_150 : decode cX4_readsWay 150 = .ok (.iastore, 1) := by decide +kernel
theorem dX4_readsWay_151 : decode cX4_readsWay 151 = .ok (.aload_n 0, 1) := by decide +kernel
theorem dX4_readsWay_152 : decode cX4_readsWay 152 = .ok (.getfield 37, 3) := by decide +kernel
theorem dX4_readsWay_155 : decode cX4_readsWay 155 = .ok (.aload_n 0, 1) := by decide +kernel
theorem dX4_readsWay_156 : decode cX4_readsWay 156 = .ok (.getfield 156, 3) := by decide +kernel
theorem dX4_readsWay_159 : decode cX4_readsWay 159 = .ok (.dup2, 1) := by decide +kernel
theorem dX4_readsWay_160 : decode cX4_readsWay 160 = .ok (.iaload, 1) := by decide +kernel
theorem dX4_readsWay_161 : decode cX4_readsWay 161 = .ok (.iload_n 2, 1) := by decide +kernel
theorem dX4_readsWay_162 : decode cX4_readsWay 162 = .ok (.bipush 12, 2) := by decide +kernel
theorem dX4_readsWay_164 : decode cX4_readsWay 164 = .ok (.if_icmp .ge 9, 3) := by decide +kernel
theorem dX4_readsWay_167 : decode cX4_readsWay 167 = .ok (.iconst 1, 1) := by decide +kernel
theorem dX4_readsWay_168 : decode cX4_readsWay 168 = .ok (.iload_n 2, 1) := by decide +kernel
theorem dX4_readsWay_169 : decode cX4_readsWay 169 = .ok (.ishl, 1) := by decide +kernel
theorem dX4_readsWay_170 : decode cX4_readsWay 170 = .ok (.goto 4, 3) := by decide +kernel
theorem dX4_readsWay_173 : decode cX4_readsWay 173 = .ok (.iconst 0, 1) := by decide +kernel
theorem dX4_readsWay_174 : decode cX4_readsWay 174 = .ok (.ior, 1) := by decide +kernel
theorem dX4_readsWay_175 : decode cX4_readsWay 175 = .ok (.iastore, 1) := by decide +kernel
theorem dX4_readsWay_176 : decode cX4_readsWay 176 = .ok (.iconst 1, 1) := by decide +kernel
theorem dX4_readsWay_177 : decode cX4_readsWay 177 = .ok (.ireturn, 1) := by decide +kernel
theorem dX4_readsPlace_0 : decode cX4_readsPlace 0 = .ok (.aload_n 0, 1) := by decide +kernel
theorem dX4_readsPlace_1 : decode cX4_readsPlace 1 = .ok (.bipush 101, 2) := by decide +kernel
theorem dX4_readsPlace_3 : decode cX4_readsPlace 3 = .ok (.bipush 101, 2) := by decide +kernel
theorem dX4_readsPlace_5 : decode cX4_readsPlace 5 = .ok (.invokevirtual 150, 3) := by decide +kernel
theorem dX4_readsPlace_8 : decode cX4_readsPlace 8 = .ok (.ifCond .ne 20, 3) := by decide +kernel
theorem dX4_readsPlace_11 : decode cX4_readsPlace 11 = .ok (.aload_n 0, 1) := by decide +kernel
theorem dX4_readsPlace_12 : decode cX4_readsPlace 12 = .ok (.bipush 111, 2) := by decide +kernel
theorem dX4_readsPlace_14 : decode cX4_readsPlace 14 = .ok (.bipush 111, 2) := by decide +kernel
theorem dX4_readsPlace_16 : decode cX4_readsPlace 16 = .ok (.invokevirtual 150, 3) := by decide +kernel
theorem dX4_readsPlace_19 : decode cX4_readsPlace 19 = .ok (.ifCond .ne 9, 3) := by decide +kernel
theorem dX4_readsPlace_22 : decode cX4_readsPlace 22 = .ok (.aload_n 0, 1) := by decide +kernel
theorem dX4_readsPlace_23 : decode cX4_readsPlace 23 = .ok (.iconst 1, 1) := by decide +kernel
theorem dX4_readsPlace_24 : decode cX4_readsPlace 24 = .ok (.invokevirtual 153, 3) := by decide +kernel
theorem dX4_readsPlace_27 : decode cX4_readsPlace 27 = .ok (.ireturn, 1) := by decide +kernel
theorem dX4_readsPlace_28 : decode cX4_readsPlace 28 = .ok (.aload_n 0, 1) := by decide +kernel
theorem dX4_readsPlace_29 : decode cX4_readsPlace 29 = .ok (.getfield 31, 3) := by decide +kernel
theorem dX4_readsPlace_32 : decode cX4_readsPlace 32 = .ok (.aload_n 0, 1) := by decide +kernel
theorem dX4_readsPlace_33 : decode cX4_readsPlace 33 = .ok (.getfield 156, 3) := by decide +kernel
theorem dX4_readsPlace_36 : decode cX4_readsPlace 36 = .ok (.aload_n 0, 1) := by decide +kernel
theorem dX4_readsPlace_37 : decode cX4_readsPlace 37 = .ok (.getfield 19, 3) := by decide +kernel
theorem dX4_readsPlace_40 : decode cX4_readsPlace 40 = .ok (.aload_n 0, 1) := by decide +kernel
theorem dX4_readsPlace_41 : decode cX4_readsPlace 41 = .ok (.getfield 144, 3) := by decide +kernel
theorem dX4_readsPlace_44 : decode cX4_readsPlace 44 = .ok (.iaload, 1) := by decide +kernel
theorem dX4_readsPlace_45 : decode cX4_readsPlace 45 = .ok (.bipush 111, 2) := by decide +kernel
theorem dX4_readsPlace_47 : decode cX4_readsPlace 47 = .ok (.if_icmp .ne 7, 3) := by decide +kernel
theorem dX4_readsPlace_50 : decode cX4_readsPlace 50 = .ok (.iconst 1, 1) := by decide +kernel
theorem dX4_readsPlace_51 : decode cX4_readsPlace 51 = .ok (.goto 4, 3) := by decide +kernel
theorem dX4_readsPlace_54 : decode cX4_readsPlace 54 = .ok (.iconst 0, 1) := by decide +kernel
theorem dX4_readsPlace_55 : decode cX4_readsPlace 55 = .ok (.iastore, 1) := by decide +kernel
theorem dX4_readsPlace_56 : decode cX4_readsPlace 56 = .ok (.aload_n 0, 1) := by decide +kernel
theorem dX4_readsPlace_57 : decode cX4_readsPlace 57 = .ok (.dup, 1) := by decide +kernel
theorem dX4_readsPlace_58 : decode cX4_readsPlace 58 = .ok (.getfield 144, 3) := by decide +kernel
theorem dX4_readsPlace_61 : decode cX4_readsPlace 61 = .ok (.iconst 1, 1) := by decide +kernel
theorem dX4_readsPlace_62 : decode cX4_readsPlace 62 = .ok (.iadd, 1) := by decide +kernel
theorem dX4_readsPlace_63 : decode cX4_readsPlace 63 = .ok (.putfield 144, 3) := by decide +kernel
theorem dX4_readsPlace_66 : decode cX4_readsPlace 66 = .ok (.aload_n 0, 1) := by decide +kernel
theorem dX4_readsPlace_67 : decode cX4_readsPlace 67 = .ok (.bipush 48, 2) := by decide +kernel
theorem dX4_readsPlace_69 : decode cX4_readsPlace 69 = .ok (.bipush 57, 2) := by decide +kernel
theorem dX4_readsPlace_71 : decode cX4_readsPlace 71 = .ok (.invokevirtual 150, 3) := by decide +kernel
theorem dX4_readsPlace_74 : decode cX4_readsPlace 74 = .ok (.ifCond .ne 9, 3) := by decide +kernel
theorem dX4_readsPlace_77 : decode cX4_readsPlace 77 = .ok (.aload_n 0, 1) := by decide +kernel
theorem dX4_readsPlace_78 : decode cX4_readsPlace 78 = .ok (.iconst 1, 1) := by decide +kernel
theorem dX4_readsPlace_79 : decode cX4_readsPlace 79 = .ok (.invokevirtual 153, 3) := by decide +kernel
theorem dX4_readsPlace_82 : decode cX4_readsPlace 82 = .ok (.ireturn, 1) := by decide +kernel
theorem dX4_readsPlace_83 : decode cX4_readsPlace 83 = .ok (.aload_n 0, 1) := by decide +kernel
theorem dX4_readsPlace_84 : decode cX4_readsPlace 84 = .ok (.getfield 34, 3) := by decide +kernel
theorem dX4_readsPlace_87 : decode cX4_readsPlace 87 = .ok (.aload_n 0, 1) := by decide +kernel
theorem dX4_readsPlace_88 : decode cX4_readsPlace 88 = .ok (.getfield 156, 3) := by decide +kernel
theorem dX4_readsPlace_91 : decode cX4_readsPlace 91 = .ok (.aload_n 0, 1) := by decide +kernel
theorem dX4_readsPlace_92 : decode cX4_readsPlace 92 = .ok (.getfield 19, 3) := by decide +kernel
theorem dX4_readsPlace_95 : decode cX4_readsPlace 95 = .ok (.aload_n 0, 1) := by decide +kernel
theorem dX4_readsPlace_96 : decode cX4_readsPlace 96 = .ok (.getfield 144, 3) := by decide +kernel
theorem dX4_readsPlace_99 : decode cX4_readsPlace 99 = .ok (.iaload, 1) := by decide +kernel
theorem dX4_readsPlace_100 : decode cX4_readsPlace 100 = .ok (.bipush 48, 2) := by decide +kernel
theorem dX4_readsPlace_102 : decode cX4_readsPlace 102 = .ok (.isub, 1) := by decide +kernel
theorem dX4_readsPlace_103 : decode cX4_readsPlace 103 = .ok (.iastore, 1) := by decide +kernel
theorem dX4_readsPlace_104 : decode cX4_readsPlace 104 = .ok (.aload_n 0, 1) := by decide +kernel
theorem dX4_readsPlace_105 : decode cX4_readsPlace 105 = .ok (.getfield 34, 3) := by decide +kernel
theorem dX4_readsPlace_108 : decode cX4_readsPlace 108 = .ok (.aload_n 0, 1) := by decide +kernel
theorem dX4_readsPlace_109 : decode cX4_readsPlace 109 = .ok (.getfield 156, 3) := by decide +kernel
theorem dX4_readsPlace_112 : decode cX4_readsPlace 112 = .ok (.iaload, 1) := by decide +kernel
theorem dX4_readsPlace_113 : decode cX4_readsPlace 113 = .ok (.bipush 6, 2) := by decide +kernel
theorem dX4_readsPlace_115 : decode cX4_readsPlace 115 = .ok (.if_icmp .lt 9, 3) := by decide +kernel
theorem dX4_readsPlace_118 : decode cX4_readsPlace 118 = .ok (.aload_n 0, 1) := by decide +kernel
theorem dX4_readsPlace_119 : decode cX4_readsPlace 119 = .ok (.iconst 2, 1) := by decide +kernel
theorem dX4_readsPlace_120 : decode cX4_readsPlace 120 = .ok (.invokevirtual 153, 3) := by decide +kernel
theorem dX4_readsPlace_123 : decode cX4_readsPlace 123 = .ok (.ireturn, 1) := by decide +kernel
theorem dX4_readsPlace_124 : decode cX4_readsPlace 124 = .ok (.aload_n 0, 1) := by decide +kernel
theorem dX4_readsPlace_125 : decode cX4_readsPlace 125 = .ok (.dup, 1) := by decide +kernel
theorem dX4_readsPlace_126 : decode cX4_readsPlace 126 = .ok (.getfield 144, 3) := by decide +kernel
theorem dX4_readsPlace_129 : decode cX4_readsPlace 129 = .ok (.iconst 1, 1) := by decide +kernel
theorem dX4_readsPlace_130 : decode cX4_readsPlace 130 = .ok (.iadd, 1) := by decide +kernel
theorem dX4_readsPlace_131 : decode cX4_readsPlace 131 = .ok (.putfield 144, 3) := by decide +kernel
theorem dX4_readsPlace_134 : decode cX4_readsPlace 134 = .ok (.aload_n 0, 1) := by decide +kernel
theorem dX4_readsPlace_135 : decode cX4_readsPlace 135 = .ok (.getfield 37, 3) := by decide +kernel
theorem dX4_readsPlace_138 : decode cX4_readsPlace 138 = .ok (.aload_n 0, 1) := by decide +kernel
theorem dX4_readsPlace_139 : decode cX4_readsPlace 139 = .ok (.getfield 156, 3) := by decide +kernel
theorem dX4_readsPlace_142 : decode cX4_readsPlace 142 = .ok (.iconst 0, 1) := by decide +kernel
theorem dX4_readsPlace_143 : decode cX4_readsPlace 143 = .ok (.iastore, 1) := by decide +kernel
theorem dX4_readsPlace_144 : decode cX4_readsPlace 144 = .ok (.iconst 1, 1) := by decide +kernel
theorem dX4_readsPlace_145 : decode cX4_readsPlace 145 = .ok (.istore_n 1, 1) := by decide +kernel
theorem dX4_readsPlace_146 : decode cX4_readsPlace 146 = .ok (.aload_n 0, 1) := by decide +kernel
theorem dX4_readsPlace_147 : decode cX4_readsPlace 147 = .ok (.bipush 58, 2) := by decide +kernel
theorem dX4_readsPlace_149 : decode cX4_readsPlace 149 = .ok (.bipush 58, 2) := by decide +kernel
theorem dX4_readsPlace_151 : decode cX4_readsPlace 151 = .ok (.invokevirtual 150, 3) := by decide +kernel
theorem dX4_readsPlace_154 : decode cX4_readsPlace 154 = .ok (.istore_n 2, 1) := by decide +kernel
theorem dX4_readsPlace_155 : decode cX4_readsPlace 155 = .ok (.iload_n 2, 1) := by decide +kernel
theorem dX4_readsPlace_156 : decode cX4_readsPlace 156 = .ok (.ifCond .eq 34, 3) := by decide +kernel
theorem dX4_readsPlace_159 : decode cX4_readsPlace 159 = .ok (.iload_n 1, 1) := by decide +kernel
theorem dX4_readsPlace_160 : decode cX4_readsPlace 160 = .ok (.ifCond .eq 30, 3) := by decide +kernel
theorem dX4_readsPlace_163 : decode cX4_readsPlace 163 = .ok (.aload_n 0, 1) := by decide +kernel
theorem dX4_readsPlace_164 : decode cX4_readsPlace 164 = .ok (.dup, 1) := by decide +kernel
theorem dX4_readsPlace_165 : decode cX4_readsPlace 165 = .ok (.getfield 144, 3) := by decide +kernel
theorem dX4_readsPlace_168 : decode cX4_readsPlace 168 = .ok (.iconst 1, 1) := by decide +kernel
theorem dX4_readsPlace_169 : decode cX4_readsPlace 169 = .ok (.iadd, 1) := by decide +kernel
theorem dX4_readsPlace_170 : decode cX4_readsPlace 170 = .ok (.putfield 144, 3) := by decide +kernel
theorem dX4_readsPlace_173 : decode cX4_readsPlace 173 = .ok (.aload_n 0, 1) := by decide +kernel
theorem dX4_readsPlace_174 : decode cX4_readsPlace 174 = .ok (.invokevirtual 159, 3) := by decide +kernel
theorem dX4_readsPlace_177 : decode cX4_readsPlace 177 = .ok (.istore_n 1, 1) := by decide +kernel
theorem dX4_readsPlace_178 : decode cX4_readsPlace 178 = .ok (.aload_n 0, 1) := by decide +kernel
theorem dX4_readsPlace_179 : decode cX4_readsPlace 179 = .ok (.bipush 44, 2) := by decide +kernel
theorem dX4_readsPlace_181 : decode cX4_readsPlace 181 = .ok (.bipush 44, 2) := by decide +kernel
theorem dX4_readsPlace_183 : decode cX4_readsPlace 183 = .ok (.invokevirtual 150, 3) := by decide +kernel
theorem dX4_readsPlace_186 : decode cX4_readsPlace 186 = .ok (.istore_n 2, 1) := by decide +kernel
theorem dX4_readsPlace_187 : decode cX4_readsPlace 187 = .ok (.goto (-32), 3) := by decide +kernel
theorem dX4_readsPlace_190 : decode cX4_readsPlace 190 = .ok (.aload_n 0, 1) := by decide +kernel
theorem dX4_readsPlace_191 : decode cX4_readsPlace 191 = .ok (.dup, 1) := by decide +kernel
theorem dX4_readsPlace_192 : decode cX4_readsPlace 192 = .ok (.getfield 156, 3) := by decide +kernel
theorem dX4_readsPlace_195 : decode cX4_readsPlace 195 = .ok (.iload_n 1, 1) := by decide +kernel
theorem dX4_readsPlace_196 : decode cX4_readsPlace 196 = .ok (.ifCond .eq 7, 3) := by decide +kernel
theorem dX4_readsPlace_199 : decode cX4_readsPlace 199 = .ok (.iconst 1, 1) := by decide +kernel
theorem dX4_readsPlace_200 : decode cX4_readsPlace 200 = .ok (.goto 4, 3) := by decide +kernel
theorem dX4_readsPlace_203 : decode cX4_readsPlace 203 = .ok (.iconst 0, 1) := by decide +kernel
theorem dX4_readsPlace_204 : decode cX4_readsPlace 204 = .ok (.iadd, 1) := by decide +kernel
theorem dX4_readsPlace_205 : decode cX4_readsPlace 205 = .ok (.putfield 156, 3) := by decide +kernel
theorem dX4_readsPlace_208 : decode cX4_readsPlace 208 = .ok (.iload_n 1, 1) := by decide +kernel
theorem dX4_readsPlace_209 : decode cX4_readsPlace 209 = .ok (.ireturn, 1) := by decide +kernel
theorem dX4_areThere_0 : decode cX4_areThere 0 = .ok (.bipush 80, 2) := by decide +kernel
theorem dX4_areThere_2 : decode cX4_areThere 2 = .ok (.istore_n 1, 1) := by decide +kernel
theorem dX4_areThere_3 : decode cX4_areThere 3 = .ok (.aload_n 0, 1) := by decide +kernel
theorem dX4_areThere_4 : decode cX4_areThere 4 = .ok (.getfield 156, 3) := by decide +kernel
theorem dX4_areThere_7 : decode cX4_areThere 7 = .ok (.istore_n 2, 1) := by decide +kernel
theorem dX4_areThere_8 : decode cX4_areThere 8 = .ok (.iload_n 2, 1) := by decide +kernel
theorem dX4_areThere_9 : decode cX4_areThere 9 = .ok (.bipush 100, 2) := by decide +kernel
theorem dX4_areThere_11 : decode cX4_areThere 11 = .ok (.if_icmp .ge 39, 3) := by decide +kernel
theorem dX4_areThere_14 : decode cX4_areThere 14 = .ok (.aload_n 0, 1) := by decide +kernel
theorem dX4_areThere_15 : decode cX4_areThere 15 = .ok (.getfield 40, 3) := by decide +kernel
theorem dX4_areThere_18 : decode cX4_areThere 18 = .ok (.iload_n 2, 1) := by decide +kernel
theorem dX4_areThere_19 : decode cX4_areThere 19 = .ok (.iaload, 1) := by decide +kernel
theorem dX4_areThere_20 : decode cX4_areThere 20 = .ok (.ifCond .lt 22, 3) := by decide +kernel
theorem dX4_areThere_23 : decode cX4_areThere 23 = .ok (.aload_n 0, 1) := by decide +kernel
theorem dX4_areThere_24 : decode cX4_areThere 24 = .ok (.getfield 40, 3) := by decide +kernel
theorem dX4_areThere_27 : decode cX4_areThere 27 = .ok (.iload_n 2, 1) := by decide +kernel
theorem dX4_areThere_28 : decode cX4_areThere 28 = .ok (.iaload, 1) := by decide +kernel
theorem dX4_areThere_29 : decode cX4_areThere 29 = .ok (.iload_n 1, 1) := by decide +kernel
theorem dX4_areThere_30 : decode cX4_areThere 30 = .ok (.if_icmp .ge 12, 3) := by decide +kernel
theorem dX4_areThere_33 : decode cX4_areThere 33 = .ok (.aload_n 0, 1) := by decide +kernel
theorem dX4_areThere_34 : decode cX4_areThere 34 = .ok (.getfield 40, 3) := by decide +kernel
theorem dX4_areThere_37 : decode cX4_areThere 37 = .ok (.iload_n 2, 1) := by decide +kernel
theorem dX4_areThere_38 : decode cX4_areThere 38 = .ok (.iaload, 1) := by decide +kernel
theorem dX4_areThere_39 : decode cX4_areThere 39 = .ok (.goto 4, 3) := by decide +kernel
theorem dX4_areThere_42 : decode cX4_areThere 42 = .ok (.iload_n 1, 1) := by decide +kernel
theorem dX4_areThere_43 : decode cX4_areThere 43 = .ok (.istore_n 1, 1) := by decide +kernel
theorem dX4_areThere_44 : decode cX4_areThere 44 = .ok (.iinc 2 1, 3) := by decide +kernel
theorem dX4_areThere_47 : decode cX4_areThere 47 = .ok (.goto (-39), 3) := by decide +kernel
theorem dX4_areThere_50 : decode cX4_areThere 50 = .ok (.aload_n 0, 1) := by decide +kernel
theorem dX4_areThere_51 : decode cX4_areThere 51 = .ok (.iload_n 1, 1) := by decide +kernel
theorem dX4_areThere_52 : decode cX4_areThere 52 = .ok (.putfield 144, 3) := by decide +kernel
theorem dX4_areThere_55 : decode cX4_areThere 55 = .ok (.iload_n 1, 1) := by decide +kernel
theorem dX4_areThere_56 : decode cX4_areThere 56 = .ok (.bipush 80, 2) := by decide +kernel
theorem dX4_areThere_58 : decode cX4_areThere 58 = .ok (.if_icmp .eq 11, 3) := by decide +kernel
theorem dX4_areThere_61 : decode cX4_areThere 61 = .ok (.aload_n 0, 1) := by decide +kernel
theorem dX4_areThere_62 : decode cX4_areThere 62 = .ok (.iconst 5, 1) := by decide +kernel
theorem dX4_areThere_63 : decode cX4_areThere 63 = .ok (.invokevirtual 153, 3) := by decide +kernel
theorem dX4_areThere_66 : decode cX4_areThere 66 = .ok (.ifCond .eq 7, 3) := by decide +kernel
theorem dX4_areThere_69 : decode cX4_areThere 69 = .ok (.iconst 1, 1) := by decide +kernel
theorem dX4_areThere_70 : decode cX4_areThere 70 = .ok (.goto 4, 3) := by decide +kernel
theorem dX4_areThere_73 : decode cX4_areThere 73 = .ok (.iconst 0, 1) := by decide +kernel
theorem dX4_areThere_74 : decode cX4_areThere 74 = .ok (.ireturn, 1) := by decide +kernel
theorem dX4_isRight_0 : decode cX4_isRight 0 = .ok (.aload_n 0, 1) := by decide +kernel
theorem dX4_isRight_1 : decode cX4_isRight 1 = .ok (.iconst 0, 1) := by decide +kernel
theorem dX4_isRight_2 : decode cX4_isRight 2 = .ok (.putfield 144, 3) := by decide +kernel
theorem dX4_isRight_5 : decode cX4_isRight 5 = .ok (.aload_n 0, 1) := by decide +kernel
theorem dX4_isRight_6 : decode cX4_isRight 6 = .ok (.iconst 0, 1) := by decide +kernel
theorem dX4_isRight_7 : decode cX4_isRight 7 = .ok (.putfield 156, 3) := by decide +kernel
theorem dX4_isRight_10 : decode cX4_isRight 10 = .ok (.iconst 0, 1) := by decide +kernel
theorem dX4_isRight_11 : decode cX4_isRight 11 = .ok (.istore_n 1, 1) := by decide +kernel
theorem dX4_isRight_12 : decode cX4_isRight 12 = .ok (.iload_n 1, 1) := by decide +kernel
theorem dX4_isRight_13 : decode cX4_isRight 13 = .ok (.bipush 100, 2) := by decide +kernel
theorem dX4_isRight_15 : decode cX4_isRight 15 = .ok (.if_icmp .ge 23, 3) := by decide +kernel
theorem dX4_isRight_18 : decode cX4_isRight 18 = .ok (.aload_n 0, 1) := by decide +kernel
theorem dX4_isRight_19 : decode cX4_isRight 19 = .ok (.getfield 40, 3) := by decide +kernel
theorem dX4_isRight_22 : decode cX4_isRight 22 = .ok (.iload_n 1, 1) := by decide +kernel
theorem dX4_isRight_23 : decode cX4_isRight 23 = .ok (.iconst (-1), 1) := by decide +kernel
theorem dX4_isRight_24 : decode cX4_isRight 24 = .ok (.iastore, 1) := by decide +kernel
theorem dX4_isRight_25 : decode cX4_isRight 25 = .ok (.aload_n 0, 1) := by decide +kernel
theorem dX4_isRight_26 : decode cX4_isRight 26 = .ok (.getfield 43, 3) := by decide +kernel
theorem dX4_isRight_29 : decode cX4_isRight 29 = .ok (.iload_n 1, 1) := by decide +kernel
theorem dX4_isRight_30 : decode cX4_isRight 30 = .ok (.iconst 0, 1) := by decide +kernel
theorem dX4_isRight_31 : decode cX4_isRight 31 = .ok (.iastore, 1) := by decide +kernel
theorem dX4_isRight_32 : decode cX4_isRight 32 = .ok (.iinc 1 1, 3) := by decide +kernel
theorem dX4_isRight_35 : decode cX4_isRight 35 = .ok (.goto (-23), 3) := by decide +kernel
theorem dX4_isRight_38 : decode cX4_isRight 38 = .ok (.aload_n 0, 1) := by decide +kernel
theorem dX4_isRight_39 : decode cX4_isRight 39 = .ok (.invokevirtual 163, 3) := by decide +kernel
theorem dX4_isRight_42 : decode cX4_isRight 42 = .ok (.istore_n 1, 1) := by decide +kernel
theorem dX4_isRight_43 : decode cX4_isRight 43 = .ok (.iload_n 1, 1) := by decide +kernel
theorem dX4_isRight_44 : decode cX4_isRight 44 = .ok (.ifCond .eq 64, 3) := by decide +kernel
theorem dX4_isRight_47 : decode cX4_isRight 47 = .ok (.aload_n 0, 1) := by decide +kernel
theorem dX4_isRight_48 : decode cX4_isRight 48 = .ok (.getfield 144, 3) := by decide +kernel
theorem dX4_isRight_51 : decode cX4_isRight 51 = .ok (.aload_n 0, 1) := by decide +kernel
theorem dX4_isRight_52 : decode cX4_isRight 52 = .ok (.getfield 120, 3) := by decide +kernel
theorem dX4_isRight_55 : decode cX4_isRight 55 = .ok (.if_icmp .ge 53, 3) := by decide +kernel
theorem dX4_isRight_58 : decode cX4_isRight 58 = .ok (.aload_n 0, 1) := by decide +kernel
theorem dX4_isRight_59 : decode cX4_isRight 59 = .ok (.bipush 59, 2) := by decide +kernel
theorem dX4_isRight_61 : decode cX4_isRight 61 = .ok (.bipush 59, 2) := by decide +kernel
theorem dX4_isRight_63 : decode cX4_isRight 63 = .ok (.invokevirtual 150, 3) := by decide +kernel
theorem dX4_isRight_66 : decode cX4_isRight 66 = .ok (.ifCond .ne 9, 3) := by decide +kernel
theorem dX4_isRight_69 : decode cX4_isRight 69 = .ok (.aload_n 0, 1) := by decide +kernel
theorem dX4_isRight_70 : decode cX4_isRight 70 = .ok (.iconst 1, 1) := by decide +kernel
theorem dX4_isRight_71 : decode cX4_isRight 71 = .ok (.invokevirtual 153, 3) := by decide +kernel
theorem dX4_isRight_74 : decode cX4_isRight 74 = .ok (.ireturn, 1) := by decide +kernel
theorem dX4_isRight_75 : decode cX4_isRight 75 = .ok (.aload_n 0, 1) := by decide +kernel
theorem dX4_isRight_76 : decode cX4_isRight 76 = .ok (.getfield 156, 3) := by decide +kernel
theorem dX4_isRight_79 : decode cX4_isRight 79 = .ok (.bipush 12, 2) := by decide +kernel
theorem dX4_isRight_81 : decode cX4_isRight 81 = .ok (.if_icmp .ne 9, 3) := by decide +kernel
theorem dX4_isRight_84 : decode cX4_isRight 84 = .ok (.aload_n 0, 1) := by decide +kernel
theorem dX4_isRight_85 : decode cX4_isRight 85 = .ok (.iconst 4, 1) := by decide +kernel
theorem dX4_isRight_86 : decode cX4_isRight 86 = .ok (.invokevirtual 153, 3) := by decide +kernel
theorem dX4_isRight_89 : decode cX4_isRight 89 = .ok (.ireturn, 1) := by decide +kernel
theorem dX4_isRight_90 : decode cX4_isRight 90 = .ok (.aload_n 0, 1) := by decide +kernel
theorem dX4_isRight_91 : decode cX4_isRight 91 = .ok (.dup, 1) := by decide +kernel
theorem dX4_isRight_92 : decode cX4_isRight 92 = .ok (.getfield 144, 3) := by decide +kernel
theorem dX4_isRight_95 : decode cX4_isRight 95 = .ok (.iconst 1, 1) := by decide +kernel
theorem dX4_isRight_96 : decode cX4_isRight 96 = .ok (.iadd, 1) := by decide +kernel
theorem dX4_isRight_97 : decode cX4_isRight 97 = .ok (.putfield 144, 3) := by decide +kernel
theorem dX4_isRight_100 : decode cX4_isRight 100 = .ok (.aload_n 0, 1) := by decide +kernel
theorem dX4_isRight_101 : decode cX4_isRight 101 = .ok (.invokevirtual 163, 3) := by decide +kernel
theorem dX4_isRight_104 : decode cX4_isRight 104 = .ok (.istore_n 1, 1) := by decide +kernel
theorem dX4_isRight_105 : decode cX4_isRight 105 = .ok (.goto (-62), 3) := by decide +kernel
theorem dX4_isRight_108 : decode cX4_isRight 108 = .ok (.iload_n 1, 1) := by decide +kernel
theorem dX4_isRight_109 : decode cX4_isRight 109 = .ok (.ifCond .eq 14, 3) := by decide +kernel
theorem dX4_isRight_112 : decode cX4_isRight 112 = .ok (.aload_n 0, 1) := by decide +kernel
theorem dX4_isRight_113 : decode cX4_isRight 113 = .ok (.invokevirtual 166, 3) := by decide +kernel
theorem dX4_isRight_116 : decode cX4_isRight 116 = .ok (.ifCond .eq 7, 3) := by decide +kernel
theorem dX4_isRight_119 : decode cX4_isRight 119 = .ok (.iconst 1, 1) := by decide +kernel
theorem dX4_isRight_120 : decode cX4_isRight 120 = .ok (.goto 4, 3) := by decide +kernel
theorem dX4_isRight_123 : decode cX4_isRight 123 = .ok (.iconst 0, 1) := by decide +kernel
theorem dX4_isRight_124 : decode cX4_isRight 124 = .ok (.ireturn, 1) := by decide +kernel
theorem dX4_fault_0 : decode cX4_fault 0 = .ok (.iload_n 1, 1) := by decide +kernel
theorem dX4_fault_1 : decode cX4_fault 1 = .ok (.iconst 0, 1) := by decide +kernel
theorem dX4_fault_2 : decode cX4_fault 2 = .ok (.iconst 1, 1) := by decide +kernel
theorem dX4_fault_3 : decode cX4_fault 3 = .ok (.invokestatic 50, 3) := by decide +kernel
theorem dX4_fault_6 : decode cX4_fault 6 = .ok (.ifCond .ne 5, 3) := by decide +kernel
theorem dX4_fault_9 : decode cX4_fault 9 = .ok (.iconst (-1), 1) := by decide +kernel
theorem dX4_fault_10 : decode cX4_fault 10 = .ok (.ireturn, 1) := by decide +kernel
theorem dX4_fault_11 : decode cX4_fault 11 = .ok (.aload_n 0, 1) := by decide +kernel
theorem dX4_fault_12 : decode cX4_fault 12 = .ok (.invokevirtual 169, 3) := by decide +kernel
theorem dX4_fault_15 : decode cX4_fault 15 = .ok (.ifCond .eq 8, 3) := by decide +kernel
theorem dX4_fault_18 : decode cX4_fault 18 = .ok (.bipush (-4), 2) := by decide +kernel
theorem dX4_fault_20 : decode cX4_fault 20 = .ok (.goto 18, 3) := by decide +kernel
theorem dX4_fault_23 : decode cX4_fault 23 = .ok (.iload_n 1, 1) := by decide +kernel
theorem dX4_fault_24 : decode cX4_fault 24 = .ok (.ifCond .ne 10, 3) := by decide +kernel
theorem dX4_fault_27 : decode cX4_fault 27 = .ok (.aload_n 0, 1) := by decide +kernel
theorem dX4_fault_28 : decode cX4_fault 28 = .ok (.getfield 144, 3) := by decide +kernel
theorem dX4_fault_31 : decode cX4_fault 31 = .ok (.goto 7, 3) := by decide +kernel
theorem dX4_fault_34 : decode cX4_fault 34 = .ok (.aload_n 0, 1) := by decide +kernel
theorem dX4_fault_35 : decode cX4_fault 35 = .ok (.getfield 147, 3) := by decide +kernel
theorem dX4_fault_38 : decode cX4_fault 38 = .ok (.ireturn, 1) := by decide +kernel
theorem dX4_read_0 : decode cX4_read 0 = .ok (.aload_n 0, 1) := by decide +kernel
theorem dX4_read_1 : decode cX4_read 1 = .ok (.invokevirtual 169, 3) := by decide +kernel
theorem dX4_read_4 : decode cX4_read 4 = .ok (.ifCond .ne 6, 3) := by decide +kernel
theorem dX4_read_7 : decode cX4_read 7 = .ok (.bipush (-2), 2) := by decide +kernel
theorem dX4_read_9 : decode cX4_read 9 = .ok (.ireturn, 1) := by decide +kernel
theorem dX4_read_10 : decode cX4_read 10 = .ok (.aload_n 0, 1) := by decide +kernel
theorem dX4_read_11 : decode cX4_read 11 = .ok (.invokevirtual 54, 3) := by decide +kernel
theorem dX4_read_14 : decode cX4_read 14 = .ok (.aload_n 0, 1) := by decide +kernel
theorem dX4_read_15 : decode cX4_read 15 = .ok (.getfield 7, 3) := by decide +kernel
theorem dX4_read_18 : decode cX4_read 18 = .ok (.iconst 0, 1) := by decide +kernel
theorem dX4_read_19 : decode cX4_read 19 = .ok (.aload_n 0, 1) := by decide +kernel
theorem dX4_read_20 : decode cX4_read 20 = .ok (.getfield 156, 3) := by decide +kernel
theorem dX4_read_23 : decode cX4_read 23 = .ok (.iastore, 1) := by decide +kernel
theorem dX4_read_24 : decode cX4_read 24 = .ok (.iconst 0, 1) := by decide +kernel
theorem dX4_read_25 : decode cX4_read 25 = .ok (.istore_n 1, 1) := by decide +kernel
theorem dX4_read_26 : decode cX4_read 26 = .ok (.iload_n 1, 1) := by decide +kernel
theorem dX4_read_27 : decode cX4_read 27 = .ok (.aload_n 0, 1) := by decide +kernel
theorem dX4_read_28 : decode cX4_read 28 = .ok (.getfield 156, 3) := by decide +kernel
theorem dX4_read_31 : decode cX4_read 31 = .ok (.if_icmp .ge 53, 3) := by decide +kernel
theorem dX4_read_34 : decode cX4_read 34 = .ok (.aload_n 0, 1) := by decide +kernel
theorem dX4_read_35 : decode cX4_read 35 = .ok (.getfield 7, 3) := by decide +kernel
theorem dX4_read_38 : decode cX4_read 38 = .ok (.iconst 1, 1) := by decide +kernel
theorem dX4_read_39 : decode cX4_read 39 = .ok (.iload_n 1, 1) := by decide +kernel
theorem dX4_read_40 : decode cX4_read 40 = .ok (.iadd, 1) := by decide +kernel
theorem dX4_read_41 : decode cX4_read 41 = .ok (.aload_n 0, 1) := by decide +kernel
theorem dX4_read_42 : decode cX4_read 42 = .ok (.getfield 31, 3) := by decide +kernel
theorem dX4_read_45 : decode cX4_read 45 = .ok (.iload_n 1, 1) := by decide +kernel
theorem dX4_read_46 : decode cX4_read 46 = .ok (.iaload, 1) := by decide +kernel
theorem dX4_read_47 : decode cX4_read 47 = .ok (.iastore, 1) := by decide +kernel
theorem dX4_read_48 : decode cX4_read 48 = .ok (.aload_n 0, 1) := by decide +kernel
theorem dX4_read_49 : decode cX4_read 49 = .ok (.getfield 7, 3) := by decide +kernel
theorem dX4_read_52 : decode cX4_read 52 = .ok (.bipush 13, 2) := by decide +kernel
theorem dX4_read_54 : decode cX4_read 54 = .ok (.iload_n 1, 1) := by decide +kernel
theorem dX4_read_55 : decode cX4_read 55 = .ok (.iadd, 1) := by decide +kernel
theorem dX4_read_56 : decode cX4_read 56 = .ok (.aload_n 0, 1) := by decide +kernel
theorem dX4_read_57 : decode cX4_read 57 = .ok (.getfield 34, 3) := by decide +kernel
theorem dX4_read_60 : decode cX4_read 60 = .ok (.iload_n 1, 1) := by decide +kernel
theorem dX4_read_61 : decode cX4_read 61 = .ok (.iaload, 1) := by decide +kernel
theorem dX4_read_62 : decode cX4_read 62 = .ok (.iastore, 1) := by decide +kernel
theorem dX4_read_63 : decode cX4_read 63 = .ok (.aload_n 0, 1) := by decide +kernel
theorem dX4_read_64 : decode cX4_read 64 = .ok (.getfield 7, 3) := by decide +kernel
theorem dX4_read_67 : decode cX4_read 67 = .ok (.bipush 25, 2) := by decide +kernel
theorem dX4_read_69 : decode cX4_read 69 = .ok (.iload_n 1, 1) := by decide +kernel
theorem dX4_read_70 : decode cX4_read 70 = .ok (.iadd, 1) := by decide +kernel
theorem dX4_read_71 : decode cX4_read 71 = .ok (.aload_n 0, 1) := by decide +kernel
theorem dX4_read_72 : decode cX4_read 72 = .ok (.getfield 37, 3) := by decide +kernel
theorem dX4_read_75 : decode cX4_read 75 = .ok (.iload_n 1, 1) := by decide +kernel
theorem dX4_read_76 : decode cX4_read 76 = .ok (.iaload, 1) := by decide +kernel
theorem dX4_read_77 : decode cX4_read 77 = .ok (.iastore, 1) := by decide +kernel
theorem dX4_read_78 : decode cX4_read 78 = .ok (.iinc 1 1, 3) := by decide +kernel
theorem dX4_read_81 : decode cX4_read 81 = .ok (.goto (-55), 3) := by decide +kernel
theorem dX4_read_84 : decode cX4_read 84 = .ok (.aload_n 0, 1) := by decide +kernel
theorem dX4_read_85 : decode cX4_read 85 = .ok (.getfield 156, 3) := by decide +kernel
theorem dX4_read_88 : decode cX4_read 88 = .ok (.ireturn, 1) := by decide +kernel
theorem dL_law_0 : decode cL_law 0 = .ok (.new 7, 3) := by decide +kernel
theorem dL_law_3 : decode cL_law 3 = .ok (.dup, 1) := by decide +kernel
theorem dL_law_4 : decode cL_law 4 = .ok (.invokespecial 9, 3) := by decide +kernel
theorem dL_law_7 : decode cL_law 7 = .ok (.astore_n 1, 1) := by decide +kernel
theorem dL_law_8 : decode cL_law 8 = .ok (.new 10, 3) := by decide +kernel
theorem dL_law_11 : decode cL_law 11 = .ok (.dup, 1) := by decide +kernel
theorem dL_law_12 : decode cL_law 12 = .ok (.invokespecial 12, 3) := by decide +kernel
theorem dL_law_15 : decode cL_law 15 = .ok (.astore_n 2, 1) := by decide +kernel
theorem dL_law_16 : decode cL_law 16 = .ok (.iconst 0, 1) := by decide +kernel
theorem dL_law_17 : decode cL_law 17 = .ok (.istore_n 3, 1) := by decide +kernel
theorem dL_law_18 : decode cL_law 18 = .ok (.iload_n 3, 1) := by decide +kernel
theorem dL_law_19 : decode cL_law 19 = .ok (.aload_n 0, 1) := by decide +kernel
theorem dL_law_20 : decode cL_law 20 = .ok (.arraylength, 1) := by decide +kernel
theorem dL_law_21 : decode cL_law 21 = .ok (.iconst 4, 1) := by decide +kernel
theorem dL_law_22 : decode cL_law 22 = .ok (.isub, 1) := by decide +kernel
theorem dL_law_23 : decode cL_law 23 = .ok (.if_icmp .gt 715, 3) := by decide +kernel
theorem dL_law_26 : decode cL_law 26 = .ok (.aload_n 0, 1) := by decide +kernel
theorem dL_law_27 : decode cL_law 27 = .ok (.iload_n 3, 1) := by decide +kernel
theorem dL_law_28 : decode cL_law 28 = .ok (.iaload, 1) := by decide +kernel
theorem dL_law_29 : decode cL_law 29 = .ok (.bipush 31, 2) := by decide +kernel
theorem dL_law_31 : decode cL_law 31 = .ok (.iand, 1) := by decide +kernel
theorem dL_law_32 : decode cL_law 32 = .ok (.tableswitch 700 0 21 #[104, 137, 170, 203, 246, 269, 302, 325, 358, 401, 434, 467, 500, 523, 556, 589, 602, 615, 628, 651, 664, 687], 104) := by decide +kernel
theorem dL_law_136 : decode cL_law 136 = .ok (.aload_n 1, 1) := by decide +kernel
theorem dL_law_137 : decode cL_law 137 = .ok (.aload_n 0, 1) := by decide +kernel
theorem dL_law_138 : decode cL_law 138 = .ok (.iload_n 3, 1) := by decide +kernel
theorem dL_law_139 : decode cL_law 139 = .ok (.iconst 1, 1) := by decide +kernel
theorem dL_law_140 : decode cL_law 140 = .ok (.iadd, 1) := by decide +kernel
theorem dL_law_141 : decode cL_law 141 = .ok (.iaload, 1) := by decide +kernel
theorem dL_law_142 : decode cL_law 142 = .ok (.aload_n 0, 1) := by decide +kernel
theorem dL_law_143 : decode cL_law 143 = .ok (.iload_n 3, 1) := by decide +kernel
theorem dL_law_144 : decode cL_law 144 = .ok (.iconst 2, 1) := by decide +kernel
theorem dL_law_145 : decode cL_law 145 = .ok (.iadd, 1) := by decide +kernel
theorem dL_law_146 : decode cL_law 146 = .ok (.iaload, 1) := by decide +kernel
theorem dL_law_147 : decode cL_law 147 = .ok (.invokevirtual 13, 3) := by decide +kernel
theorem dL_law_150 : decode cL_law 150 = .ok (.aload_n 2, 1) := by decide +kernel
theorem dL_law_151 : decode cL_law 151 = .ok (.aload_n 0, 1) := by decide +kernel
theorem dL_law_152 : decode cL_law 152 = .ok (.iload_n 3, 1) := by decide +kernel
theorem dL_law_153 : decode cL_law 153 = .ok (.iconst 1, 1) := by decide +kernel
theorem dL_law_154 : decode cL_law 154 = .ok (.iadd, 1) := by decide +kernel
theorem dL_law_155 : decode cL_law 155 = .ok (.iaload, 1) := by decide +kernel
theorem dL_law_156 : decode cL_law 156 = .ok (.aload_n 0, 1) := by decide +kernel
theorem dL_law_157 : decode cL_law 157 = .ok (.iload_n 3, 1) := by decide +kernel
theorem dL_law_158 : decode cL_law 158 = .ok (.iconst 2, 1) := by decide +kernel
theorem dL_law_159 : decode cL_law 159 = .ok (.iadd, 1) := by decide +kernel
theorem dL_law_160 : decode cL_law 160 = .ok (.iaload, 1) := by decide +kernel
theorem dL_law_161 : decode cL_law 161 = .ok (.invokevirtual 17, 3) := by decide +kernel
theorem dL_law_164 : decode cL_law 164 = .ok (.if_icmp .eq 568, 3) := by decide +kernel
theorem dL_law_167 : decode cL_law 167 = .ok (.iconst 0, 1) := by decide +kernel
theorem dL_law_168 : decode cL_law 168 = .ok (.ireturn, 1) := by decide +kernel
theorem dL_law_169 : decode cL_law 169 = .ok (.aload_n 1, 1) := by decide +kernel
theorem dL_law_170 : decode cL_law 170 = .ok (.aload_n 0, 1) := by decide +kernel
theorem dL_law_171 : decode cL_law 171 = .ok (.iload_n 3, 1) := by decide +kernel
theorem dL_law_172 : decode cL_law 172 = .ok (.iconst 1, 1) := by decide +kernel
theorem dL_law_173 : decode cL_law 173 = .ok (.iadd, 1) := by decide +kernel
theorem dL_law_174 : decode cL_law 174 = .ok (.iaload, 1) := by decide +kernel
theorem dL_law_175 : decode cL_law 175 = .ok (.aload_n 0, 1) := by decide +kernel
theorem dL_law_176 : decode cL_law 176 = .ok (.iload_n 3, 1) := by decide +kernel
theorem dL_law_177 : decode cL_law 177 = .ok (.iconst 2, 1) := by decide +kernel
theorem dL_law_178 : decode cL_law 178 = .ok (.iadd, 1) := by decide +kernel
theorem dL_law_179 : decode cL_law 179 = .ok (.iaload, 1) := by decide +kernel
theorem dL_law_180 : decode cL_law 180 = .ok (.invokevirtual 18, 3) := by decide +kernel
theorem dL_law_183 : decode cL_law 183 = .ok (.aload_n 2, 1) := by decide +kernel
theorem dL_law_184 : decode cL_law 184 = .ok (.aload_n 0, 1) := by decide +kernel
theorem dL_law_185 : decode cL_law 185 = .ok (.iload_n 3, 1) := by decide +kernel
theorem dL_law_186 : decode cL_law 186 = .ok (.iconst 1, 1) := by decide +kernel
theorem dL_law_187 : decode cL_law 187 = .ok (.iadd, 1) := by decide +kernel
theorem dL_law_188 : decode cL_law 188 = .ok (.iaload, 1) := by decide +kernel
theorem dL_law_189 : decode cL_law 189 = .ok (.aload_n 0, 1) := by decide +kernel
theorem dL_law_190 : decode cL_law 190 = .ok (.iload_n 3, 1) := by decide +kernel
theorem dL_law_191 : decode cL_law 191 = .ok (.iconst 2, 1) := by decide +kernel
theorem dL_law_192 : decode cL_law 192 = .ok (.iadd, 1) := by decide +kernel
theorem dL_law_193 : decode cL_law 193 = .ok (.iaload, 1) := by decide +kernel
theorem dL_law_194 : decode cL_law 194 = .ok (.invokevirtual 21, 3) := by decide +kernel
theorem dL_law_197 : decode cL_law 197 = .ok (.if_icmp .eq 535, 3) := by decide +kernel
theorem dL_law_200 : decode cL_law 200 = .ok (.iconst 0, 1) := by decide +kernel
theorem dL_law_201 : decode cL_law 201 = .ok (.ireturn, 1) := by decide +kernel
theorem dL_law_202 : decode cL_law 202 = .ok (.aload_n 1, 1) := by decide +kernel
theorem dL_law_203 : decode cL_law 203 = .ok (.aload_n 0, 1) := by decide +kernel
theorem dL_law_204 : decode cL_law 204 = .ok (.iload_n 3, 1) := by decide +kernel
theorem dL_law_205 : decode cL_law 205 = .ok (.iconst 1, 1) := by decide +kernel
theorem dL_law_206 : decode cL_law 206 = .ok (.iadd, 1) := by decide +kernel
theorem dL_law_207 : decode cL_law 207 = .ok (.iaload, 1) := by decide +kernel
theorem dL_law_208 : decode cL_law 208 = .ok (.aload_n 0, 1) := by decide +kernel
theorem dL_law_209 : decode cL_law 209 = .ok (.iload_n 3, 1) := by decide +kernel
theorem dL_law_210 : decode cL_law 210 = .ok (.iconst 2, 1) := by decide +kernel
theorem dL_law_211 : decode cL_law 211 = .ok (.iadd, 1) := by decide +kernel
theorem dL_law_212 : decode cL_law 212 = .ok (.iaload, 1) := by decide +kernel
theorem dL_law_213 : decode cL_law 213 = .ok (.invokevirtual 22, 3) := by decide +kernel
theorem dL_law_216 : decode cL_law 216 = .ok (.aload_n 2, 1) := by decide +kernel
theorem dL_law_217 : decode cL_law 217 = .ok (.aload_n 0, 1) := by decide +kernel
theorem dL_law_218 : decode cL_law 218 = .ok (.iload_n 3, 1) := by decide +kernel
theorem dL_law_219 : decode cL_law 219 = .ok (.iconst 1, 1) := by decide +kernel
theorem dL_law_220 : decode cL_law 220 = .ok (.iadd, 1) := by decide +kernel
theorem dL_law_221 : decode cL_law 221 = .ok (.iaload, 1) := by decide +kernel
theorem dL_law_222 : decode cL_law 222 = .ok (.aload_n 0, 1) := by decide +kernel
theorem dL_law_223 : decode cL_law 223 = .ok (.iload_n 3, 1) := by decide +kernel
theorem dL_law_224 : decode cL_law 224 = .ok (.iconst 2, 1) := by decide +kernel
theorem dL_law_225 : decode cL_law 225 = .ok (.iadd, 1) := by decide +kernel
theorem dL_law_226 : decode cL_law 226 = .ok (.iaload, 1) := by decide +kernel
theorem dL_law_227 : decode cL_law 227 = .ok (.invokevirtual 25, 3) := by decide +kernel
theorem dL_law_230 : decode cL_law 230 = .ok (.if_icmp .eq 502, 3) := by decide +kernel
theorem dL_law_233 : decode cL_law 233 = .ok (.iconst 0, 1) := by decide +kernel
theorem dL_law_234 : decode cL_law 234 = .ok (.ireturn, 1) := by decide +kernel
theorem dL_law_235 : decode cL_law 235 = .ok (.aload_n 1, 1) := by decide +kernel
theorem dL_law_236 : decode cL_law 236 = .ok (.aload_n 0, 1) := by decide +kernel
theorem dL_law_237 : decode cL_law 237 = .ok (.iload_n 3, 1) := by decide +kernel
theorem dL_law_238 : decode cL_law 238 = .ok (.iconst 1, 1) := by decide +kernel
theorem dL_law_239 : decode cL_law 239 = .ok (.iadd, 1) := by decide +kernel
theorem dL_law_240 : decode cL_law 240 = .ok (.iaload, 1) := by decide +kernel
theorem dL_law_241 : decode cL_law 241 = .ok (.aload_n 0, 1) := by decide +kernel
theorem dL_law_242 : decode cL_law 242 = .ok (.iload_n 3, 1) := by decide +kernel
theorem dL_law_243 : decode cL_law 243 = .ok (.iconst 2, 1) := by decide +kernel
theorem dL_law_244 : decode cL_law 244 = .ok (.iadd, 1) := by decide +kernel
theorem dL_law_245 : decode cL_law 245 = .ok (.iaload, 1) := by decide +kernel
theorem dL_law_246 : decode cL_law 246 = .ok (.aload_n 0, 1) := by decide +kernel
theorem dL_law_247 : decode cL_law 247 = .ok (.iload_n 3, 1) := by decide +kernel
theorem dL_law_248 : decode cL_law 248 = .ok (.iconst 3, 1) := by decide +kernel
theorem dL_law_249 : decode cL_law 249 = .ok (.iadd, 1) := by decide +kernel
theorem dL_law_250 : decode cL_law 250 = .ok (.iaload, 1) := by decide +kernel
theorem dL_law_251 : decode cL_law 251 = .ok (.invokevirtual 26, 3) := by decide +kernel
theorem dL_law_254 : decode cL_law 254 = .ok (.aload_n 2, 1) := by decide +kernel
theorem dL_law_255 : decode cL_law 255 = .ok (.aload_n 0, 1) := by decide +kernel
theorem dL_law_256 : decode cL_law 256 = .ok (.iload_n 3, 1) := by decide +kernel
theorem dL_law_257 : decode cL_law 257 = .ok (.iconst 1, 1) := by decide +kernel
theorem dL_law_258 : decode cL_law 258 = .ok (.iadd, 1) := by decide +kernel
theorem dL_law_259 : decode cL_law 259 = .ok (.iaload, 1) := by decide +kernel
theorem dL_law_260 : decode cL_law 260 = .ok (.aload_n 0, 1) := by decide +kernel
theorem dL_law_261 : decode cL_law 261 = .ok (.iload_n 3, 1) := by decide +kernel
theorem dL_law_262 : decode cL_law 262 = .ok (.iconst 2, 1) := by decide +kernel
theorem dL_law_263 : decode cL_law 263 = .ok (.iadd, 1) := by decide +kernel
theorem dL_law_264 : decode cL_law 264 = .ok (.iaload, 1) := by decide +kernel
theorem dL_law_265 : decode cL_law 265 = .ok (.aload_n 0, 1) := by decide +kernel
theorem dL_law_266 : decode cL_law 266 = .ok (.iload_n 3, 1) := by decide +kernel
theorem dL_law_267 : decode cL_law 267 = .ok (.iconst 3, 1) := by decide +kernel
theorem dL_law_268 : decode cL_law 268 = .ok (.iadd, 1) := by decide +kernel
theorem dL_law_269 : decode cL_law 269 = .ok (.iaload, 1) := by decide +kernel
theorem dL_law_270 : decode cL_law 270 = .ok (.invokevirtual 30, 3) := by decide +kernel
theorem dL_law_273 : decode cL_law 273 = .ok (.if_icmp .eq 459, 3) := by decide +kernel
theorem dL_law_276 : decode cL_law 276 = .ok (.iconst 0, 1) := by decide +kernel
theorem dL_law_277 : decode cL_law 277 = .ok (.ireturn, 1) := by decide +kernel
theorem dL_law_278 : decode cL_law 278 = .ok (.aload_n 1, 1) := by decide +kernel
theorem dL_law_279 : decode cL_law 279 = .ok (.aload_n 0, 1) := by decide +kernel
theorem dL_law_280 : decode cL_law 280 = .ok (.iload_n 3, 1) := by decide +kernel
theorem dL_law_281 : decode cL_law 281 = .ok (.iconst 1, 1) := by decide +kernel
theorem dL_law_282 : decode cL_law 282 = .ok (.iadd, 1) := by decide +kernel
theorem dL_law_283 : decode cL_law 283 = .ok (.iaload, 1) := by decide +kernel
theorem dL_law_284 : decode cL_law 284 = .ok (.invokevirtual 31, 3) := by decide +kernel
theorem dL_law_287 : decode cL_law 287 = .ok (.aload_n 2, 1) := by decide +kernel
theorem dL_law_288 : decode cL_law 288 = .ok (.aload_n 0, 1) := by decide +kernel
theorem dL_law_289 : decode cL_law 289 = .ok (.iload_n 3, 1) := by decide +kernel
theorem dL_law_290 : decode cL_law 290 = .ok (.iconst 1, 1) := by decide +kernel
theorem dL_law_291 : decode cL_law 291 = .ok (.iadd, 1) := by decide +kernel
theorem dL_law_292 : decode cL_law 292 = .ok (.iaload, 1) := by decide +kernel
theorem dL_law_293 : decode cL_law 293 = .ok (.invokevirtual 35, 3) := by decide +kernel
theorem dL_law_296 : decode cL_law 296 = .ok (.if_icmp .eq 436, 3) := by decide +kernel
theorem dL_law_299 : decode cL_law 299 = .ok (.iconst 0, 1) := by decide +kernel
theorem dL_law_300 : decode cL_law 300 = .ok (.ireturn, 1) := by decide +kernel
theorem dL_law_301 : decode cL_law 301 = .ok (.aload_n 1, 1) := by decide +kernel
theorem dL_law_302 : decode cL_law 302 = .ok (.aload_n 0, 1) := by decide +kernel
theorem dL_law_303 : decode cL_law 303 = .ok (.iload_n 3, 1) := by decide +kernel
theorem dL_law_304 : decode cL_law 304 = .ok (.iconst 1, 1) := by decide +kernel
theorem dL_law_305 : decode cL_law 305 = .ok (.iadd, 1) := by decide +kernel
theorem dL_law_306 : decode cL_law 306 = .ok (.iaload, 1) := by decide +kernel
theorem dL_law_307 : decode cL_law 307 = .ok (.aload_n 0, 1) := by decide +kernel
theorem dL_law_308 : decode cL_law 308 = .ok (.iload_n 3, 1) := by decide +kernel
theorem dL_law_309 : decode cL_law 309 = .ok (.iconst 2, 1) := by decide +kernel
theorem dL_law_310 : decode cL_law 310 = .ok (.iadd, 1) := by decide +kernel
theorem dL_law_311 : decode cL_law 311 = .ok (.iaload, 1) := by decide +kernel
theorem dL_law_312 : decode cL_law 312 = .ok (.invokevirtual 36, 3) := by decide +kernel
theorem dL_law_315 : decode cL_law 315 = .ok (.aload_n 2, 1) := by decide +kernel
theorem dL_law_316 : decode cL_law 316 = .ok (.aload_n 0, 1) := by decide +kernel
theorem dL_law_317 : decode cL_law 317 = .ok (.iload_n 3, 1) := by decide +kernel
theorem dL_law_318 : decode cL_law 318 = .ok (.iconst 1, 1) := by decide +kernel
theorem dL_law_319 : decode cL_law 319 = .ok (.iadd, 1) := by decide +kernel
theorem dL_law_320 : decode cL_law 320 = .ok (.iaload, 1) := by decide +kernel
theorem dL_law_321 : decode cL_law 321 = .ok (.aload_n 0, 1) := by decide +kernel
theorem dL_law_322 : decode cL_law 322 = .ok (.iload_n 3, 1) := by decide +kernel
theorem dL_law_323 : decode cL_law 323 = .ok (.iconst 2, 1) := by decide +kernel
theorem dL_law_324 : decode cL_law 324 = .ok (.iadd, 1) := by decide +kernel
theorem dL_law_325 : decode cL_law 325 = .ok (.iaload, 1) := by decide +kernel
theorem dL_law_326 : decode cL_law 326 = .ok (.invokevirtual 39, 3) := by decide +kernel
theorem dL_law_329 : decode cL_law 329 = .ok (.if_icmp .eq 403, 3) := by decide +kernel
theorem dL_law_332 : decode cL_law 332 = .ok (.iconst 0, 1) := by decide +kernel
theorem dL_law_333 : decode cL_law 333 = .ok (.ireturn, 1) := by decide +kernel
theorem dL_law_334 : decode cL_law 334 = .ok (.aload_n 1, 1) := by decide +kernel
theorem dL_law_335 : decode cL_law 335 = .ok (.aload_n 0, 1) := by decide +kernel
theorem dL_law_336 : decode cL_law 336 = .ok (.iload_n 3, 1) := by decide +kernel
theorem dL_law_337 : decode cL_law 337 = .ok (.iconst 1, 1) := by decide +kernel
theorem dL_law_338 : decode cL_law 338 = .ok (.iadd, 1) := by decide +kernel
theorem dL_law_339 : decode cL_law 339 = .ok (.iaload, 1) := by decide +kernel
theorem dL_law_340 : decode cL_law 340 = .ok (.invokevirtual 40, 3) := by decide +kernel
theorem dL_law_343 : decode cL_law 343 = .ok (.aload_n 2, 1) := by decide +kernel
theorem dL_law_344 : decode cL_law 344 = .ok (.aload_n 0, 1) := by decide +kernel
theorem dL_law_345 : decode cL_law 345 = .ok (.iload_n 3, 1) := by decide +kernel
theorem dL_law_346 : decode cL_law 346 = .ok (.iconst 1, 1) := by decide +kernel
theorem dL_law_347 : decode cL_law 347 = .ok (.iadd, 1) := by decide +kernel
theorem dL_law_348 : decode cL_law 348 = .ok (.iaload, 1) := by decide +kernel
theorem dL_law_349 : decode cL_law 349 = .ok (.invokevirtual 43, 3) := by decide +kernel
theorem dL_law_352 : decode cL_law 352 = .ok (.if_icmp .eq 380, 3) := by decide +kernel
theorem dL_law_355 : decode cL_law 355 = .ok (.iconst 0, 1) := by decide +kernel
theorem dL_law_356 : decode cL_law 356 = .ok (.ireturn, 1) := by decide +kernel
theorem dL_law_357 : decode cL_law 357 = .ok (.aload_n 1, 1) := by decide +kernel
theorem dL_law_358 : decode cL_law 358 = .ok (.aload_n 0, 1) := by decide +kernel
theorem dL_law_359 : decode cL_law 359 = .ok (.iload_n 3, 1) := by decide +kernel
theorem dL_law_360 : decode cL_law 360 = .ok (.iconst 1, 1) := by decide +kernel
theorem dL_law_361 : decode cL_law 361 = .ok (.iadd, 1) := by decide +kernel
theorem dL_law_362 : decode cL_law 362 = .ok (.iaload, 1) := by decide +kernel
theorem dL_law_363 : decode cL_law 363 = .ok (.aload_n 0, 1) := by decide +kernel
theorem dL_law_364 : decode cL_law 364 = .ok (.iload_n 3, 1) := by decide +kernel
theorem dL_law_365 : decode cL_law 365 = .ok (.iconst 2, 1) := by decide +kernel
theorem dL_law_366 : decode cL_law 366 = .ok (.iadd, 1) := by decide +kernel
theorem dL_law_367 : decode cL_law 367 = .ok (.iaload, 1) := by decide +kernel
theorem dL_law_368 : decode cL_law 368 = .ok (.invokevirtual 44, 3) := by decide +kernel
theorem dL_law_371 : decode cL_law 371 = .ok (.aload_n 2, 1) := by decide +kernel
theorem dL_law_372 : decode cL_law 372 = .ok (.aload_n 0, 1) := by decide +kernel
theorem dL_law_373 : decode cL_law 373 = .ok (.iload_n 3, 1) := by decide +kernel
theorem dL_law_374 : decode cL_law 374 = .ok (.iconst 1, 1) := by decide +kernel
theorem dL_law_375 : decode cL_law 375 = .ok (.iadd, 1) := by decide +kernel
theorem dL_law_376 : decode cL_law 376 = .ok (.iaload, 1) := by decide +kernel
theorem dL_law_377 : decode cL_law 377 = .ok (.aload_n 0, 1) := by decide +kernel
theorem dL_law_378 : decode cL_law 378 = .ok (.iload_n 3, 1) := by decide +kernel
theorem dL_law_379 : decode cL_law 379 = .ok (.iconst 2, 1) := by decide +kernel
theorem dL_law_380 : decode cL_law 380 = .ok (.iadd, 1) := by decide +kernel
theorem dL_law_381 : decode cL_law 381 = .ok (.iaload, 1) := by decide +kernel
theorem dL_law_382 : decode cL_law 382 = .ok (.invokevirtual 47, 3) := by decide +kernel
theorem dL_law_385 : decode cL_law 385 = .ok (.if_icmp .eq 347, 3) := by decide +kernel
theorem dL_law_388 : decode cL_law 388 = .ok (.iconst 0, 1) := by decide +kernel
theorem dL_law_389 : decode cL_law 389 = .ok (.ireturn, 1) := by decide +kernel
theorem dL_law_390 : decode cL_law 390 = .ok (.aload_n 1, 1) := by decide +kernel
theorem dL_law_391 : decode cL_law 391 = .ok (.aload_n 0, 1) := by decide +kernel
theorem dL_law_392 : decode cL_law 392 = .ok (.iload_n 3, 1) := by decide +kernel
theorem dL_law_393 : decode cL_law 393 = .ok (.iconst 1, 1) := by decide +kernel
theorem dL_law_394 : decode cL_law 394 = .ok (.iadd, 1) := by decide +kernel
theorem dL_law_395 : decode cL_law 395 = .ok (.iaload, 1) := by decide +kernel
theorem dL_law_396 : decode cL_law 396 = .ok (.aload_n 0, 1) := by decide +kernel
theorem dL_law_397 : decode cL_law 397 = .ok (.iload_n 3, 1) := by decide +kernel
theorem dL_law_398 : decode cL_law 398 = .ok (.iconst 2, 1) := by decide +kernel
theorem dL_law_399 : decode cL_law 399 = .ok (.iadd, 1) := by decide +kernel
theorem dL_law_400 : decode cL_law 400 = .ok (.iaload, 1) := by decide +kernel
theorem dL_law_401 : decode cL_law 401 = .ok (.aload_n 0, 1) := by decide +kernel
theorem dL_law_402 : decode cL_law 402 = .ok (.iload_n 3, 1) := by decide +kernel
theorem dL_law_403 : decode cL_law 403 = .ok (.iconst 3, 1) := by decide +kernel
theorem dL_law_404 : decode cL_law 404 = .ok (.iadd, 1) := by decide +kernel
theorem dL_law_405 : decode cL_law 405 = .ok (.iaload, 1) := by decide +kernel
theorem dL_law_406 : decode cL_law 406 = .ok (.invokevirtual 48, 3) := by decide +kernel
theorem dL_law_409 : decode cL_law 409 = .ok (.aload_n 2, 1) := by decide +kernel
theorem dL_law_410 : decode cL_law 410 = .ok (.aload_n 0, 1) := by decide +kernel
theorem dL_law_411 : decode cL_law 411 = .ok (.iload_n 3, 1) := by decide +kernel
theorem dL_law_412 : decode cL_law 412 = .ok (.iconst 1, 1) := by decide +kernel
theorem dL_law_413 : decode cL_law 413 = .ok (.iadd, 1) := by decide +kernel
theorem dL_law_414 : decode cL_law 414 = .ok (.iaload, 1) := by decide +kernel
theorem dL_law_415 : decode cL_law 415 = .ok (.aload_n 0, 1) := by decide +kernel
theorem dL_law_416 : decode cL_law 416 = .ok (.iload_n 3, 1) := by decide +kernel
theorem dL_law_417 : decode cL_law 417 = .ok (.iconst 2, 1) := by decide +kernel
theorem dL_law_418 : decode cL_law 418 = .ok (.iadd, 1) := by decide +kernel
theorem dL_law_419 : decode cL_law 419 = .ok (.iaload, 1) := by decide +kernel
theorem dL_law_420 : decode cL_law 420 = .ok (.aload_n 0, 1) := by decide +kernel
theorem dL_law_421 : decode cL_law 421 = .ok (.iload_n 3, 1) := by decide +kernel
theorem dL_law_422 : decode cL_law 422 = .ok (.iconst 3, 1) := by decide +kernel
theorem dL_law_423 : decode cL_law 423 = .ok (.iadd, 1) := by decide +kernel
theorem dL_law_424 : decode cL_law 424 = .ok (.iaload, 1) := by decide +kernel
theorem dL_law_425 : decode cL_law 425 = .ok (.invokevirtual 51, 3) := by decide +kernel
theorem dL_law_428 : decode cL_law 428 = .ok (.if_icmp .eq 304, 3) := by decide +kernel
theorem dL_law_431 : decode cL_law 431 = .ok (.iconst 0, 1) := by decide +kernel
theorem dL_law_432 : decode cL_law 432 = .ok (.ireturn, 1) := by decide +kernel
theorem dL_law_433 : decode cL_law 433 = .ok (.aload_n 1, 1) := by decide +kernel
theorem dL_law_434 : decode cL_law 434 = .ok (.aload_n 0, 1) := by decide +kernel
theorem dL_law_435 : decode cL_law 435 = .ok (.iload_n 3, 1) := by decide +kernel
theorem dL_law_436 : decode cL_law 436 = .ok (.iconst 1, 1) := by decide +kernel
theorem dL_law_437 : decode cL_law 437 = .ok (.iadd, 1) := by decide +kernel
theorem dL_law_438 : decode cL_law 438 = .ok (.iaload, 1) := by decide +kernel
theorem dL_law_439 : decode cL_law 439 = .ok (.aload_n 0, 1) := by decide +kernel
theorem dL_law_440 : decode cL_law 440 = .ok (.iload_n 3, 1) := by decide +kernel
theorem dL_law_441 : decode cL_law 441 = .ok (.iconst 2, 1) := by decide +kernel
theorem dL_law_442 : decode cL_law 442 = .ok (.iadd, 1) := by decide +kernel
theorem dL_law_443 : decode cL_law 443 = .ok (.iaload, 1) := by decide +kernel
theorem dL_law_444 : decode cL_law 444 = .ok (.invokevirtual 52, 3) := by decide +kernel
theorem dL_law_447 : decode cL_law 447 = .ok (.aload_n 2, 1) := by decide +kernel
theorem dL_law_448 : decode cL_law 448 = .ok (.aload_n 0, 1) := by decide +kernel
theorem dL_law_449 : decode cL_law 449 = .ok (.iload_n 3, 1) := by decide +kernel
theorem dL_law_450 : decode cL_law 450 = .ok (.iconst 1, 1) := by decide +kernel
theorem dL_law_451 : decode cL_law 451 = .ok (.iadd, 1) := by decide +kernel
theorem dL_law_452 : decode cL_law 452 = .ok (.iaload, 1) := by decide +kernel
theorem dL_law_453 : decode cL_law 453 = .ok (.aload_n 0, 1) := by decide +kernel
theorem dL_law_454 : decode cL_law 454 = .ok (.iload_n 3, 1) := by decide +kernel
theorem dL_law_455 : decode cL_law 455 = .ok (.iconst 2, 1) := by decide +kernel
theorem dL_law_456 : decode cL_law 456 = .ok (.iadd, 1) := by decide +kernel
theorem dL_law_457 : decode cL_law 457 = .ok (.iaload, 1) := by decide +kernel
theorem dL_law_458 : decode cL_law 458 = .ok (.invokevirtual 55, 3) := by decide +kernel
theorem dL_law_461 : decode cL_law 461 = .ok (.if_icmp .eq 271, 3) := by decide +kernel
theorem dL_law_464 : decode cL_law 464 = .ok (.iconst 0, 1) := by decide +kernel
theorem dL_law_465 : decode cL_law 465 = .ok (.ireturn, 1) := by decide +kernel
theorem dL_law_466 : decode cL_law 466 = .ok (.aload_n 1, 1) := by decide +kernel
theorem dL_law_467 : decode cL_law 467 = .ok (.aload_n 0, 1) := by decide +kernel
theorem dL_law_468 : decode cL_law 468 = .ok (.iload_n 3, 1) := by decide +kernel
theorem dL_law_469 : decode cL_law 469 = .ok (.iconst 1, 1) := by decide +kernel
theorem dL_law_470 : decode cL_law 470 = .ok (.iadd, 1) := by decide +kernel
theorem dL_law_471 : decode cL_law 471 = .ok (.iaload, 1) := by decide +kernel
theorem dL_law_472 : decode cL_law 472 = .ok (.aload_n 0, 1) := by decide +kernel
theorem dL_law_473 : decode cL_law 473 = .ok (.iload_n 3, 1) := by decide +kernel
theorem dL_law_474 : decode cL_law 474 = .ok (.iconst 2, 1) := by decide +kernel
theorem dL_law_475 : decode cL_law 475 = .ok (.iadd, 1) := by decide +kernel
theorem dL_law_476 : decode cL_law 476 = .ok (.iaload, 1) := by decide +kernel
theorem dL_law_477 : decode cL_law 477 = .ok (.invokevirtual 56, 3) := by decide +kernel
theorem dL_law_480 : decode cL_law 480 = .ok (.aload_n 2, 1) := by decide +kernel
theorem dL_law_481 : decode cL_law 481 = .ok (.aload_n 0, 1) := by decide +kernel
theorem dL_law_482 : decode cL_law 482 = .ok (.iload_n 3, 1) := by decide +kernel
theorem dL_law_483 : decode cL_law 483 = .ok (.iconst 1, 1) := by decide +kernel
theorem dL_law_484 : decode cL_law 484 = .ok (.iadd, 1) := by decide +kernel
theorem dL_law_485 : decode cL_law 485 = .ok (.iaload, 1) := by decide +kernel
theorem dL_law_486 : decode cL_law 486 = .ok (.aload_n 0, 1) := by decide +kernel
theorem dL_law_487 : decode cL_law 487 = .ok (.iload_n 3, 1) := by decide +kernel
theorem dL_law_488 : decode cL_law 488 = .ok (.iconst 2, 1) := by decide +kernel
theorem dL_law_489 : decode cL_law 489 = .ok (.iadd, 1) := by decide +kernel
theorem dL_law_490 : decode cL_law 490 = .ok (.iaload, 1) := by decide +kernel
theorem dL_law_491 : decode cL_law 491 = .ok (.invokevirtual 59, 3) := by decide +kernel
theorem dL_law_494 : decode cL_law 494 = .ok (.if_icmp .eq 238, 3) := by decide +kernel
theorem dL_law_497 : decode cL_law 497 = .ok (.iconst 0, 1) := by decide +kernel
theorem dL_law_498 : decode cL_law 498 = .ok (.ireturn, 1) := by decide +kernel
theorem dL_law_499 : decode cL_law 499 = .ok (.aload_n 1, 1) := by decide +kernel
theorem dL_law_500 : decode cL_law 500 = .ok (.aload_n 0, 1) := by decide +kernel
theorem dL_law_501 : decode cL_law 501 = .ok (.iload_n 3, 1) := by decide +kernel
theorem dL_law_502 : decode cL_law 502 = .ok (.iconst 1, 1) := by decide +kernel
theorem dL_law_503 : decode cL_law 503 = .ok (.iadd, 1) := by decide +kernel
theorem dL_law_504 : decode cL_law 504 = .ok (.iaload, 1) := by decide +kernel
theorem dL_law_505 : decode cL_law 505 = .ok (.aload_n 0, 1) := by decide +kernel
theorem dL_law_506 : decode cL_law 506 = .ok (.iload_n 3, 1) := by decide +kernel
theorem dL_law_507 : decode cL_law 507 = .ok (.iconst 2, 1) := by decide +kernel
theorem dL_law_508 : decode cL_law 508 = .ok (.iadd, 1) := by decide +kernel
theorem dL_law_509 : decode cL_law 509 = .ok (.iaload, 1) := by decide +kernel
theorem dL_law_510 : decode cL_law 510 = .ok (.invokevirtual 60, 3) := by decide +kernel
theorem dL_law_513 : decode cL_law 513 = .ok (.aload_n 2, 1) := by decide +kernel
theorem dL_law_514 : decode cL_law 514 = .ok (.aload_n 0, 1) := by decide +kernel
theorem dL_law_515 : decode cL_law 515 = .ok (.iload_n 3, 1) := by decide +kernel
theorem dL_law_516 : decode cL_law 516 = .ok (.iconst 1, 1) := by decide +kernel
theorem dL_law_517 : decode cL_law 517 = .ok (.iadd, 1) := by decide +kernel
theorem dL_law_518 : decode cL_law 518 = .ok (.iaload, 1) := by decide +kernel
theorem dL_law_519 : decode cL_law 519 = .ok (.aload_n 0, 1) := by decide +kernel
theorem dL_law_520 : decode cL_law 520 = .ok (.iload_n 3, 1) := by decide +kernel
theorem dL_law_521 : decode cL_law 521 = .ok (.iconst 2, 1) := by decide +kernel
theorem dL_law_522 : decode cL_law 522 = .ok (.iadd, 1) := by decide +kernel
theorem dL_law_523 : decode cL_law 523 = .ok (.iaload, 1) := by decide +kernel
theorem dL_law_524 : decode cL_law 524 = .ok (.invokevirtual 63, 3) := by decide +kernel
theorem dL_law_527 : decode cL_law 527 = .ok (.if_icmp .eq 205, 3) := by decide +kernel
theorem dL_law_530 : decode cL_law 530 = .ok (.iconst 0, 1) := by decide +kernel
theorem dL_law_531 : decode cL_law 531 = .ok (.ireturn, 1) := by decide +kernel
theorem dL_law_532 : decode cL_law 532 = .ok (.aload_n 1, 1) := by decide +kernel
theorem dL_law_533 : decode cL_law 533 = .ok (.aload_n 0, 1) := by decide +kernel
theorem dL_law_534 : decode cL_law 534 = .ok (.iload_n 3, 1) := by decide +kernel
theorem dL_law_535 : decode cL_law 535 = .ok (.iconst 1, 1) := by decide +kernel
theorem dL_law_536 : decode cL_law 536 = .ok (.iadd, 1) := by decide +kernel
theorem dL_law_537 : decode cL_law 537 = .ok (.iaload, 1) := by decide +kernel
theorem dL_law_538 : decode cL_law 538 = .ok (.invokevirtual 64, 3) := by decide +kernel
theorem dL_law_541 : decode cL_law 541 = .ok (.aload_n 2, 1) := by decide +kernel
theorem dL_law_542 : decode cL_law 542 = .ok (.aload_n 0, 1) := by decide +kernel
theorem dL_law_543 : decode cL_law 543 = .ok (.iload_n 3, 1) := by decide +kernel
theorem dL_law_544 : decode cL_law 544 = .ok (.iconst 1, 1) := by decide +kernel
theorem dL_law_545 : decode cL_law 545 = .ok (.iadd, 1) := by decide +kernel
theorem dL_law_546 : decode cL_law 546 = .ok (.iaload, 1) := by decide +kernel
theorem dL_law_547 : decode cL_law 547 = .ok (.invokevirtual 67, 3) := by decide +kernel
theorem dL_law_550 : decode cL_law 550 = .ok (.if_icmp .eq 182, 3) := by decide +kernel
theorem dL_law_553 : decode cL_law 553 = .ok (.iconst 0, 1) := by decide +kernel
theorem dL_law_554 : decode cL_law 554 = .ok (.ireturn, 1) := by decide +kernel
theorem dL_law_555 : decode cL_law 555 = .ok (.aload_n 1, 1) := by decide +kernel
theorem dL_law_556 : decode cL_law 556 = .ok (.aload_n 0, 1) := by decide +kernel
theorem dL_law_557 : decode cL_law 557 = .ok (.iload_n 3, 1) := by decide +kernel
theorem dL_law_558 : decode cL_law 558 = .ok (.iconst 1, 1) := by decide +kernel
theorem dL_law_559 : decode cL_law 559 = .ok (.iadd, 1) := by decide +kernel
theorem dL_law_560 : decode cL_law 560 = .ok (.iaload, 1) := by decide +kernel
theorem dL_law_561 : decode cL_law 561 = .ok (.aload_n 0, 1) := by decide +kernel
theorem dL_law_562 : decode cL_law 562 = .ok (.iload_n 3, 1) := by decide +kernel
theorem dL_law_563 : decode cL_law 563 = .ok (.iconst 2, 1) := by decide +kernel
theorem dL_law_564 : decode cL_law 564 = .ok (.iadd, 1) := by decide +kernel
theorem dL_law_565 : decode cL_law 565 = .ok (.iaload, 1) := by decide +kernel
theorem dL_law_566 : decode cL_law 566 = .ok (.invokevirtual 68, 3) := by decide +kernel
theorem dL_law_569 : decode cL_law 569 = .ok (.aload_n 2, 1) := by decide +kernel
theorem dL_law_570 : decode cL_law 570 = .ok (.aload_n 0, 1) := by decide +kernel
theorem dL_law_571 : decode cL_law 571 = .ok (.iload_n 3, 1) := by decide +kernel
theorem dL_law_572 : decode cL_law 572 = .ok (.iconst 1, 1) := by decide +kernel
theorem dL_law_573 : decode cL_law 573 = .ok (.iadd, 1) := by decide +kernel
theorem dL_law_574 : decode cL_law 574 = .ok (.iaload, 1) := by decide +kernel
theorem dL_law_575 : decode cL_law 575 = .ok (.aload_n 0, 1) := by decide +kernel
theorem dL_law_576 : decode cL_law 576 = .ok (.iload_n 3, 1) := by decide +kernel
theorem dL_law_577 : decode cL_law 577 = .ok (.iconst 2, 1) := by decide +kernel
theorem dL_law_578 : decode cL_law 578 = .ok (.iadd, 1) := by decide +kernel
theorem dL_law_579 : decode cL_law 579 = .ok (.iaload, 1) := by decide +kernel
theorem dL_law_580 : decode cL_law 580 = .ok (.invokevirtual 71, 3) := by decide +kernel
theorem dL_law_583 : decode cL_law 583 = .ok (.if_icmp .eq 149, 3) := by decide +kernel
theorem dL_law_586 : decode cL_law 586 = .ok (.iconst 0, 1) := by decide +kernel
theorem dL_law_587 : decode cL_law 587 = .ok (.ireturn, 1) := by decide +kernel
theorem dL_law_588 : decode cL_law 588 = .ok (.aload_n 1, 1) := by decide +kernel
theorem dL_law_589 : decode cL_law 589 = .ok (.aload_n 0, 1) := by decide +kernel
theorem dL_law_590 : decode cL_law 590 = .ok (.iload_n 3, 1) := by decide +kernel
theorem dL_law_591 : decode cL_law 591 = .ok (.iconst 1, 1) := by decide +kernel
theorem dL_law_592 : decode cL_law 592 = .ok (.iadd, 1) := by decide +kernel
theorem dL_law_593 : decode cL_law 593 = .ok (.iaload, 1) := by decide +kernel
theorem dL_law_594 : decode cL_law 594 = .ok (.aload_n 0, 1) := by decide +kernel
theorem dL_law_595 : decode cL_law 595 = .ok (.iload_n 3, 1) := by decide +kernel
theorem dL_law_596 : decode cL_law 596 = .ok (.iconst 2, 1) := by decide +kernel
theorem dL_law_597 : decode cL_law 597 = .ok (.iadd, 1) := by decide +kernel
theorem dL_law_598 : decode cL_law 598 = .ok (.iaload, 1) := by decide +kernel
theorem dL_law_599 : decode cL_law 599 = .ok (.invokevirtual 72, 3) := by decide +kernel
theorem dL_law_602 : decode cL_law 602 = .ok (.aload_n 2, 1) := by decide +kernel
theorem dL_law_603 : decode cL_law 603 = .ok (.aload_n 0, 1) := by decide +kernel
theorem dL_law_604 : decode cL_law 604 = .ok (.iload_n 3, 1) := by decide +kernel
theorem dL_law_605 : decode cL_law 605 = .ok (.iconst 1, 1) := by decide +kernel
theorem dL_law_606 : decode cL_law 606 = .ok (.iadd, 1) := by decide +kernel
theorem dL_law_607 : decode cL_law 607 = .ok (.iaload, 1) := by decide +kernel
theorem dL_law_608 : decode cL_law 608 = .ok (.aload_n 0, 1) := by decide +kernel
theorem dL_law_609 : decode cL_law 609 = .ok (.iload_n 3, 1) := by decide +kernel
theorem dL_law_610 : decode cL_law 610 = .ok (.iconst 2, 1) := by decide +kernel
theorem dL_law_611 : decode cL_law 611 = .ok (.iadd, 1) := by decide +kernel
theorem dL_law_612 : decode cL_law 612 = .ok (.iaload, 1) := by decide +kernel
theorem dL_law_613 : decode cL_law 613 = .ok (.invokevirtual 75, 3) := by decide +kernel
theorem dL_law_616 : decode cL_law 616 = .ok (.if_icmp .eq 116, 3) := by decide +kernel
theorem dL_law_619 : decode cL_law 619 = .ok (.iconst 0, 1) := by decide +kernel
theorem dL_law_620 : decode cL_law 620 = .ok (.ireturn, 1) := by decide +kernel
theorem dL_law_621 : decode cL_law 621 = .ok (.aload_n 1, 1) := by decide +kernel
theorem dL_law_622 : decode cL_law 622 = .ok (.invokevirtual 76, 3) := by decide +kernel
theorem dL_law_625 : decode cL_law 625 = .ok (.aload_n 2, 1) := by decide +kernel
theorem dL_law_626 : decode cL_law 626 = .ok (.invokevirtual 80, 3) := by decide +kernel
theorem dL_law_629 : decode cL_law 629 = .ok (.if_icmp .eq 103, 3) := by decide +kernel
theorem dL_law_632 : decode cL_law 632 = .ok (.iconst 0, 1) := by decide +kernel
theorem dL_law_633 : decode cL_law 633 = .ok (.ireturn, 1) := by decide +kernel
theorem dL_law_634 : decode cL_law 634 = .ok (.aload_n 1, 1) := by decide +kernel
theorem dL_law_635 : decode cL_law 635 = .ok (.invokevirtual 81, 3) := by decide +kernel
theorem dL_law_638 : decode cL_law 638 = .ok (.aload_n 2, 1) := by decide +kernel
theorem dL_law_639 : decode cL_law 639 = .ok (.invokevirtual 84, 3) := by decide +kernel
theorem dL_law_642 : decode cL_law 642 = .ok (.if_icmp .eq 90, 3) := by decide +kernel
theorem dL_law_645 : decode cL_law 645 = .ok (.iconst 0, 1) := by decide +kernel
theorem dL_law_646 : decode cL_law 646 = .ok (.ireturn, 1) := by decide +kernel
theorem dL_law_647 : decode cL_law 647 = .ok (.aload_n 1, 1) := by decide +kernel
theorem dL_law_648 : decode cL_law 648 = .ok (.invokevirtual 85, 3) := by decide +kernel
theorem dL_law_651 : decode cL_law 651 = .ok (.aload_n 2, 1) := by decide +kernel
theorem dL_law_652 : decode cL_law 652 = .ok (.invokevirtual 88, 3) := by decide +kernel
theorem dL_law_655 : decode cL_law 655 = .ok (.if_icmp .eq 77, 3) := by decide +kernel
theorem dL_law_658 : decode cL_law 658 = .ok (.iconst 0, 1) := by decide +kernel
theorem dL_law_659 : decode cL_law 659 = .ok (.ireturn, 1) := by decide +kernel
theorem dL_law_660 : decode cL_law 660 = .ok (.aload_n 1, 1) := by decide +kernel
theorem dL_law_661 : decode cL_law 661 = .ok (.aload_n 0, 1) := by decide +kernel
theorem dL_law_662 : decode cL_law 662 = .ok (.iload_n 3, 1) := by decide +kernel
theorem dL_law_663 : decode cL_law 663 = .ok (.iconst 1, 1) := by decide +kernel
theorem dL_law_664 : decode cL_law 664 = .ok (.iadd, 1) := by decide +kernel
theorem dL_law_665 : decode cL_law 665 = .ok (.iaload, 1) := by decide +kernel
theorem dL_law_666 : decode cL_law 666 = .ok (.invokevirtual 89, 3) := by decide +kernel
theorem dL_law_669 : decode cL_law 669 = .ok (.aload_n 2, 1) := by decide +kernel
theorem dL_law_670 : decode cL_law 670 = .ok (.aload_n 0, 1) := by decide +kernel
theorem dL_law_671 : decode cL_law 671 = .ok (.iload_n 3, 1) := by decide +kernel
theorem dL_law_672 : decode cL_law 672 = .ok (.iconst 1, 1) := by decide +kernel
theorem dL_law_673 : decode cL_law 673 = .ok (.iadd, 1) := by decide +kernel
theorem dL_law_674 : decode cL_law 674 = .ok (.iaload, 1) := by decide +kernel
theorem dL_law_675 : decode cL_law 675 = .ok (.invokevirtual 92, 3) := by decide +kernel
theorem dL_law_678 : decode cL_law 678 = .ok (.if_icmp .eq 54, 3) := by decide +kernel
theorem dL_law_681 : decode cL_law 681 = .ok (.iconst 0, 1) := by decide +kernel
theorem dL_law_682 : decode cL_law 682 = .ok (.ireturn, 1) := by decide +kernel
theorem dL_law_683 : decode cL_law 683 = .ok (.aload_n 1, 1) := by decide +kernel
theorem dL_law_684 : decode cL_law 684 = .ok (.invokevirtual 93, 3) := by decide +kernel
theorem dL_law_687 : decode cL_law 687 = .ok (.aload_n 2, 1) := by decide +kernel
theorem dL_law_688 : decode cL_law 688 = .ok (.invokevirtual 96, 3) := by decide +kernel
theorem dL_law_691 : decode cL_law 691 = .ok (.if_icmp .eq 41, 3) := by decide +kernel
theorem dL_law_694 : decode cL_law 694 = .ok (.iconst 0, 1) := by decide +kernel
theorem dL_law_695 : decode cL_law 695 = .ok (.ireturn, 1) := by decide +kernel
theorem dL_law_696 : decode cL_law 696 = .ok (.aload_n 1, 1) := by decide +kernel
theorem dL_law_697 : decode cL_law 697 = .ok (.aload_n 0, 1) := by decide +kernel
theorem dL_law_698 : decode cL_law 698 = .ok (.iload_n 3, 1) := by decide +kernel
theorem dL_law_699 : decode cL_law 699 = .ok (.iconst 1, 1) := by decide +kernel
theorem dL_law_700 : decode cL_law 700 = .ok (.iadd, 1) := by decide +kernel
theorem dL_law_701 : decode cL_law 701 = .ok (.iaload, 1) := by decide +kernel
theorem dL_law_702 : decode cL_law 702 = .ok (.invokevirtual 97, 3) := by decide +kernel
theorem dL_law_705 : decode cL_law 705 = .ok (.aload_n 2, 1) := by decide +kernel
theorem dL_law_706 : decode cL_law 706 = .ok (.aload_n 0, 1) := by decide +kernel
theorem dL_law_707 : decode cL_law 707 = .ok (.iload_n 3, 1) := by decide +kernel
theorem dL_law_708 : decode cL_law 708 = .ok (.iconst 1, 1) := by decide +kernel
theorem dL_law_709 : decode cL_law 709 = .ok (.iadd, 1) := by decide +kernel
theorem dL_law_710 : decode cL_law 710 = .ok (.iaload, 1) := by decide +kernel
theorem dL_law_711 : decode cL_law 711 = .ok (.invokevirtual 100, 3) := by decide +kernel
theorem dL_law_714 : decode cL_law 714 = .ok (.if_icmp .eq 18, 3) := by decide +kernel
theorem dL_law_717 : decode cL_law 717 = .ok (.iconst 0, 1) := by decide +kernel
theorem dL_law_718 : decode cL_law 718 = .ok (.ireturn, 1) := by decide +kernel
theorem dL_law_719 : decode cL_law 719 = .ok (.aload_n 1, 1) := by decide +kernel
theorem dL_law_720 : decode cL_law 720 = .ok (.invokevirtual 101, 3) := by decide +kernel
theorem dL_law_723 : decode cL_law 723 = .ok (.aload_n 2, 1) := by decide +kernel
theorem dL_law_724 : decode cL_law 724 = .ok (.invokevirtual 104, 3) := by decide +kernel
theorem dL_law_727 : decode cL_law 727 = .ok (.if_icmp .eq 5, 3) := by decide +kernel
theorem dL_law_730 : decode cL_law 730 = .ok (.iconst 0, 1) := by decide +kernel
theorem dL_law_731 : decode cL_law 731 = .ok (.ireturn, 1) := by decide +kernel
theorem dL_law_732 : decode cL_law 732 = .ok (.iinc 3 4, 3) := by decide +kernel
theorem dL_law_735 : decode cL_law 735 = .ok (.goto (-717), 3) := by decide +kernel
theorem dL_law_738 : decode cL_law 738 = .ok (.iconst 1, 1) := by decide +kernel
theorem dL_law_739 : decode cL_law 739 = .ok (.ireturn, 1) := by decide +kernel
end
section
/-! base of the walk: one list of words for all methods, contracts as equations, the call rows -/
def wG : List Cond := lw_tbl.filter goodWord
theorem wG1 {w : Cond} (h : w ∈ tables_1_1) (g : goodWord w = true) : w ∈ wG := List.mem_filter.mpr ⟨List.mem_append_right _ (List.mem_append_left _ h), g⟩
theorem wG2 {w : Cond} (h : w ∈ tables_1_2) (g : goodWord w = true) : w ∈ wG := List.mem_filter.mpr ⟨List.mem_append_right _ (List.mem_append_right _ (List.mem_append_left _ h)), g⟩
theorem wG3 {w : Cond} (h : w ∈ tables_1_3) (g : goodWord w = true) : w ∈ wG := List.mem_filter.mpr ⟨List.mem_append_right _ (List.mem_append_right _ (List.mem_append_right _ h)), g⟩
theorem wGp {q : MethodName × Nat} (h : q ∈ lw_privs) (g : goodWord (Cond.selects q.1.cls q.1 q.1) = true) : Cond.selects q.1.cls q.1 q.1 ∈ wG := List.mem_filter.mpr ⟨List.mem_append_left _ (List.mem_map_of_mem h), g⟩
theorem wGood {c : Cond} (h : c ∈ wG) : GoodIn wG (c :: wG) := by
  intro w hw
  have h2 : w ∈ wG := by
    rcases List.mem_cons.mp hw with e | e
    · rw [e]; exact h
    · exact e
  exact ⟨h2, good_of_word (List.mem_filter.mp h2).2⟩
theorem inG0 : ∀ w ∈ wsX00, w ∈ wG := by decide +kernel
theorem inG2 : ∀ w ∈ wsX20, w ∈ wG := by decide +kernel
theorem inG3 : ∀ w ∈ wsX30, w ∈ wG := by decide +kernel
theorem inG4 : ∀ w ∈ wsX40, w ∈ wG := by decide +kernel
def nw0 : Cond := Cond.methodLinkNest RX0 29 yX3_contains "RankRings"
def nw1 : Cond := Cond.methodLinkNest RX1 38 yX3_contains "RankRings"
def nw2 : Cond := Cond.methodLinkNest RX2 64 yX3_isRank "RankRings"
def NW (U : State) : Prop := va_Nw nw0 U ∧ va_Nw nw1 U ∧ va_Nw nw2 U
theorem NW.warm {s U : State} (hW : s.WarmedH U.vm) (h : NW s) : NW U := ⟨va_Nw.warmM hW h.1, va_Nw.warmM hW h.2.1, va_Nw.warmM hW h.2.2⟩
theorem NW.same {u U : State} (h : u.vm = U.vm) (hN : NW u) : NW U := ⟨va_Nw.same rfl h hN.1, va_Nw.same rfl h hN.2.1, va_Nw.same rfl h hN.2.2⟩
abbrev tyL (cI cC cH : ClassId) : List (ClassId × FieldType) := [(cI, .int), (cC, .char), (cH, .object "RankRings$Field")]
def PC (D : va_G) (T : List (ClassId × FieldType)) (sz : Nat) (ws : va_W) (U : State) : Prop := U.heap.size = sz ∧ va_P D vwCl ws U.heap ∧ va_K D vwCl T U ∧ va_D (fun _ => True) ws ∧ NW U
def PQ (D : va_G) (T : List (ClassId × FieldType)) (A : Nat → Prop) (ws : va_W) (t : State) : Prop := va_P D vwCl ws t.heap ∧ va_K D vwCl T t ∧ va_D A ws
def rmm (fr lo : Nat) : Room := { frames := fr, cells := 0, slots := 0, locals := lo }
/-- a method that makes nothing: from the cells wb it answers r and leaves the cells wa -/
def CTi (l : Launch) (y : MethodName) (cc : ByteArray) (maxL : Nat) (ret : Option FieldType) (fr lo : Nat) (D : va_G) (T : List (ClassId × FieldType)) (av : List Value) (wb wa : va_W) (r : Int32) : Prop :=
  ∀ sz : Nat, Met l y (Cond.code y cc maxL ret :: wG) (rmm fr lo) (va_Pc av (PC D T sz wb)) (va_Qi (fun r' (_ : Unit) => r' = r) (fun _ => PQ D T (va_A wb sz) wa) (va_A wb sz)) 0 0 (va_A wb sz)
def CTv (l : Launch) (y : MethodName) (cc : ByteArray) (maxL : Nat) (ret : Option FieldType) (fr lo : Nat) (D : va_G) (T : List (ClassId × FieldType)) (av : List Value) (wb wa : va_W) : Prop :=
  ∀ sz : Nat, Met l y (Cond.code y cc maxL ret :: wG) (rmm fr lo) (va_Pc av (PC D T sz wb)) (va_Qv (fun (_ : Unit) => True) (fun _ => PQ D T (va_A wb sz) wa) (va_A wb sz)) 0 0 (va_A wb sz)
/-- what stands fixed while a method is walked -/
def FX (p : Program) (m : MethodId) (c : Code) (cc : ByteArray) (nL : Nat) (s : State) (args : Array Value) (own : String) (D : va_G) (T : List (ClassId × FieldType)) (A : Nat → Prop) : Prop :=
  p.tables.exec = Jvm.exec ∧ c.code = cc ∧ c.maxLocals = nL ∧ s.vm.findClass own = some m.cls ∧ (∀ w ∈ wG, w.before args s = true) ∧ NW s ∧ va_K D vwCl T s ∧ (∀ q : Nat, s.heap.size ≤ q → A q)
/-- a method's walk: Q is the end that is wanted, hret brings it about -/
theorem ctI {l : Launch} {y : MethodName} {cc : ByteArray} {maxL : Nat} {fr lo : Nat} {D : va_G} {T : List (ClassId × FieldType)} {av : List Value} {wb wa : va_W} {r : Int32} (hy : plainName y.cls = true) (hlen : (lg_sl av).length ≤ maxL)
    (body : ∀ (p : Program) (e : Env) (s : State) (m : MethodId) (args : Array Value) (below : List Frame) (meth : Method) (c : Code) (A : Nat → Prop) (Q : State → Prop) (ls : Array Slot), FX p m c cc maxL s args y.cls D T A →
      (∀ (v : Int32) (H : Heap) (locs : List Loc) (pc : Nat) (ls : Array Slot), v = r → va_P D vwCl wa H → va_D A wa → va_S A s.heap H locs → decode cc pc = .ok (.ireturn, 1) → W p l e (rmm fr lo) s m args below meth c H locs 0 0 Q (F0 m pc ls [.int v])) →
      va_P D vwCl wb s.heap → va_D A wb → va_S A s.heap s.heap [] → lv_has ls maxL (lv_args 0 av) →
      W p l e (rmm fr lo) s m args below meth c s.heap [] 0 0 Q (F0 m 0 ls [])) : CTi l y cc maxL (some .int) fr lo D T av wb wa r := by
  intro sz
  refine Met.ofW (cc := cc) (maxL := maxL) (ret := some .int) hy rfl ?_
  intro p e s m args below meth c s₁ B hml hv
  obtain ⟨rfl, hsz, hP, hK, hD0, hN⟩ := hv
  have hts := atoms_spec (ws := Cond.code y cc maxL (some .int) :: wG) B.pre
  subst hsz
  rw [lg_entry_eq]
  have hr := B.returns
  have hlk := B.notSynchronized
  have F : FX p m c cc maxL s av.toArray y.cls D T (va_A wb s.heap.size) := ⟨B.exec, B.bytes, hml, findClass_of_methodNamed B.named, fun w h => hts w (List.mem_cons_of_mem _ h), hN, hK, fun q h => Or.inr h⟩
  refine body p e s m _ below meth c _ _ _ F (fun v H locs pc ls e1 hP hD hS hdg => ?_) hP (hD0.self (sz := s.heap.size)) va_S.rf (lv_entry av hlen)
  exact W.iret F.1 F.2.1 hr (fun t ht hW => ⟨⟨v, (), rfl, e1, by rw [ht]; exact hP, va_K.moved hW.alike F.2.2.2.2.2.2.1, hD⟩, hS.F ht⟩) hS.2.2 hdg
theorem ctZ {l : Launch} {y : MethodName} {cc : ByteArray} {maxL : Nat} {ty : FieldType} {fr lo : Nat} {D : va_G} {T : List (ClassId × FieldType)} {av : List Value} {wb wa : va_W} {r : Int32} (hy : plainName y.cls = true) (hlen : (lg_sl av).length ≤ maxL)
    (body : ∀ (p : Program) (e : Env) (s : State) (m : MethodId) (args : Array Value) (below : List Frame) (meth : Method) (c : Code) (A : Nat → Prop) (Q : State → Prop) (ls : Array Slot), FX p m c cc maxL s args y.cls D T A →
      (∀ (v : Int32) (H : Heap) (locs : List Loc) (pc : Nat) (ls : Array Slot), narrow ty (.int v) = .int v → v = r → va_P D vwCl wa H → va_D A wa → va_S A s.heap H locs → decode cc pc = .ok (.ireturn, 1) → W p l e (rmm fr lo) s m args below meth c H locs 0 0 Q (F0 m pc ls [.int v])) →
      va_P D vwCl wb s.heap → va_D A wb → va_S A s.heap s.heap [] → lv_has ls maxL (lv_args 0 av) →
      W p l e (rmm fr lo) s m args below meth c s.heap [] 0 0 Q (F0 m 0 ls [])) : CTi l y cc maxL (some ty) fr lo D T av wb wa r := by
  intro sz
  refine Met.ofW (cc := cc) (maxL := maxL) (ret := some ty) hy rfl ?_
  intro p e s m args below meth c s₁ B hml hv
  obtain ⟨rfl, hsz, hP, hK, hD0, hN⟩ := hv
  have hts := atoms_spec (ws := Cond.code y cc maxL (some ty) :: wG) B.pre
  subst hsz
  rw [lg_entry_eq]
  have hr := B.returns
  have hlk := B.notSynchronized
  have F : FX p m c cc maxL s av.toArray y.cls D T (va_A wb s.heap.size) := ⟨B.exec, B.bytes, hml, findClass_of_methodNamed B.named, fun w h => hts w (List.mem_cons_of_mem _ h), hN, hK, fun q h => Or.inr h⟩
  refine body p e s m _ below meth c _ _ _ F (fun v H locs pc ls hnr e1 hP hD hS hdg => ?_) hP (hD0.self (sz := s.heap.size)) va_S.rf (lv_entry av hlen)
  exact W.zret F.1 F.2.1 hr hnr (fun t ht hW => ⟨⟨v, (), rfl, e1, by rw [ht]; exact hP, va_K.moved hW.alike F.2.2.2.2.2.2.1, hD⟩, hS.F ht⟩) hS.2.2 hdg
theorem ctV {l : Launch} {y : MethodName} {cc : ByteArray} {maxL : Nat} {fr lo : Nat} {D : va_G} {T : List (ClassId × FieldType)} {av : List Value} {wb wa : va_W} (hy : plainName y.cls = true) (hlen : (lg_sl av).length ≤ maxL)
    (body : ∀ (p : Program) (e : Env) (s : State) (m : MethodId) (args : Array Value) (below : List Frame) (meth : Method) (c : Code) (A : Nat → Prop) (Q : State → Prop) (ls : Array Slot), FX p m c cc maxL s args y.cls D T A →
      (∀ (H : Heap) (locs : List Loc) (pc : Nat) (ls : Array Slot), va_P D vwCl wa H → va_D A wa → va_S A s.heap H locs → decode cc pc = .ok (.return_, 1) → W p l e (rmm fr lo) s m args below meth c H locs 0 0 Q (F0 m pc ls [])) →
      va_P D vwCl wb s.heap → va_D A wb → va_S A s.heap s.heap [] → lv_has ls maxL (lv_args 0 av) →
      W p l e (rmm fr lo) s m args below meth c s.heap [] 0 0 Q (F0 m 0 ls [])) : CTv l y cc maxL none fr lo D T av wb wa := by
  intro sz
  refine Met.ofW (cc := cc) (maxL := maxL) (ret := none) hy rfl ?_
  intro p e s m args below meth c s₁ B hml hv
  obtain ⟨rfl, hsz, hP, hK, hD0, hN⟩ := hv
  have hts := atoms_spec (ws := Cond.code y cc maxL none :: wG) B.pre
  subst hsz
  rw [lg_entry_eq]
  have hr := B.returns
  have hlk := B.notSynchronized
  have F : FX p m c cc maxL s av.toArray y.cls D T (va_A wb s.heap.size) := ⟨B.exec, B.bytes, hml, findClass_of_methodNamed B.named, fun w h => hts w (List.mem_cons_of_mem _ h), hN, hK, fun q h => Or.inr h⟩
  refine body p e s m _ below meth c _ _ _ F (fun H locs pc ls hP hD hS hdg => ?_) hP (hD0.self (sz := s.heap.size)) va_S.rf (lv_entry av hlen)
  exact W.vret F.1 F.2.1 hr (fun t ht hW => ⟨⟨(), rfl, trivial, by rw [ht]; exact hP, va_K.moved hW.alike F.2.2.2.2.2.2.1, hD⟩, hS.F ht⟩) hS.2.2 hdg
/-- pieces of the pure functions -/
def chk {α : Type} (b : Bool) (k : Option α) : Option α := if b = true then k else none
def sm {α β γ : Type} (q : α ⊕ β) (f : α → γ) (g : β → γ) : γ := match q with
  | .inl a => f a
  | .inr b => g b
theorem chk_s {α : Type} {b : Bool} {k : Option α} {y : α} (h : chk b k = some y) : b = true ∧ k = some y := by
  unfold chk at h
  by_cases e : b = true
  · rw [if_pos e] at h; exact ⟨e, h⟩
  · rw [if_neg e] at h; cases h
theorem bd {α β : Type} {x : Option α} {f : α → Option β} {y : β} (h : Option.bind x f = some y) : ∃ q, x = some q ∧ f q = some y := by
  cases x with
  | none => cases h
  | some q => exact ⟨q, rfl, h⟩
theorem itT {α : Type} {c : Prop} {i : Decidable c} {a b y : α} (h : ite c a b = y) (hc : c) : a = y := by rw [if_pos hc] at h; exact h
theorem itF {α : Type} {c : Prop} {i : Decidable c} {a b y : α} (h : ite c a b = y) (hc : ¬ c) : b = y := by rw [if_neg hc] at h; exact h
theorem no_s {α : Type} {P : Prop} {y : α} (h : (none : Option α) = some y) : P := by cases h
/-- a place in a row of n -/
def gi (i : Int32) (n : Nat) : Bool := decide (0 ≤ i.toInt) && decide (i.toInt < n)
theorem gi_in {i : Int32} {n : Nat} (h : gi i n = true) : vp_in i n := by
  unfold gi at h
  simp only [Bool.and_eq_true, decide_eq_true_eq] at h
  exact vp_in_iff.mpr h
def isZ (v : Int32) : Bool := decide (v = 0) || decide (v = 1)
theorem isZ_n {v : Int32} (h : isZ v = true) : narrow .boolean (.int v) = .int v := by
  unfold isZ at h
  simp only [Bool.or_eq_true, decide_eq_true_eq] at h
  rcases h with rfl | rfl <;> rfl
def isC (v : Int32) : Bool := decide ((v.toUInt32 % 65536).toInt32 = v)
theorem isC_n {v : Int32} (h : isC v = true) : narrow .char (.int v) = .int v := by
  unfold isC at h
  have h := of_decide_eq_true h
  have h2 := pk_nc v
  rw [h] at h2
  exact h2
section CALLS
variable {p : Program} {l : Launch} {e : Env} {R : Room} {s : State} {m : MethodId} {args : Array Value} {below : List Frame} {meth : Method} {c : Code} {H : Heap} {locs : List Loc} {Q : State → Prop}
variable {cc : ByteArray} {pc nL : Nat} {ls : Array Slot} {rest st0 : List Value} {A : Nat → Prop} {D : va_G} {T : List (ClassId × FieldType)} {own : String}
variable {y : MethodName} {cc2 : ByteArray} {maxL2 : Nat} {ret2 : Option FieldType} {fr lo : Nat} {As : List Value} {b : Nat} {ws wb wa wr ws' : va_W} {r : Int32} {C host : String} {index n : Nat} {lvs : List (Nat × Value)}
theorem wnm {x : Int32} (v : Int32) (h : x = v) (k : W p l e R s m args below meth c H locs 0 0 Q (F0 m pc ls (.int v :: rest))) : W p l e R s m args below meth c H locs 0 0 Q (F0 m pc ls (.int x :: rest)) := h ▸ k
/-- the static facts of a callee -/
def YF (y : MethodName) (cc2 : ByteArray) (maxL2 : Nat) (ret2 : Option FieldType) (n : Nat) : Prop :=
  Cond.code y cc2 maxL2 ret2 ∈ wG ∧ Cond.initialized y.cls ∈ wG ∧ (y.cls ≠ "java/lang/invoke/MethodHandle" ∧ y.cls ≠ "java/lang/invoke/VarHandle" ∧ (parseMethodDescriptor y.desc).map (fun d => d.parameters.length) = some n)
theorem pcBlind (av : List Value) (sz : Nat) (ws : va_W) : FrameBlind (va_Pc av (PC D T sz ws)) := by
  intro a U g mk q
  obtain ⟨q0, q1, qP, qK, qD, qN⟩ := q
  exact ⟨q0, q1, qP, va_K.moved (u := U) (U := U.calling g mk a) (Vm.Alike.refl U.vm) qK, qD, NW.same (u := U) (U := U.calling g mk a) rfl qN⟩
theorem preOk {av : List Value} (F : FX p m c cc nL s args own D T A) (hP : va_P D vwCl wb H) (hD : va_D A wb) : ∀ U : State, U.heap = H → s.WarmedH U.vm → va_Pc av (PC D T H.size wb) av.toArray U :=
  fun U hU hW => ⟨rfl, by rw [hU], by rw [hU]; exact hP, va_K.moved hW.alike F.2.2.2.2.2.2.1, hD.weaken (fun _ _ _ _ => trivial), NW.warm hW F.2.2.2.2.2.1⟩
theorem cbOf (F : FX p m c cc nL s args own D T A) (Y : YF y cc2 maxL2 ret2 n) (hl : Cond.methodLink own index y ∈ wG) (hR : fr + 1 ≤ R.frames ∧ 8 + (maxL2 + 11) + lo ≤ R.locals) : CallB R s args own index y cc2 maxL2 ret2 (Cond.code y cc2 maxL2 ret2 :: wG) (rmm fr lo) 0 0 n :=
  callB_of n F.2.2.2.2.1 (wGood Y.1) rfl rfl rfl (F.2.2.2.2.1 _ Y.2.1) (F.2.2.2.2.1 _ hl) Y.2.2 hR
/-- behind a call that makes nothing: the world, in an order that is given -/
theorem joinOk {H1 : Heap} (F : FX p m c cc nL s args own D T A) (hP : va_P D vwCl ws H) (hD : va_D A ws) (hS : va_S A s.heap H locs) (isC isR perm : List Nat) (hC : isC.map (fun i => ws[i]?) = wb.map some) (hR : isR.map (fun i => ws[i]?) = wr.map some) (hn : va_nd isR = true) (hdis : ∀ i ∈ isR, i ∉ isC)
    (hp : perm.map (fun i => (wr ++ wa)[i]?) = ws'.map some) (hnp : va_nd perm = true) (hk : ∀ q : Nat, q < H.size → ¬ va_A wb H.size q → H1[q]? = H[q]?) (hP1 : va_P D vwCl wa H1) (hD1 : va_D (va_A wb H.size) wa) : va_P D vwCl ws' H1 ∧ va_D A ws' := by
  obtain ⟨a1, a2⟩ := va_join hP hD isC isR hC hR hn hdis hk (va_free hD hS F.2.2.2.2.2.2.2 isC hC) hP1 hD1
  refine ⟨fun k q hk => ?_, a2.sub perm hnp hp⟩
  have h1 : (perm.map (fun i => (wr ++ wa)[i]?))[k]? = some (some q) := by rw [hp, List.getElem?_map, hk]; rfl
  rw [List.getElem?_map] at h1
  cases hi : perm[k]? with
  | none => rw [hi] at h1; cases h1
  | some i => rw [hi] at h1; exact a1 i q (Option.some.inj h1)
theorem kvI (F : FX p m c cc nL s args own D T A) (hM : CTi l y cc2 maxL2 ret2 fr lo D T (.ref b :: As) wb wa r) (Y : YF y cc2 maxL2 ret2 n) (hw : Cond.methodLink own index y ∈ wG ∧ Cond.instanceMethod y ∈ wG ∧ Cond.selects C y y ∈ wG)
    (hP : va_P D vwCl ws H) (hD : va_D A ws) (hS : va_S A s.heap H locs) (isC isR perm : List Nat) (hC : isC.map (fun i => ws[i]?) = wb.map some) (hRm : isR.map (fun i => ws[i]?) = wr.map some) (hnC : va_nd isC = true) (hnR : va_nd isR = true) (hdis : ∀ i ∈ isR, i ∉ isC)
    (hp : perm.map (fun i => (wr ++ wa)[i]?) = ws'.map some) (hnp : va_nd perm = true) (q0 ci : Nat) {fs : List Value} {vC : vw_C} (hq : ws[q0]? = some (b, .inr (ci, fs))) (hci : vwCl[ci]? = some vC) (hvC : vC.1 = C)
    (hroom : fr + 1 ≤ R.frames ∧ 8 + (maxL2 + 11) + lo ≤ R.locals ∧ 0 ≤ R.cells ∧ 0 ≤ R.slots) (hn : As.length = n) (hsz : lv_has ls nL lvs) (hst : st0 = As.reverse ++ .ref b :: rest) (hrest : (rest.map fun v => v.category).sum ≤ 8) (hdg : decode cc pc = .ok (.invokevirtual index, 3))
    (kk : ∀ (H1 : Heap) (locs1 : List Loc), va_P D vwCl ws' H1 → va_D A ws' → va_S A s.heap H1 locs1 → W p l e R s m args below meth c H1 locs1 0 0 Q (F0 m (pc + 3) ls (.int r :: rest))) : W p l e R s m args below meth c H locs 0 0 Q (F0 m pc ls st0) := by
  have hPc : va_P D vwCl wb H := fun k q hk => by
    have h1 : (isC.map (fun i => ws[i]?))[k]? = some (some q) := by rw [hC, List.getElem?_map, hk]; rfl
    rw [List.getElem?_map] at h1
    cases hi : isC[k]? with
    | none => rw [hi] at h1; cases h1
    | some i => rw [hi] at h1; exact hP i q (Option.some.inj h1)
  have hDc : va_D A wb := hD.sub isC hnC hC
  have hF := va_free hD hS F.2.2.2.2.2.2.2 isC hC
  have hrv := va_recv F.2.2.2.2.2.2.1 hP hci hq
  rw [hvC] at hrv
  refine va_calli (va_runV (C := C) (As := As) (rest := rest) (b := b) ⟨F.1, F.2.1, F.2.2.1, F.2.2.2.1, F.2.2.2.2.1⟩ (hM H.size) ⟨cbOf F Y hw.1 ⟨hroom.1, hroom.2.1⟩, F.2.2.2.2.1 _ hw.2.1, F.2.2.2.2.1 _ hw.2.2⟩ ⟨pcBlind _ _ _, hrv, preOk F hPc hDc⟩ rfl hn hsz.1 hst (lv_room hrest) hdg ⟨hroom.2.2.1, hroom.2.2.2⟩) hS (fun q _ h => hF q h) hF (fun r1 u t H1 locs1 ht hvm hw1 hB hz1 hk1 hS1 => ?_)
  obtain ⟨hP1, hK1, hD1⟩ := hB
  rw [ht] at hP1
  obtain ⟨a1, a2⟩ := joinOk F hP hD hS isC isR perm hC hRm hnR hdis hp hnp hk1 hP1 hD1
  have e1 : r1 = r := hw1
  subst e1
  exact kk H1 locs1 a1 a2 hS1
theorem kvV (F : FX p m c cc nL s args own D T A) (hM : CTv l y cc2 maxL2 ret2 fr lo D T (.ref b :: As) wb wa) (Y : YF y cc2 maxL2 ret2 n) (hw : Cond.methodLink own index y ∈ wG ∧ Cond.instanceMethod y ∈ wG ∧ Cond.selects C y y ∈ wG)
    (hP : va_P D vwCl ws H) (hD : va_D A ws) (hS : va_S A s.heap H locs) (isC isR perm : List Nat) (hC : isC.map (fun i => ws[i]?) = wb.map some) (hRm : isR.map (fun i => ws[i]?) = wr.map some) (hnC : va_nd isC = true) (hnR : va_nd isR = true) (hdis : ∀ i ∈ isR, i ∉ isC)
    (hp : perm.map (fun i => (wr ++ wa)[i]?) = ws'.map some) (hnp : va_nd perm = true) (q0 ci : Nat) {fs : List Value} {vC : vw_C} (hq : ws[q0]? = some (b, .inr (ci, fs))) (hci : vwCl[ci]? = some vC) (hvC : vC.1 = C)
    (hroom : fr + 1 ≤ R.frames ∧ 8 + (maxL2 + 11) + lo ≤ R.locals ∧ 0 ≤ R.cells ∧ 0 ≤ R.slots) (hn : As.length = n) (hsz : lv_has ls nL lvs) (hst : st0 = As.reverse ++ .ref b :: rest) (hrest : (rest.map fun v => v.category).sum ≤ 8) (hdg : decode cc pc = .ok (.invokevirtual index, 3))
    (kk : ∀ (H1 : Heap) (locs1 : List Loc), va_P D vwCl ws' H1 → va_D A ws' → va_S A s.heap H1 locs1 → W p l e R s m args below meth c H1 locs1 0 0 Q (F0 m (pc + 3) ls rest)) : W p l e R s m args below meth c H locs 0 0 Q (F0 m pc ls st0) := by
  have hPc : va_P D vwCl wb H := fun k q hk => by
    have h1 : (isC.map (fun i => ws[i]?))[k]? = some (some q) := by rw [hC, List.getElem?_map, hk]; rfl
    rw [List.getElem?_map] at h1
    cases hi : isC[k]? with
    | none => rw [hi] at h1; cases h1
    | some i => rw [hi] at h1; exact hP i q (Option.some.inj h1)
  have hDc : va_D A wb := hD.sub isC hnC hC
  have hF := va_free hD hS F.2.2.2.2.2.2.2 isC hC
  have hrv := va_recv F.2.2.2.2.2.2.1 hP hci hq
  rw [hvC] at hrv
  refine va_callv (va_runV (C := C) (As := As) (rest := rest) (b := b) ⟨F.1, F.2.1, F.2.2.1, F.2.2.2.1, F.2.2.2.2.1⟩ (hM H.size) ⟨cbOf F Y hw.1 ⟨hroom.1, hroom.2.1⟩, F.2.2.2.2.1 _ hw.2.1, F.2.2.2.2.1 _ hw.2.2⟩ ⟨pcBlind _ _ _, hrv, preOk F hPc hDc⟩ rfl hn hsz.1 hst (lv_room hrest) hdg ⟨hroom.2.2.1, hroom.2.2.2⟩) hS (fun q _ h => hF q h) hF (fun u t H1 locs1 ht hvm hw1 hB hz1 hk1 hS1 => ?_)
  obtain ⟨hP1, hK1, hD1⟩ := hB
  rw [ht] at hP1
  obtain ⟨a1, a2⟩ := joinOk F hP hD hS isC isR perm hC hRm hnR hdis hp hnp hk1 hP1 hD1
  exact kk H1 locs1 a1 a2 hS1
/-- a static call that answers an int -/
theorem ksI (F : FX p m c cc nL s args own D T A) (hM : CTi l y cc2 maxL2 ret2 fr lo D T As wb wa r) (Y : YF y cc2 maxL2 ret2 n) (hw : Cond.methodLink own index y ∈ wG ∧ Cond.static y ∈ wG)
    (hP : va_P D vwCl ws H) (hD : va_D A ws) (hS : va_S A s.heap H locs) (isC isR perm : List Nat) (hC : isC.map (fun i => ws[i]?) = wb.map some) (hRm : isR.map (fun i => ws[i]?) = wr.map some) (hnC : va_nd isC = true) (hnR : va_nd isR = true) (hdis : ∀ i ∈ isR, i ∉ isC)
    (hp : perm.map (fun i => (wr ++ wa)[i]?) = ws'.map some) (hnp : va_nd perm = true)
    (hroom : fr + 1 ≤ R.frames ∧ 8 + (maxL2 + 11) + lo ≤ R.locals ∧ 0 ≤ R.cells ∧ 0 ≤ R.slots) (hn : As.length = n) (hsz : lv_has ls nL lvs) (hst : st0 = As.reverse ++ rest) (hrest : (rest.map fun v => v.category).sum ≤ 8) (hdg : decode cc pc = .ok (.invokestatic index, 3))
    (kk : ∀ (H1 : Heap) (locs1 : List Loc), va_P D vwCl ws' H1 → va_D A ws' → va_S A s.heap H1 locs1 → W p l e R s m args below meth c H1 locs1 0 0 Q (F0 m (pc + 3) ls (.int r :: rest))) : W p l e R s m args below meth c H locs 0 0 Q (F0 m pc ls st0) := by
  have hPc : va_P D vwCl wb H := fun k q hk => by
    have h1 : (isC.map (fun i => ws[i]?))[k]? = some (some q) := by rw [hC, List.getElem?_map, hk]; rfl
    rw [List.getElem?_map] at h1
    cases hi : isC[k]? with
    | none => rw [hi] at h1; cases h1
    | some i => rw [hi] at h1; exact hP i q (Option.some.inj h1)
  have hDc : va_D A wb := hD.sub isC hnC hC
  have hF := va_free hD hS F.2.2.2.2.2.2.2 isC hC
  refine va_calli (va_runS (As := As) (rest := rest) ⟨F.1, F.2.1, F.2.2.1, F.2.2.2.1, F.2.2.2.2.1⟩ (hM H.size) ⟨cbOf F Y hw.1 ⟨hroom.1, hroom.2.1⟩, F.2.2.2.2.1 _ hw.2⟩ ⟨pcBlind _ _ _, preOk F hPc hDc⟩ rfl hn hsz.1 hst (lv_room hrest) hdg ⟨hroom.2.2.1, hroom.2.2.2⟩) hS (fun q _ h => hF q h) hF (fun r1 u t H1 locs1 ht hvm hw1 hB hz1 hk1 hS1 => ?_)
  obtain ⟨hP1, hK1, hD1⟩ := hB
  rw [ht] at hP1
  obtain ⟨a1, a2⟩ := joinOk F hP hD hS isC isR perm hC hRm hnR hdis hp hnp hk1 hP1 hD1
  have e1 : r1 = r := hw1
  subst e1
  exact kk H1 locs1 a1 a2 hS1
theorem ksV (F : FX p m c cc nL s args own D T A) (hM : CTv l y cc2 maxL2 ret2 fr lo D T As wb wa) (Y : YF y cc2 maxL2 ret2 n) (hw : Cond.methodLink own index y ∈ wG ∧ Cond.static y ∈ wG)
    (hP : va_P D vwCl ws H) (hD : va_D A ws) (hS : va_S A s.heap H locs) (isC isR perm : List Nat) (hC : isC.map (fun i => ws[i]?) = wb.map some) (hRm : isR.map (fun i => ws[i]?) = wr.map some) (hnC : va_nd isC = true) (hnR : va_nd isR = true) (hdis : ∀ i ∈ isR, i ∉ isC)
    (hp : perm.map (fun i => (wr ++ wa)[i]?) = ws'.map some) (hnp : va_nd perm = true)
    (hroom : fr + 1 ≤ R.frames ∧ 8 + (maxL2 + 11) + lo ≤ R.locals ∧ 0 ≤ R.cells ∧ 0 ≤ R.slots) (hn : As.length = n) (hsz : lv_has ls nL lvs) (hst : st0 = As.reverse ++ rest) (hrest : (rest.map fun v => v.category).sum ≤ 8) (hdg : decode cc pc = .ok (.invokestatic index, 3))
    (kk : ∀ (H1 : Heap) (locs1 : List Loc), va_P D vwCl ws' H1 → va_D A ws' → va_S A s.heap H1 locs1 → W p l e R s m args below meth c H1 locs1 0 0 Q (F0 m (pc + 3) ls rest)) : W p l e R s m args below meth c H locs 0 0 Q (F0 m pc ls st0) := by
  have hPc : va_P D vwCl wb H := fun k q hk => by
    have h1 : (isC.map (fun i => ws[i]?))[k]? = some (some q) := by rw [hC, List.getElem?_map, hk]; rfl
    rw [List.getElem?_map] at h1
    cases hi : isC[k]? with
    | none => rw [hi] at h1; cases h1
    | some i => rw [hi] at h1; exact hP i q (Option.some.inj h1)
  have hDc : va_D A wb := hD.sub isC hnC hC
  have hF := va_free hD hS F.2.2.2.2.2.2.2 isC hC
  refine va_callv (va_runS (As := As) (rest := rest) ⟨F.1, F.2.1, F.2.2.1, F.2.2.2.1, F.2.2.2.2.1⟩ (hM H.size) ⟨cbOf F Y hw.1 ⟨hroom.1, hroom.2.1⟩, F.2.2.2.2.1 _ hw.2⟩ ⟨pcBlind _ _ _, preOk F hPc hDc⟩ rfl hn hsz.1 hst (lv_room hrest) hdg ⟨hroom.2.2.1, hroom.2.2.2⟩) hS (fun q _ h => hF q h) hF (fun u t H1 locs1 ht hvm hw1 hB hz1 hk1 hS1 => ?_)
  obtain ⟨hP1, hK1, hD1⟩ := hB
  rw [ht] at hP1
  obtain ⟨a1, a2⟩ := joinOk F hP hD hS isC isR perm hC hRm hnR hdis hp hnp hk1 hP1 hD1
  exact kk H1 locs1 a1 a2 hS1
/-- a static call of a nest mate's private method, that answers an int and touches no cell -/
theorem knI (F : FX p m c cc nL s args own D T A) (hM : CTi l y cc2 maxL2 ret2 fr lo D T As [] [] r) (Y : YF y cc2 maxL2 ret2 n) (hs : Cond.static y ∈ wG) (hN : va_Nw (.methodLinkNest own index y host) s)
    (hP : va_P D vwCl ws H) (hD : va_D A ws) (hS : va_S A s.heap H locs)
    (hroom : fr + 1 ≤ R.frames ∧ 8 + (maxL2 + 11) + lo ≤ R.locals ∧ 0 ≤ R.cells ∧ 0 ≤ R.slots) (hn : As.length = n) (hsz : lv_has ls nL lvs) (hst : st0 = As.reverse ++ rest) (hrest : (rest.map fun v => v.category).sum ≤ 8) (hdg : decode cc pc = .ok (.invokestatic index, 3))
    (kk : ∀ (H1 : Heap) (locs1 : List Loc), va_P D vwCl ws H1 → va_D A ws → va_S A s.heap H1 locs1 → W p l e R s m args below meth c H1 locs1 0 0 Q (F0 m (pc + 3) ls (.int r :: rest))) : W p l e R s m args below meth c H locs 0 0 Q (F0 m pc ls st0) := by
  have hPc : va_P D vwCl [] H := fun k q hk => by simp at hk
  have hDc : va_D A [] := ⟨fun i j p q h => by simp at h, fun k q h => by simp at h⟩
  have hF : ∀ q, va_A [] H.size q → A q := fun q h => by
    rcases h with ⟨k, e, h⟩ | h
    · simp at h
    · exact F.2.2.2.2.2.2.2 q (Nat.le_trans hS.1 h)
  refine va_calli (va_runSN (As := As) (rest := rest) (host := host) ⟨F.1, F.2.1, F.2.2.1, F.2.2.2.1, F.2.2.2.2.1⟩ (hM H.size) ⟨va_cnB n F.2.2.2.2.1 (wGood Y.1) rfl rfl rfl hN (F.2.2.2.2.1 _ Y.2.1) Y.2.2 ⟨hroom.1, hroom.2.1⟩, F.2.2.2.2.1 _ hs, trivial⟩ ⟨pcBlind _ _ _, preOk F hPc hDc⟩ rfl hn hsz.1 hst (lv_room hrest) hdg ⟨hroom.2.2.1, hroom.2.2.2⟩) hS (fun q _ h => hF q h) hF (fun r1 u t H1 locs1 ht hvm hw1 hB hz1 hk1 hS1 => ?_)
  have e1 : r1 = r := hw1
  subst e1
  refine kk H1 locs1 (fun k q hk => ?_) hD hS1
  have hlt := (hP k q hk).lt
  refine (hP k q hk).kept (hk1 q.1 hlt ?_)
  rintro (⟨k2, e2, h⟩ | h)
  · simp at h
  · omega
/-- a static call that touches no cell -/
theorem ks0 (F : FX p m c cc nL s args own D T A) (hM : CTi l y cc2 maxL2 ret2 fr lo D T As [] [] r) (Y : YF y cc2 maxL2 ret2 n) (hw : Cond.methodLink own index y ∈ wG ∧ Cond.static y ∈ wG)
    (hP : va_P D vwCl ws H) (hD : va_D A ws) (hS : va_S A s.heap H locs)
    (hroom : fr + 1 ≤ R.frames ∧ 8 + (maxL2 + 11) + lo ≤ R.locals ∧ 0 ≤ R.cells ∧ 0 ≤ R.slots) (hn : As.length = n) (hsz : lv_has ls nL lvs) (hst : st0 = As.reverse ++ rest) (hrest : (rest.map fun v => v.category).sum ≤ 8) (hdg : decode cc pc = .ok (.invokestatic index, 3))
    (kk : ∀ (H1 : Heap) (locs1 : List Loc), va_P D vwCl ws H1 → va_D A ws → va_S A s.heap H1 locs1 → W p l e R s m args below meth c H1 locs1 0 0 Q (F0 m (pc + 3) ls (.int r :: rest))) : W p l e R s m args below meth c H locs 0 0 Q (F0 m pc ls st0) := by
  have hPc : va_P D vwCl [] H := fun k q hk => by simp at hk
  have hDc : va_D A [] := ⟨fun i j p q h => by simp at h, fun k q h => by simp at h⟩
  have hF : ∀ q, va_A [] H.size q → A q := fun q h => by
    rcases h with ⟨k, e, h⟩ | h
    · simp at h
    · exact F.2.2.2.2.2.2.2 q (Nat.le_trans hS.1 h)
  refine va_calli (va_runS (As := As) (rest := rest) ⟨F.1, F.2.1, F.2.2.1, F.2.2.2.1, F.2.2.2.2.1⟩ (hM H.size) ⟨cbOf F Y hw.1 ⟨hroom.1, hroom.2.1⟩, F.2.2.2.2.1 _ hw.2⟩ ⟨pcBlind _ _ _, preOk F hPc hDc⟩ rfl hn hsz.1 hst (lv_room hrest) hdg ⟨hroom.2.2.1, hroom.2.2.2⟩) hS (fun q _ h => hF q h) hF (fun r1 u t H1 locs1 ht hvm hw1 hB hz1 hk1 hS1 => ?_)
  have e1 : r1 = r := hw1
  subst e1
  refine kk H1 locs1 (fun k q hk => ?_) hD hS1
  have hlt := (hP k q hk).lt
  refine (hP k q hk).kept (hk1 q.1 hlt ?_)
  rintro (⟨k2, e2, h⟩ | h)
  · simp at h
  · omega
end CALLS
theorem wd1_0 : (Jvm.Cond.initialized "RankRingsLaw") ∈ wG := wG1 (List.mem_of_getElem? (i := 0) (by decide +kernel)) rfl
theorem wd1_1 : (Jvm.Cond.initialized "RankRings") ∈ wG := wG1 (List.mem_of_getElem? (i := 1) (by decide +kernel)) rfl
theorem wd1_2 : (Jvm.Cond.initialized "RankRings$Field") ∈ wG := wG1 (List.mem_of_getElem? (i := 2) (by decide +kernel)) rfl
theorem wd1_3 : (Jvm.Cond.initialized "RankRings$Text") ∈ wG := wG1 (List.mem_of_getElem? (i := 3) (by decide +kernel)) rfl
theorem wd1_4 : (Jvm.Cond.initialized "RankRingsModel") ∈ wG := wG1 (List.mem_of_getElem? (i := 4) (by decide +kernel)) rfl
theorem wd1_5 : (Jvm.Cond.initialized "java/lang/Integer") ∈ wG := wG1 (List.mem_of_getElem? (i := 5) (by decide +kernel)) rfl
theorem wd1_6 : (Jvm.Cond.initialized "RankRings$Solver") ∈ wG := wG1 (List.mem_of_getElem? (i := 6) (by decide +kernel)) rfl
theorem wd1_7 : (Jvm.Cond.initialized "java/lang/Math") ∈ wG := wG1 (List.mem_of_getElem? (i := 7) (by decide +kernel)) rfl
theorem wd1_8 : (Jvm.Cond.classLink "RankRingsLaw" (7 : Nat) "RankRings") ∈ wG := wG1 (List.mem_of_getElem? (i := 8) (by decide +kernel)) rfl
theorem wd1_9 : (Jvm.Cond.instantiable "RankRings" (11 : Nat)) ∈ wG := wG1 (List.mem_of_getElem? (i := 9) (by decide +kernel)) rfl
theorem wd1_10 : (Jvm.Cond.methodLink "RankRingsLaw" (9 : Nat) ({ cls := "RankRings", name := "<init>", desc := "()V" } : Jvm.MethodName)) ∈ wG := wG1 (List.mem_of_getElem? (i := 10) (by decide +kernel)) rfl
theorem wd1_11 : (Jvm.Cond.instanceMethod ({ cls := "RankRings", name := "<init>", desc := "()V" } : Jvm.MethodName)) ∈ wG := wG1 (List.mem_of_getElem? (i := 11) (by decide +kernel)) rfl
theorem wd1_12 : (Jvm.Cond.code ({ cls := "RankRings", name := "<init>", desc := "()V" } : Jvm.MethodName) prog_1_method_1_code (2 : Nat) (Option.none : Option Jvm.ClassFile.FieldType)) ∈ wG := wG1 (List.mem_of_getElem? (i := 12) rfl) rfl
theorem wd1_13 : (Jvm.Cond.methodLink "RankRings" (1 : Nat) ({ cls := "java/lang/Object", name := "<init>", desc := "()V" } : Jvm.MethodName)) ∈ wG := wG1 (List.mem_of_getElem? (i := 13) (by decide +kernel)) rfl
theorem wd1_14 : (Jvm.Cond.instanceMethod ({ cls := "java/lang/Object", name := "<init>", desc := "()V" } : Jvm.MethodName)) ∈ wG := wG1 (List.mem_of_getElem? (i := 14) (by decide +kernel)) rfl
theorem wd1_15 : (Jvm.Cond.code ({ cls := "java/lang/Object", name := "<init>", desc := "()V" } : Jvm.MethodName) object_method_1_code (1 : Nat) (Option.none : Option Jvm.ClassFile.FieldType)) ∈ wG := wG1 (List.mem_of_getElem? (i := 15) rfl) rfl
theorem wd1_16 : (Jvm.Cond.classLink "RankRings" (7 : Nat) "RankRings$Field") ∈ wG := wG1 (List.mem_of_getElem? (i := 16) (by decide +kernel)) rfl
theorem wd1_17 : (Jvm.Cond.instantiable "RankRings$Field" (4 : Nat)) ∈ wG := wG1 (List.mem_of_getElem? (i := 17) (by decide +kernel)) rfl
theorem wd1_18 : (Jvm.Cond.methodLink "RankRings" (9 : Nat) ({ cls := "RankRings$Field", name := "<init>", desc := "()V" } : Jvm.MethodName)) ∈ wG := wG1 (List.mem_of_getElem? (i := 18) (by decide +kernel)) rfl
theorem wd1_19 : (Jvm.Cond.instanceMethod ({ cls := "RankRings$Field", name := "<init>", desc := "()V" } : Jvm.MethodName)) ∈ wG := wG1 (List.mem_of_getElem? (i := 19) (by decide +kernel)) rfl
theorem wd1_20 : (Jvm.Cond.code ({ cls := "RankRings$Field", name := "<init>", desc := "()V" } : Jvm.MethodName) prog_2_method_1_code (1 : Nat) (Option.none : Option Jvm.ClassFile.FieldType)) ∈ wG := wG1 (List.mem_of_getElem? (i := 20) rfl) rfl
theorem wd1_21 : (Jvm.Cond.methodLink "RankRings$Field" (3 : Nat) ({ cls := "java/lang/Object", name := "<init>", desc := "()V" } : Jvm.MethodName)) ∈ wG := wG1 (List.mem_of_getElem? (i := 21) (by decide +kernel)) rfl
theorem wd1_22 : (Jvm.Cond.fieldLink "RankRings$Field" (9 : Nat) "RankRings$Field" "owners" "[I") ∈ wG := wG1 (List.mem_of_getElem? (i := 22) (by decide +kernel)) rfl
theorem wd1_23 : (Jvm.Cond.fieldLink "RankRings" (58 : Nat) "RankRings$Field" "owners" "[I") ∈ wG := wG1 (List.mem_of_getElem? (i := 23) (by decide +kernel)) rfl
theorem wd1_24 : (Jvm.Cond.fieldLink "RankRings$Solver" (46 : Nat) "RankRings$Field" "owners" "[I") ∈ wG := wG1 (List.mem_of_getElem? (i := 24) (by decide +kernel)) rfl
theorem wd1_25 : (Jvm.Cond.fieldLink "RankRings$Field" (15 : Nat) "RankRings$Field" "ranks" "[I") ∈ wG := wG1 (List.mem_of_getElem? (i := 25) (by decide +kernel)) rfl
theorem wd1_26 : (Jvm.Cond.fieldLink "RankRings" (61 : Nat) "RankRings$Field" "ranks" "[I") ∈ wG := wG1 (List.mem_of_getElem? (i := 26) (by decide +kernel)) rfl
theorem wd1_27 : (Jvm.Cond.fieldLink "RankRings$Field" (18 : Nat) "RankRings$Field" "ways" "[I") ∈ wG := wG1 (List.mem_of_getElem? (i := 27) (by decide +kernel)) rfl
theorem wd1_28 : (Jvm.Cond.fieldLink "RankRings$Solver" (42 : Nat) "RankRings$Field" "ways" "[I") ∈ wG := wG1 (List.mem_of_getElem? (i := 28) (by decide +kernel)) rfl
theorem wd1_29 : (Jvm.Cond.fieldLink "RankRings" (64 : Nat) "RankRings$Field" "ways" "[I") ∈ wG := wG1 (List.mem_of_getElem? (i := 29) (by decide +kernel)) rfl
theorem wd1_30 : (Jvm.Cond.fieldLink "RankRings$Text" (84 : Nat) "RankRings$Field" "ways" "[I") ∈ wG := wG1 (List.mem_of_getElem? (i := 30) (by decide +kernel)) rfl
theorem wd1_31 : (Jvm.Cond.fieldLink "RankRings$Field" (21 : Nat) "RankRings$Field" "size" "I") ∈ wG := wG1 (List.mem_of_getElem? (i := 31) (by decide +kernel)) rfl
theorem wd1_32 : (Jvm.Cond.fieldLink "RankRings" (44 : Nat) "RankRings$Field" "size" "I") ∈ wG := wG1 (List.mem_of_getElem? (i := 32) (by decide +kernel)) rfl
theorem wd1_33 : (Jvm.Cond.fieldLink "RankRings$Text" (39 : Nat) "RankRings$Field" "size" "I") ∈ wG := wG1 (List.mem_of_getElem? (i := 33) (by decide +kernel)) rfl
theorem wd1_34 : (Jvm.Cond.fieldLink "RankRings$Solver" (34 : Nat) "RankRings$Field" "size" "I") ∈ wG := wG1 (List.mem_of_getElem? (i := 34) (by decide +kernel)) rfl
theorem wd1_44 : (Jvm.Cond.arrayClass Jvm.ClassFile.FieldType.int) ∈ wG := wG1 (List.mem_of_getElem? (i := 44) (by decide +kernel)) rfl
theorem wd1_46 : (Jvm.Cond.classLink "RankRings" (23 : Nat) "RankRings$Text") ∈ wG := wG1 (List.mem_of_getElem? (i := 46) (by decide +kernel)) rfl
theorem wd1_47 : (Jvm.Cond.instantiable "RankRings$Text" (9 : Nat)) ∈ wG := wG1 (List.mem_of_getElem? (i := 47) (by decide +kernel)) rfl
theorem wd1_48 : (Jvm.Cond.methodLink "RankRings" (25 : Nat) ({ cls := "RankRings$Text", name := "<init>", desc := "()V" } : Jvm.MethodName)) ∈ wG := wG1 (List.mem_of_getElem? (i := 48) (by decide +kernel)) rfl
theorem wd1_49 : (Jvm.Cond.instanceMethod ({ cls := "RankRings$Text", name := "<init>", desc := "()V" } : Jvm.MethodName)) ∈ wG := wG1 (List.mem_of_getElem? (i := 49) (by decide +kernel)) rfl
theorem wd1_50 : (Jvm.Cond.code ({ cls := "RankRings$Text", name := "<init>", desc := "()V" } : Jvm.MethodName) prog_4_method_1_code (1 : Nat) (Option.none : Option Jvm.ClassFile.FieldType)) ∈ wG := wG1 (List.mem_of_getElem? (i := 50) rfl) rfl
theorem wd1_51 : (Jvm.Cond.methodLink "RankRings$Text" (3 : Nat) ({ cls := "java/lang/Object", name := "<init>", desc := "()V" } : Jvm.MethodName)) ∈ wG := wG1 (List.mem_of_getElem? (i := 51) (by decide +kernel)) rfl
theorem wd1_52 : (Jvm.Cond.classLink "RankRings$Text" (15 : Nat) "RankRings$Field") ∈ wG := wG1 (List.mem_of_getElem? (i := 52) (by decide +kernel)) rfl
theorem wd1_53 : (Jvm.Cond.methodLink "RankRings$Text" (17 : Nat) ({ cls := "RankRings$Field", name := "<init>", desc := "()V" } : Jvm.MethodName)) ∈ wG := wG1 (List.mem_of_getElem? (i := 53) (by decide +kernel)) rfl
theorem wd1_54 : (Jvm.Cond.fieldLink "RankRings$Text" (9 : Nat) "RankRings$Text" "characters" "[C") ∈ wG := wG1 (List.mem_of_getElem? (i := 54) (by decide +kernel)) rfl
theorem wd1_55 : (Jvm.Cond.fieldLink "RankRings$Text" (29 : Nat) "RankRings$Text" "length" "I") ∈ wG := wG1 (List.mem_of_getElem? (i := 55) (by decide +kernel)) rfl
theorem wd1_56 : (Jvm.Cond.fieldLink "RankRings" (106 : Nat) "RankRings$Text" "length" "I") ∈ wG := wG1 (List.mem_of_getElem? (i := 56) (by decide +kernel)) rfl
theorem wd1_57 : (Jvm.Cond.fieldLink "RankRings$Text" (18 : Nat) "RankRings$Text" "told" "LRankRings$Field;") ∈ wG := wG1 (List.mem_of_getElem? (i := 57) (by decide +kernel)) rfl
theorem wd1_58 : (Jvm.Cond.fieldLink "RankRings" (163 : Nat) "RankRings$Text" "told" "LRankRings$Field;") ∈ wG := wG1 (List.mem_of_getElem? (i := 58) (by decide +kernel)) rfl
theorem wd1_59 : (Jvm.Cond.fieldLink "RankRings$Text" (87 : Nat) "RankRings$Text" "faultIndex" "I") ∈ wG := wG1 (List.mem_of_getElem? (i := 59) (by decide +kernel)) rfl
theorem wd1_60 : (Jvm.Cond.fieldLink "RankRings" (157 : Nat) "RankRings$Text" "faultIndex" "I") ∈ wG := wG1 (List.mem_of_getElem? (i := 60) (by decide +kernel)) rfl
theorem wd1_61 : (Jvm.Cond.fieldLink "RankRings$Text" (90 : Nat) "RankRings$Text" "faultReason" "I") ∈ wG := wG1 (List.mem_of_getElem? (i := 61) (by decide +kernel)) rfl
theorem wd1_62 : (Jvm.Cond.fieldLink "RankRings" (160 : Nat) "RankRings$Text" "faultReason" "I") ∈ wG := wG1 (List.mem_of_getElem? (i := 62) (by decide +kernel)) rfl
theorem wd1_63 : (Jvm.Cond.fieldLink "RankRings$Text" (33 : Nat) "RankRings$Text" "at" "I") ∈ wG := wG1 (List.mem_of_getElem? (i := 63) (by decide +kernel)) rfl
theorem wd1_64 : (Jvm.Cond.fieldLink "RankRings$Text" (22 : Nat) "RankRings$Text" "wayNumbers" "[I") ∈ wG := wG1 (List.mem_of_getElem? (i := 64) (by decide +kernel)) rfl
theorem wd1_65 : (Jvm.Cond.fieldLink "RankRings$Text" (26 : Nat) "RankRings$Text" "wayIndexes" "[I") ∈ wG := wG1 (List.mem_of_getElem? (i := 65) (by decide +kernel)) rfl
theorem wd1_66 : (Jvm.Cond.fieldLink "RankRings$Text" (36 : Nat) "RankRings$Text" "wayCount" "I") ∈ wG := wG1 (List.mem_of_getElem? (i := 66) (by decide +kernel)) rfl
theorem wd1_87 : (Jvm.Cond.fieldLink "RankRings" (10 : Nat) "RankRings" "field" "LRankRings$Field;") ∈ wG := wG1 (List.mem_of_getElem? (i := 87) (by decide +kernel)) rfl
theorem wd1_88 : (Jvm.Cond.fieldLink "RankRings" (16 : Nat) "RankRings" "history" "[LRankRings$Field;") ∈ wG := wG1 (List.mem_of_getElem? (i := 88) (by decide +kernel)) rfl
theorem wd1_89 : (Jvm.Cond.fieldLink "RankRings" (103 : Nat) "RankRings" "states" "I") ∈ wG := wG1 (List.mem_of_getElem? (i := 89) (by decide +kernel)) rfl
theorem wd1_90 : (Jvm.Cond.fieldLink "RankRings" (20 : Nat) "RankRings" "snapshot" "LRankRings$Field;") ∈ wG := wG1 (List.mem_of_getElem? (i := 90) (by decide +kernel)) rfl
theorem wd1_91 : (Jvm.Cond.fieldLink "RankRings" (109 : Nat) "RankRings" "isKept" "Z") ∈ wG := wG1 (List.mem_of_getElem? (i := 91) (by decide +kernel)) rfl
theorem wd1_92 : (Jvm.Cond.fieldLink "RankRings" (26 : Nat) "RankRings" "text" "LRankRings$Text;") ∈ wG := wG1 (List.mem_of_getElem? (i := 92) (by decide +kernel)) rfl
theorem wd1_93 : (Jvm.Cond.fieldLink "RankRings" (30 : Nat) "RankRings" "trial" "LRankRings$Field;") ∈ wG := wG1 (List.mem_of_getElem? (i := 93) (by decide +kernel)) rfl
theorem wd1_94 : (Jvm.Cond.fieldLink "RankRings" (169 : Nat) "RankRings" "winnersKnown" "Z") ∈ wG := wG1 (List.mem_of_getElem? (i := 94) (by decide +kernel)) rfl
theorem wd1_95 : (Jvm.Cond.fieldLink "RankRings" (175 : Nat) "RankRings" "winsOf0" "I") ∈ wG := wG1 (List.mem_of_getElem? (i := 95) (by decide +kernel)) rfl
theorem wd1_96 : (Jvm.Cond.fieldLink "RankRings" (172 : Nat) "RankRings" "choicesKnown" "Z") ∈ wG := wG1 (List.mem_of_getElem? (i := 96) (by decide +kernel)) rfl
theorem wd1_97 : (Jvm.Cond.fieldLink "RankRings" (33 : Nat) "RankRings" "choices" "[I") ∈ wG := wG1 (List.mem_of_getElem? (i := 97) (by decide +kernel)) rfl
theorem wd1_121 : (Jvm.Cond.methodLink "RankRingsLaw" (13 : Nat) ({ cls := "RankRings", name := "add", desc := "(II)I" } : Jvm.MethodName)) ∈ wG := wG1 (List.mem_of_getElem? (i := 121) (by decide +kernel)) rfl
theorem wd1_122 : (Jvm.Cond.instanceMethod ({ cls := "RankRings", name := "add", desc := "(II)I" } : Jvm.MethodName)) ∈ wG := wG1 (List.mem_of_getElem? (i := 122) (by decide +kernel)) rfl
theorem wd1_123 : (Jvm.Cond.selects "RankRings" ({ cls := "RankRings", name := "add", desc := "(II)I" } : Jvm.MethodName) ({ cls := "RankRings", name := "add", desc := "(II)I" } : Jvm.MethodName)) ∈ wG := wG1 (List.mem_of_getElem? (i := 123) (by decide +kernel)) rfl
theorem wd1_124 : (Jvm.Cond.code ({ cls := "RankRings", name := "add", desc := "(II)I" } : Jvm.MethodName) prog_1_method_2_code (3 : Nat) (Option.some Jvm.ClassFile.FieldType.int)) ∈ wG := wG1 (List.mem_of_getElem? (i := 124) rfl) rfl
theorem wd1_125 : (Jvm.Cond.methodLink "RankRings" (37 : Nat) ({ cls := "RankRings", name := "isPlayer", desc := "(I)Z" } : Jvm.MethodName)) ∈ wG := wG1 (List.mem_of_getElem? (i := 125) (by decide +kernel)) rfl
theorem wd1_126 : (Jvm.Cond.static ({ cls := "RankRings", name := "isPlayer", desc := "(I)Z" } : Jvm.MethodName)) ∈ wG := wG1 (List.mem_of_getElem? (i := 126) (by decide +kernel)) rfl
theorem wd1_127 : (Jvm.Cond.code ({ cls := "RankRings", name := "isPlayer", desc := "(I)Z" } : Jvm.MethodName) prog_1_method_24_code (1 : Nat) (Option.some Jvm.ClassFile.FieldType.boolean)) ∈ wG := wG1 (List.mem_of_getElem? (i := 127) rfl) rfl
theorem wd1_128 : (Jvm.Cond.methodLink "RankRings" (41 : Nat) ({ cls := "RankRings", name := "isRank", desc := "(I)Z" } : Jvm.MethodName)) ∈ wG := wG1 (List.mem_of_getElem? (i := 128) (by decide +kernel)) rfl
theorem wd1_129 : (Jvm.Cond.static ({ cls := "RankRings", name := "isRank", desc := "(I)Z" } : Jvm.MethodName)) ∈ wG := wG1 (List.mem_of_getElem? (i := 129) (by decide +kernel)) rfl
theorem wd1_130 : (Jvm.Cond.code ({ cls := "RankRings", name := "isRank", desc := "(I)Z" } : Jvm.MethodName) prog_1_method_25_code (1 : Nat) (Option.some Jvm.ClassFile.FieldType.boolean)) ∈ wG := wG1 (List.mem_of_getElem? (i := 130) rfl) rfl
theorem wd1_131 : (Jvm.Cond.methodLink "RankRings" (48 : Nat) ({ cls := "RankRings", name := "recordState", desc := "()V" } : Jvm.MethodName)) ∈ wG := wG1 (List.mem_of_getElem? (i := 131) (by decide +kernel)) rfl
theorem wd1_133 : (Jvm.Cond.instanceMethod ({ cls := "RankRings", name := "recordState", desc := "()V" } : Jvm.MethodName)) ∈ wG := wG1 (List.mem_of_getElem? (i := 133) (by decide +kernel)) rfl
theorem wd1_134 : (Jvm.Cond.code ({ cls := "RankRings", name := "recordState", desc := "()V" } : Jvm.MethodName) prog_1_method_27_code (1 : Nat) (Option.none : Option Jvm.ClassFile.FieldType)) ∈ wG := wG1 (List.mem_of_getElem? (i := 134) rfl) rfl
theorem wd1_135 : (Jvm.Cond.methodLink "RankRings" (166 : Nat) ({ cls := "RankRings", name := "dropOldestState", desc := "()V" } : Jvm.MethodName)) ∈ wG := wG1 (List.mem_of_getElem? (i := 135) (by decide +kernel)) rfl
theorem wd1_137 : (Jvm.Cond.instanceMethod ({ cls := "RankRings", name := "dropOldestState", desc := "()V" } : Jvm.MethodName)) ∈ wG := wG1 (List.mem_of_getElem? (i := 137) (by decide +kernel)) rfl
theorem wd1_138 : (Jvm.Cond.code ({ cls := "RankRings", name := "dropOldestState", desc := "()V" } : Jvm.MethodName) prog_1_method_28_code (3 : Nat) (Option.none : Option Jvm.ClassFile.FieldType)) ∈ wG := wG1 (List.mem_of_getElem? (i := 138) rfl) rfl
theorem wd1_139 : (Jvm.Cond.methodLink "RankRings" (135 : Nat) ({ cls := "RankRings$Field", name := "copyFrom", desc := "(LRankRings$Field;)V" } : Jvm.MethodName)) ∈ wG := wG1 (List.mem_of_getElem? (i := 139) (by decide +kernel)) rfl
theorem wd1_140 : (Jvm.Cond.instanceMethod ({ cls := "RankRings$Field", name := "copyFrom", desc := "(LRankRings$Field;)V" } : Jvm.MethodName)) ∈ wG := wG1 (List.mem_of_getElem? (i := 140) (by decide +kernel)) rfl
theorem wd1_141 : (Jvm.Cond.selects "RankRings$Field" ({ cls := "RankRings$Field", name := "copyFrom", desc := "(LRankRings$Field;)V" } : Jvm.MethodName) ({ cls := "RankRings$Field", name := "copyFrom", desc := "(LRankRings$Field;)V" } : Jvm.MethodName)) ∈ wG := wG1 (List.mem_of_getElem? (i := 141) (by decide +kernel)) rfl
theorem wd1_142 : (Jvm.Cond.code ({ cls := "RankRings$Field", name := "copyFrom", desc := "(LRankRings$Field;)V" } : Jvm.MethodName) prog_2_method_12_code (3 : Nat) (Option.none : Option Jvm.ClassFile.FieldType)) ∈ wG := wG1 (List.mem_of_getElem? (i := 142) rfl) rfl
theorem wd1_143 : (Jvm.Cond.methodLink "RankRings" (147 : Nat) ({ cls := "RankRings", name := "forgetFindings", desc := "()V" } : Jvm.MethodName)) ∈ wG := wG1 (List.mem_of_getElem? (i := 143) (by decide +kernel)) rfl
theorem wd1_145 : (Jvm.Cond.instanceMethod ({ cls := "RankRings", name := "forgetFindings", desc := "()V" } : Jvm.MethodName)) ∈ wG := wG1 (List.mem_of_getElem? (i := 145) (by decide +kernel)) rfl
theorem wd1_146 : (Jvm.Cond.code ({ cls := "RankRings", name := "forgetFindings", desc := "()V" } : Jvm.MethodName) prog_1_method_29_code (1 : Nat) (Option.none : Option Jvm.ClassFile.FieldType)) ∈ wG := wG1 (List.mem_of_getElem? (i := 146) rfl) rfl
theorem wd1_147 : (Jvm.Cond.methodLink "RankRings" (51 : Nat) ({ cls := "RankRings$Field", name := "append", desc := "(II)V" } : Jvm.MethodName)) ∈ wG := wG1 (List.mem_of_getElem? (i := 147) (by decide +kernel)) rfl
theorem wd1_148 : (Jvm.Cond.instanceMethod ({ cls := "RankRings$Field", name := "append", desc := "(II)V" } : Jvm.MethodName)) ∈ wG := wG1 (List.mem_of_getElem? (i := 148) (by decide +kernel)) rfl
theorem wd1_149 : (Jvm.Cond.selects "RankRings$Field" ({ cls := "RankRings$Field", name := "append", desc := "(II)V" } : Jvm.MethodName) ({ cls := "RankRings$Field", name := "append", desc := "(II)V" } : Jvm.MethodName)) ∈ wG := wG1 (List.mem_of_getElem? (i := 149) (by decide +kernel)) rfl
theorem wd1_150 : (Jvm.Cond.code ({ cls := "RankRings$Field", name := "append", desc := "(II)V" } : Jvm.MethodName) prog_2_method_10_code (3 : Nat) (Option.none : Option Jvm.ClassFile.FieldType)) ∈ wG := wG1 (List.mem_of_getElem? (i := 150) rfl) rfl
theorem wd1_151 : (Jvm.Cond.methodLink "RankRingsLaw" (18 : Nat) ({ cls := "RankRings", name := "own", desc := "(II)I" } : Jvm.MethodName)) ∈ wG := wG1 (List.mem_of_getElem? (i := 151) (by decide +kernel)) rfl
theorem wd1_152 : (Jvm.Cond.instanceMethod ({ cls := "RankRings", name := "own", desc := "(II)I" } : Jvm.MethodName)) ∈ wG := wG1 (List.mem_of_getElem? (i := 152) (by decide +kernel)) rfl
theorem wd1_153 : (Jvm.Cond.selects "RankRings" ({ cls := "RankRings", name := "own", desc := "(II)I" } : Jvm.MethodName) ({ cls := "RankRings", name := "own", desc := "(II)I" } : Jvm.MethodName)) ∈ wG := wG1 (List.mem_of_getElem? (i := 153) (by decide +kernel)) rfl
theorem wd1_154 : (Jvm.Cond.code ({ cls := "RankRings", name := "own", desc := "(II)I" } : Jvm.MethodName) prog_1_method_3_code (4 : Nat) (Option.some Jvm.ClassFile.FieldType.int)) ∈ wG := wG1 (List.mem_of_getElem? (i := 154) rfl) rfl
theorem wd1_155 : (Jvm.Cond.methodLink "RankRings" (55 : Nat) ({ cls := "RankRings$Field", name := "has", desc := "(I)Z" } : Jvm.MethodName)) ∈ wG := wG1 (List.mem_of_getElem? (i := 155) (by decide +kernel)) rfl
theorem wd1_156 : (Jvm.Cond.instanceMethod ({ cls := "RankRings$Field", name := "has", desc := "(I)Z" } : Jvm.MethodName)) ∈ wG := wG1 (List.mem_of_getElem? (i := 156) (by decide +kernel)) rfl
theorem wd1_157 : (Jvm.Cond.selects "RankRings$Field" ({ cls := "RankRings$Field", name := "has", desc := "(I)Z" } : Jvm.MethodName) ({ cls := "RankRings$Field", name := "has", desc := "(I)Z" } : Jvm.MethodName)) ∈ wG := wG1 (List.mem_of_getElem? (i := 157) (by decide +kernel)) rfl
theorem wd1_158 : (Jvm.Cond.code ({ cls := "RankRings$Field", name := "has", desc := "(I)Z" } : Jvm.MethodName) prog_2_method_2_code (2 : Nat) (Option.some Jvm.ClassFile.FieldType.boolean)) ∈ wG := wG1 (List.mem_of_getElem? (i := 158) rfl) rfl
theorem wd1_159 : (Jvm.Cond.methodLink "RankRingsLaw" (22 : Nat) ({ cls := "RankRings", name := "rank", desc := "(II)I" } : Jvm.MethodName)) ∈ wG := wG1 (List.mem_of_getElem? (i := 159) (by decide +kernel)) rfl
theorem wd1_160 : (Jvm.Cond.instanceMethod ({ cls := "RankRings", name := "rank", desc := "(II)I" } : Jvm.MethodName)) ∈ wG := wG1 (List.mem_of_getElem? (i := 160) (by decide +kernel)) rfl
theorem wd1_161 : (Jvm.Cond.selects "RankRings" ({ cls := "RankRings", name := "rank", desc := "(II)I" } : Jvm.MethodName) ({ cls := "RankRings", name := "rank", desc := "(II)I" } : Jvm.MethodName)) ∈ wG := wG1 (List.mem_of_getElem? (i := 161) (by decide +kernel)) rfl
theorem wd1_162 : (Jvm.Cond.code ({ cls := "RankRings", name := "rank", desc := "(II)I" } : Jvm.MethodName) prog_1_method_4_code (4 : Nat) (Option.some Jvm.ClassFile.FieldType.int)) ∈ wG := wG1 (List.mem_of_getElem? (i := 162) rfl) rfl
theorem wd1_163 : (Jvm.Cond.methodLink "RankRingsLaw" (26 : Nat) ({ cls := "RankRings", name := "way", desc := "(III)I" } : Jvm.MethodName)) ∈ wG := wG1 (List.mem_of_getElem? (i := 163) (by decide +kernel)) rfl
theorem wd1_164 : (Jvm.Cond.instanceMethod ({ cls := "RankRings", name := "way", desc := "(III)I" } : Jvm.MethodName)) ∈ wG := wG1 (List.mem_of_getElem? (i := 164) (by decide +kernel)) rfl
theorem wd1_165 : (Jvm.Cond.selects "RankRings" ({ cls := "RankRings", name := "way", desc := "(III)I" } : Jvm.MethodName) ({ cls := "RankRings", name := "way", desc := "(III)I" } : Jvm.MethodName)) ∈ wG := wG1 (List.mem_of_getElem? (i := 165) (by decide +kernel)) rfl
theorem wd1_166 : (Jvm.Cond.code ({ cls := "RankRings", name := "way", desc := "(III)I" } : Jvm.MethodName) prog_1_method_5_code (4 : Nat) (Option.some Jvm.ClassFile.FieldType.int)) ∈ wG := wG1 (List.mem_of_getElem? (i := 166) rfl) rfl
theorem wd1_167 : (Jvm.Cond.methodLink "RankRings" (67 : Nat) ({ cls := "RankRings", name := "contains", desc := "(II)Z" } : Jvm.MethodName)) ∈ wG := wG1 (List.mem_of_getElem? (i := 167) (by decide +kernel)) rfl
theorem wd1_168 : (Jvm.Cond.static ({ cls := "RankRings", name := "contains", desc := "(II)Z" } : Jvm.MethodName)) ∈ wG := wG1 (List.mem_of_getElem? (i := 168) (by decide +kernel)) rfl
theorem wd1_169 : (Jvm.Cond.code ({ cls := "RankRings", name := "contains", desc := "(II)Z" } : Jvm.MethodName) prog_1_method_26_code (2 : Nat) (Option.some Jvm.ClassFile.FieldType.boolean)) ∈ wG := wG1 (List.mem_of_getElem? (i := 169) rfl) rfl
theorem wd1_170 : (Jvm.Cond.methodLink "RankRings" (71 : Nat) ({ cls := "java/lang/Integer", name := "bitCount", desc := "(I)I" } : Jvm.MethodName)) ∈ wG := wG1 (List.mem_of_getElem? (i := 170) (by decide +kernel)) rfl
theorem wd1_171 : (Jvm.Cond.static ({ cls := "java/lang/Integer", name := "bitCount", desc := "(I)I" } : Jvm.MethodName)) ∈ wG := wG1 (List.mem_of_getElem? (i := 171) (by decide +kernel)) rfl
theorem wd1_172 : (Jvm.Cond.code ({ cls := "java/lang/Integer", name := "bitCount", desc := "(I)I" } : Jvm.MethodName) prog_7_method_49_code (1 : Nat) (Option.some Jvm.ClassFile.FieldType.int)) ∈ wG := wG1 (List.mem_of_getElem? (i := 172) rfl) rfl
theorem wd1_173 : (Jvm.Cond.constant "java/lang/Integer" (265 : Nat) (1431655765 : Int32)) ∈ wG := wG1 (List.mem_of_getElem? (i := 173) (by decide +kernel)) rfl
theorem wd1_174 : (Jvm.Cond.constant "java/lang/Integer" (266 : Nat) (858993459 : Int32)) ∈ wG := wG1 (List.mem_of_getElem? (i := 174) (by decide +kernel)) rfl
theorem wd1_175 : (Jvm.Cond.constant "java/lang/Integer" (267 : Nat) (252645135 : Int32)) ∈ wG := wG1 (List.mem_of_getElem? (i := 175) (by decide +kernel)) rfl
theorem wd1_176 : (Jvm.Cond.methodLink "RankRingsLaw" (31 : Nat) ({ cls := "RankRings", name := "drop", desc := "(I)I" } : Jvm.MethodName)) ∈ wG := wG1 (List.mem_of_getElem? (i := 176) (by decide +kernel)) rfl
theorem wd1_177 : (Jvm.Cond.instanceMethod ({ cls := "RankRings", name := "drop", desc := "(I)I" } : Jvm.MethodName)) ∈ wG := wG1 (List.mem_of_getElem? (i := 177) (by decide +kernel)) rfl
theorem wd1_178 : (Jvm.Cond.selects "RankRings" ({ cls := "RankRings", name := "drop", desc := "(I)I" } : Jvm.MethodName) ({ cls := "RankRings", name := "drop", desc := "(I)I" } : Jvm.MethodName)) ∈ wG := wG1 (List.mem_of_getElem? (i := 178) (by decide +kernel)) rfl
theorem wd1_179 : (Jvm.Cond.code ({ cls := "RankRings", name := "drop", desc := "(I)I" } : Jvm.MethodName) prog_1_method_6_code (2 : Nat) (Option.some Jvm.ClassFile.FieldType.int)) ∈ wG := wG1 (List.mem_of_getElem? (i := 179) rfl) rfl
theorem wd1_180 : (Jvm.Cond.methodLink "RankRings" (77 : Nat) ({ cls := "RankRings$Field", name := "remove", desc := "(I)V" } : Jvm.MethodName)) ∈ wG := wG1 (List.mem_of_getElem? (i := 180) (by decide +kernel)) rfl
theorem wd1_181 : (Jvm.Cond.instanceMethod ({ cls := "RankRings$Field", name := "remove", desc := "(I)V" } : Jvm.MethodName)) ∈ wG := wG1 (List.mem_of_getElem? (i := 181) (by decide +kernel)) rfl
theorem wd1_182 : (Jvm.Cond.selects "RankRings$Field" ({ cls := "RankRings$Field", name := "remove", desc := "(I)V" } : Jvm.MethodName) ({ cls := "RankRings$Field", name := "remove", desc := "(I)V" } : Jvm.MethodName)) ∈ wG := wG1 (List.mem_of_getElem? (i := 182) (by decide +kernel)) rfl
theorem wd1_183 : (Jvm.Cond.code ({ cls := "RankRings$Field", name := "remove", desc := "(I)V" } : Jvm.MethodName) prog_2_method_11_code (4 : Nat) (Option.none : Option Jvm.ClassFile.FieldType)) ∈ wG := wG1 (List.mem_of_getElem? (i := 183) rfl) rfl
theorem wd1_184 : (Jvm.Cond.methodLink "RankRingsLaw" (36 : Nat) ({ cls := "RankRings", name := "placeOf", desc := "(II)I" } : Jvm.MethodName)) ∈ wG := wG1 (List.mem_of_getElem? (i := 184) (by decide +kernel)) rfl
theorem wd1_185 : (Jvm.Cond.instanceMethod ({ cls := "RankRings", name := "placeOf", desc := "(II)I" } : Jvm.MethodName)) ∈ wG := wG1 (List.mem_of_getElem? (i := 185) (by decide +kernel)) rfl
theorem wd1_186 : (Jvm.Cond.selects "RankRings" ({ cls := "RankRings", name := "placeOf", desc := "(II)I" } : Jvm.MethodName) ({ cls := "RankRings", name := "placeOf", desc := "(II)I" } : Jvm.MethodName)) ∈ wG := wG1 (List.mem_of_getElem? (i := 186) (by decide +kernel)) rfl
theorem wd1_187 : (Jvm.Cond.code ({ cls := "RankRings", name := "placeOf", desc := "(II)I" } : Jvm.MethodName) prog_1_method_7_code (3 : Nat) (Option.some Jvm.ClassFile.FieldType.int)) ∈ wG := wG1 (List.mem_of_getElem? (i := 187) rfl) rfl
theorem wd1_188 : (Jvm.Cond.methodLink "RankRings" (81 : Nat) ({ cls := "RankRings$Field", name := "waysTo", desc := "(I)I" } : Jvm.MethodName)) ∈ wG := wG1 (List.mem_of_getElem? (i := 188) (by decide +kernel)) rfl
theorem wd1_189 : (Jvm.Cond.instanceMethod ({ cls := "RankRings$Field", name := "waysTo", desc := "(I)I" } : Jvm.MethodName)) ∈ wG := wG1 (List.mem_of_getElem? (i := 189) (by decide +kernel)) rfl
theorem wd1_190 : (Jvm.Cond.selects "RankRings$Field" ({ cls := "RankRings$Field", name := "waysTo", desc := "(I)I" } : Jvm.MethodName) ({ cls := "RankRings$Field", name := "waysTo", desc := "(I)I" } : Jvm.MethodName)) ∈ wG := wG1 (List.mem_of_getElem? (i := 190) (by decide +kernel)) rfl
theorem wd1_191 : (Jvm.Cond.code ({ cls := "RankRings$Field", name := "waysTo", desc := "(I)I" } : Jvm.MethodName) prog_2_method_5_code (4 : Nat) (Option.some Jvm.ClassFile.FieldType.int)) ∈ wG := wG1 (List.mem_of_getElem? (i := 191) rfl) rfl
theorem wd1_193 : (Jvm.Cond.methodLink "RankRings" (84 : Nat) ({ cls := "RankRings", name := "winnerFrom", desc := "(I)I" } : Jvm.MethodName)) ∈ wG := wG1 (List.mem_of_getElem? (i := 193) (by decide +kernel)) rfl
theorem wd1_195 : (Jvm.Cond.instanceMethod ({ cls := "RankRings", name := "winnerFrom", desc := "(I)I" } : Jvm.MethodName)) ∈ wG := wG1 (List.mem_of_getElem? (i := 195) (by decide +kernel)) rfl
theorem wd1_196 : (Jvm.Cond.code ({ cls := "RankRings", name := "winnerFrom", desc := "(I)I" } : Jvm.MethodName) prog_1_method_31_code (2 : Nat) (Option.some Jvm.ClassFile.FieldType.int)) ∈ wG := wG1 (List.mem_of_getElem? (i := 196) rfl) rfl
theorem wd1_197 : (Jvm.Cond.methodLink "RankRings" (94 : Nat) ({ cls := "RankRings", name := "winsOf", desc := "(I)I" } : Jvm.MethodName)) ∈ wG := wG1 (List.mem_of_getElem? (i := 197) (by decide +kernel)) rfl
theorem wd1_199 : (Jvm.Cond.instanceMethod ({ cls := "RankRings", name := "winsOf", desc := "(I)I" } : Jvm.MethodName)) ∈ wG := wG1 (List.mem_of_getElem? (i := 199) (by decide +kernel)) rfl
theorem wd1_200 : (Jvm.Cond.code ({ cls := "RankRings", name := "winsOf", desc := "(I)I" } : Jvm.MethodName) prog_1_method_30_code (2 : Nat) (Option.some Jvm.ClassFile.FieldType.int)) ∈ wG := wG1 (List.mem_of_getElem? (i := 200) rfl) rfl
theorem wd1_201 : (Jvm.Cond.methodLink "RankRings" (139 : Nat) ({ cls := "RankRings$Solver", name := "winsOf0", desc := "(LRankRings$Field;)I" } : Jvm.MethodName)) ∈ wG := wG1 (List.mem_of_getElem? (i := 201) (by decide +kernel)) rfl
theorem wd1_202 : (Jvm.Cond.static ({ cls := "RankRings$Solver", name := "winsOf0", desc := "(LRankRings$Field;)I" } : Jvm.MethodName)) ∈ wG := wG1 (List.mem_of_getElem? (i := 202) (by decide +kernel)) rfl
theorem wd1_203 : (Jvm.Cond.code ({ cls := "RankRings$Solver", name := "winsOf0", desc := "(LRankRings$Field;)I" } : Jvm.MethodName) prog_3_method_2_code (4 : Nat) (Option.some Jvm.ClassFile.FieldType.int)) ∈ wG := wG1 (List.mem_of_getElem? (i := 203) rfl) rfl
theorem wd1_204 : (Jvm.Cond.methodLink "RankRings$Solver" (9 : Nat) ({ cls := "RankRings$Field", name := "all", desc := "()I" } : Jvm.MethodName)) ∈ wG := wG1 (List.mem_of_getElem? (i := 204) (by decide +kernel)) rfl
theorem wd1_205 : (Jvm.Cond.instanceMethod ({ cls := "RankRings$Field", name := "all", desc := "()I" } : Jvm.MethodName)) ∈ wG := wG1 (List.mem_of_getElem? (i := 205) (by decide +kernel)) rfl
theorem wd1_206 : (Jvm.Cond.selects "RankRings$Field" ({ cls := "RankRings$Field", name := "all", desc := "()I" } : Jvm.MethodName) ({ cls := "RankRings$Field", name := "all", desc := "()I" } : Jvm.MethodName)) ∈ wG := wG1 (List.mem_of_getElem? (i := 206) (by decide +kernel)) rfl
theorem wd1_207 : (Jvm.Cond.code ({ cls := "RankRings$Field", name := "all", desc := "()I" } : Jvm.MethodName) prog_2_method_4_code (1 : Nat) (Option.some Jvm.ClassFile.FieldType.int)) ∈ wG := wG1 (List.mem_of_getElem? (i := 207) rfl) rfl
theorem wd1_208 : (Jvm.Cond.methodLink "RankRings$Solver" (15 : Nat) ({ cls := "RankRings$Field", name := "endsOf", desc := "(I)I" } : Jvm.MethodName)) ∈ wG := wG1 (List.mem_of_getElem? (i := 208) (by decide +kernel)) rfl
theorem wd1_209 : (Jvm.Cond.instanceMethod ({ cls := "RankRings$Field", name := "endsOf", desc := "(I)I" } : Jvm.MethodName)) ∈ wG := wG1 (List.mem_of_getElem? (i := 209) (by decide +kernel)) rfl
theorem wd1_210 : (Jvm.Cond.selects "RankRings$Field" ({ cls := "RankRings$Field", name := "endsOf", desc := "(I)I" } : Jvm.MethodName) ({ cls := "RankRings$Field", name := "endsOf", desc := "(I)I" } : Jvm.MethodName)) ∈ wG := wG1 (List.mem_of_getElem? (i := 210) (by decide +kernel)) rfl
theorem wd1_211 : (Jvm.Cond.code ({ cls := "RankRings$Field", name := "endsOf", desc := "(I)I" } : Jvm.MethodName) prog_2_method_8_code (4 : Nat) (Option.some Jvm.ClassFile.FieldType.int)) ∈ wG := wG1 (List.mem_of_getElem? (i := 211) rfl) rfl
theorem wd1_212 : (Jvm.Cond.methodLink "RankRings$Solver" (19 : Nat) ({ cls := "RankRings$Solver", name := "pull", desc := "(LRankRings$Field;III)I" } : Jvm.MethodName)) ∈ wG := wG1 (List.mem_of_getElem? (i := 212) (by decide +kernel)) rfl
theorem wd1_213 : (Jvm.Cond.static ({ cls := "RankRings$Solver", name := "pull", desc := "(LRankRings$Field;III)I" } : Jvm.MethodName)) ∈ wG := wG1 (List.mem_of_getElem? (i := 213) (by decide +kernel)) rfl
theorem wd1_214 : (Jvm.Cond.code ({ cls := "RankRings$Solver", name := "pull", desc := "(LRankRings$Field;III)I" } : Jvm.MethodName) prog_3_method_4_code (7 : Nat) (Option.some Jvm.ClassFile.FieldType.int)) ∈ wG := wG1 (List.mem_of_getElem? (i := 214) rfl) rfl
theorem wd1_215 : (Jvm.Cond.methodLink "RankRings$Solver" (31 : Nat) ({ cls := "RankRings$Solver", name := "pullOnce", desc := "(LRankRings$Field;III)I" } : Jvm.MethodName)) ∈ wG := wG1 (List.mem_of_getElem? (i := 215) (by decide +kernel)) rfl
theorem wd1_216 : (Jvm.Cond.static ({ cls := "RankRings$Solver", name := "pullOnce", desc := "(LRankRings$Field;III)I" } : Jvm.MethodName)) ∈ wG := wG1 (List.mem_of_getElem? (i := 216) (by decide +kernel)) rfl
theorem wd1_217 : (Jvm.Cond.code ({ cls := "RankRings$Solver", name := "pullOnce", desc := "(LRankRings$Field;III)I" } : Jvm.MethodName) prog_3_method_5_code (8 : Nat) (Option.some Jvm.ClassFile.FieldType.int)) ∈ wG := wG1 (List.mem_of_getElem? (i := 217) rfl) rfl
theorem wd1_219 : (Jvm.Cond.methodLink "RankRings$Solver" (25 : Nat) ({ cls := "RankRings$Solver", name := "winsWithin", desc := "(LRankRings$Field;III)I" } : Jvm.MethodName)) ∈ wG := wG1 (List.mem_of_getElem? (i := 219) (by decide +kernel)) rfl
theorem wd1_220 : (Jvm.Cond.static ({ cls := "RankRings$Solver", name := "winsWithin", desc := "(LRankRings$Field;III)I" } : Jvm.MethodName)) ∈ wG := wG1 (List.mem_of_getElem? (i := 220) (by decide +kernel)) rfl
theorem wd1_221 : (Jvm.Cond.code ({ cls := "RankRings$Solver", name := "winsWithin", desc := "(LRankRings$Field;III)I" } : Jvm.MethodName) prog_3_method_3_code (11 : Nat) (Option.some Jvm.ClassFile.FieldType.int)) ∈ wG := wG1 (List.mem_of_getElem? (i := 221) rfl) rfl
theorem wd1_222 : (Jvm.Cond.methodLink "RankRings$Solver" (28 : Nat) ({ cls := "RankRings$Field", name := "ranked", desc := "(I)I" } : Jvm.MethodName)) ∈ wG := wG1 (List.mem_of_getElem? (i := 222) (by decide +kernel)) rfl
theorem wd1_223 : (Jvm.Cond.instanceMethod ({ cls := "RankRings$Field", name := "ranked", desc := "(I)I" } : Jvm.MethodName)) ∈ wG := wG1 (List.mem_of_getElem? (i := 223) (by decide +kernel)) rfl
theorem wd1_224 : (Jvm.Cond.selects "RankRings$Field" ({ cls := "RankRings$Field", name := "ranked", desc := "(I)I" } : Jvm.MethodName) ({ cls := "RankRings$Field", name := "ranked", desc := "(I)I" } : Jvm.MethodName)) ∈ wG := wG1 (List.mem_of_getElem? (i := 224) (by decide +kernel)) rfl
theorem wd1_225 : (Jvm.Cond.code ({ cls := "RankRings$Field", name := "ranked", desc := "(I)I" } : Jvm.MethodName) prog_2_method_9_code (4 : Nat) (Option.some Jvm.ClassFile.FieldType.int)) ∈ wG := wG1 (List.mem_of_getElem? (i := 225) rfl) rfl
theorem wd1_226 : (Jvm.Cond.methodLink "RankRings" (116 : Nat) ({ cls := "RankRings$Field", name := "all", desc := "()I" } : Jvm.MethodName)) ∈ wG := wG1 (List.mem_of_getElem? (i := 226) (by decide +kernel)) rfl
theorem wd1_227 : (Jvm.Cond.methodLink "RankRings" (87 : Nat) ({ cls := "RankRings", name := "findChoices", desc := "()V" } : Jvm.MethodName)) ∈ wG := wG1 (List.mem_of_getElem? (i := 227) (by decide +kernel)) rfl
theorem wd1_229 : (Jvm.Cond.instanceMethod ({ cls := "RankRings", name := "findChoices", desc := "()V" } : Jvm.MethodName)) ∈ wG := wG1 (List.mem_of_getElem? (i := 229) (by decide +kernel)) rfl
theorem wd1_230 : (Jvm.Cond.code ({ cls := "RankRings", name := "findChoices", desc := "()V" } : Jvm.MethodName) prog_1_method_32_code (3 : Nat) (Option.none : Option Jvm.ClassFile.FieldType)) ∈ wG := wG1 (List.mem_of_getElem? (i := 230) rfl) rfl
theorem wd1_231 : (Jvm.Cond.methodLink "RankRings" (177 : Nat) ({ cls := "RankRings", name := "settle", desc := "(I)I" } : Jvm.MethodName)) ∈ wG := wG1 (List.mem_of_getElem? (i := 231) (by decide +kernel)) rfl
theorem wd1_233 : (Jvm.Cond.instanceMethod ({ cls := "RankRings", name := "settle", desc := "(I)I" } : Jvm.MethodName)) ∈ wG := wG1 (List.mem_of_getElem? (i := 233) (by decide +kernel)) rfl
theorem wd1_234 : (Jvm.Cond.code ({ cls := "RankRings", name := "settle", desc := "(I)I" } : Jvm.MethodName) prog_1_method_33_code (4 : Nat) (Option.some Jvm.ClassFile.FieldType.int)) ∈ wG := wG1 (List.mem_of_getElem? (i := 234) rfl) rfl
theorem wd1_235 : (Jvm.Cond.methodLink "RankRings" (180 : Nat) ({ cls := "java/lang/Integer", name := "numberOfTrailingZeros", desc := "(I)I" } : Jvm.MethodName)) ∈ wG := wG1 (List.mem_of_getElem? (i := 235) (by decide +kernel)) rfl
theorem wd1_236 : (Jvm.Cond.static ({ cls := "java/lang/Integer", name := "numberOfTrailingZeros", desc := "(I)I" } : Jvm.MethodName)) ∈ wG := wG1 (List.mem_of_getElem? (i := 236) (by decide +kernel)) rfl
theorem wd1_237 : (Jvm.Cond.code ({ cls := "java/lang/Integer", name := "numberOfTrailingZeros", desc := "(I)I" } : Jvm.MethodName) prog_7_method_48_code (2 : Nat) (Option.some Jvm.ClassFile.FieldType.int)) ∈ wG := wG1 (List.mem_of_getElem? (i := 237) rfl) rfl
theorem wd1_238 : (Jvm.Cond.constant "java/lang/Integer" (264 : Nat) (65536 : Int32)) ∈ wG := wG1 (List.mem_of_getElem? (i := 238) (by decide +kernel)) rfl
theorem wd1_239 : (Jvm.Cond.methodLink "RankRingsLaw" (40 : Nat) ({ cls := "RankRings", name := "count", desc := "(I)I" } : Jvm.MethodName)) ∈ wG := wG1 (List.mem_of_getElem? (i := 239) (by decide +kernel)) rfl
theorem wd2_0 : (Jvm.Cond.instanceMethod ({ cls := "RankRings", name := "count", desc := "(I)I" } : Jvm.MethodName)) ∈ wG := wG2 (List.mem_of_getElem? (i := 0) (by decide +kernel)) rfl
theorem wd2_1 : (Jvm.Cond.selects "RankRings" ({ cls := "RankRings", name := "count", desc := "(I)I" } : Jvm.MethodName) ({ cls := "RankRings", name := "count", desc := "(I)I" } : Jvm.MethodName)) ∈ wG := wG2 (List.mem_of_getElem? (i := 1) (by decide +kernel)) rfl
theorem wd2_2 : (Jvm.Cond.code ({ cls := "RankRings", name := "count", desc := "(I)I" } : Jvm.MethodName) prog_1_method_8_code (2 : Nat) (Option.some Jvm.ClassFile.FieldType.int)) ∈ wG := wG2 (List.mem_of_getElem? (i := 2) rfl) rfl
theorem wd2_3 : (Jvm.Cond.methodLink "RankRings" (90 : Nat) ({ cls := "RankRings$Field", name := "numberOfWays", desc := "()I" } : Jvm.MethodName)) ∈ wG := wG2 (List.mem_of_getElem? (i := 3) (by decide +kernel)) rfl
theorem wd2_4 : (Jvm.Cond.instanceMethod ({ cls := "RankRings$Field", name := "numberOfWays", desc := "()I" } : Jvm.MethodName)) ∈ wG := wG2 (List.mem_of_getElem? (i := 4) (by decide +kernel)) rfl
theorem wd2_5 : (Jvm.Cond.selects "RankRings$Field" ({ cls := "RankRings$Field", name := "numberOfWays", desc := "()I" } : Jvm.MethodName) ({ cls := "RankRings$Field", name := "numberOfWays", desc := "()I" } : Jvm.MethodName)) ∈ wG := wG2 (List.mem_of_getElem? (i := 5) (by decide +kernel)) rfl
theorem wd2_6 : (Jvm.Cond.code ({ cls := "RankRings$Field", name := "numberOfWays", desc := "()I" } : Jvm.MethodName) prog_2_method_6_code (3 : Nat) (Option.some Jvm.ClassFile.FieldType.int)) ∈ wG := wG2 (List.mem_of_getElem? (i := 6) rfl) rfl
theorem wd2_7 : (Jvm.Cond.methodLink "RankRings$Field" (33 : Nat) ({ cls := "java/lang/Integer", name := "bitCount", desc := "(I)I" } : Jvm.MethodName)) ∈ wG := wG2 (List.mem_of_getElem? (i := 7) (by decide +kernel)) rfl
theorem wd2_8 : (Jvm.Cond.methodLink "RankRings" (97 : Nat) ({ cls := "RankRings$Field", name := "endsOf", desc := "(I)I" } : Jvm.MethodName)) ∈ wG := wG2 (List.mem_of_getElem? (i := 8) (by decide +kernel)) rfl
theorem wd2_9 : (Jvm.Cond.methodLink "RankRings" (100 : Nat) ({ cls := "RankRings$Field", name := "greatestRank", desc := "()I" } : Jvm.MethodName)) ∈ wG := wG2 (List.mem_of_getElem? (i := 9) (by decide +kernel)) rfl
theorem wd2_10 : (Jvm.Cond.instanceMethod ({ cls := "RankRings$Field", name := "greatestRank", desc := "()I" } : Jvm.MethodName)) ∈ wG := wG2 (List.mem_of_getElem? (i := 10) (by decide +kernel)) rfl
theorem wd2_11 : (Jvm.Cond.selects "RankRings$Field" ({ cls := "RankRings$Field", name := "greatestRank", desc := "()I" } : Jvm.MethodName) ({ cls := "RankRings$Field", name := "greatestRank", desc := "()I" } : Jvm.MethodName)) ∈ wG := wG2 (List.mem_of_getElem? (i := 11) (by decide +kernel)) rfl
theorem wd2_12 : (Jvm.Cond.code ({ cls := "RankRings$Field", name := "greatestRank", desc := "()I" } : Jvm.MethodName) prog_2_method_7_code (3 : Nat) (Option.some Jvm.ClassFile.FieldType.int)) ∈ wG := wG2 (List.mem_of_getElem? (i := 12) rfl) rfl
theorem wd2_13 : (Jvm.Cond.methodLink "RankRings$Field" (39 : Nat) ({ cls := "java/lang/Math", name := "max", desc := "(II)I" } : Jvm.MethodName)) ∈ wG := wG2 (List.mem_of_getElem? (i := 13) (by decide +kernel)) rfl
theorem wd2_14 : (Jvm.Cond.static ({ cls := "java/lang/Math", name := "max", desc := "(II)I" } : Jvm.MethodName)) ∈ wG := wG2 (List.mem_of_getElem? (i := 14) (by decide +kernel)) rfl
theorem wd2_15 : (Jvm.Cond.code ({ cls := "java/lang/Math", name := "max", desc := "(II)I" } : Jvm.MethodName) prog_8_method_65_code (2 : Nat) (Option.some Jvm.ClassFile.FieldType.int)) ∈ wG := wG2 (List.mem_of_getElem? (i := 15) rfl) rfl
theorem wd2_16 : (Jvm.Cond.methodLink "RankRingsLaw" (44 : Nat) ({ cls := "RankRings", name := "pulled", desc := "(II)I" } : Jvm.MethodName)) ∈ wG := wG2 (List.mem_of_getElem? (i := 16) (by decide +kernel)) rfl
theorem wd2_17 : (Jvm.Cond.instanceMethod ({ cls := "RankRings", name := "pulled", desc := "(II)I" } : Jvm.MethodName)) ∈ wG := wG2 (List.mem_of_getElem? (i := 17) (by decide +kernel)) rfl
theorem wd2_18 : (Jvm.Cond.selects "RankRings" ({ cls := "RankRings", name := "pulled", desc := "(II)I" } : Jvm.MethodName) ({ cls := "RankRings", name := "pulled", desc := "(II)I" } : Jvm.MethodName)) ∈ wG := wG2 (List.mem_of_getElem? (i := 18) (by decide +kernel)) rfl
theorem wd2_19 : (Jvm.Cond.code ({ cls := "RankRings", name := "pulled", desc := "(II)I" } : Jvm.MethodName) prog_1_method_9_code (3 : Nat) (Option.some Jvm.ClassFile.FieldType.int)) ∈ wG := wG2 (List.mem_of_getElem? (i := 19) rfl) rfl
theorem wd2_20 : (Jvm.Cond.methodLink "RankRings" (113 : Nat) ({ cls := "RankRings$Field", name := "hasAll", desc := "(I)Z" } : Jvm.MethodName)) ∈ wG := wG2 (List.mem_of_getElem? (i := 20) (by decide +kernel)) rfl
theorem wd2_21 : (Jvm.Cond.instanceMethod ({ cls := "RankRings$Field", name := "hasAll", desc := "(I)Z" } : Jvm.MethodName)) ∈ wG := wG2 (List.mem_of_getElem? (i := 21) (by decide +kernel)) rfl
theorem wd2_22 : (Jvm.Cond.selects "RankRings$Field" ({ cls := "RankRings$Field", name := "hasAll", desc := "(I)Z" } : Jvm.MethodName) ({ cls := "RankRings$Field", name := "hasAll", desc := "(I)Z" } : Jvm.MethodName)) ∈ wG := wG2 (List.mem_of_getElem? (i := 22) (by decide +kernel)) rfl
theorem wd2_23 : (Jvm.Cond.code ({ cls := "RankRings$Field", name := "hasAll", desc := "(I)Z" } : Jvm.MethodName) prog_2_method_3_code (2 : Nat) (Option.some Jvm.ClassFile.FieldType.boolean)) ∈ wG := wG2 (List.mem_of_getElem? (i := 23) rfl) rfl
theorem wd2_24 : (Jvm.Cond.methodLink "RankRings$Field" (25 : Nat) ({ cls := "RankRings$Field", name := "all", desc := "()I" } : Jvm.MethodName)) ∈ wG := wG2 (List.mem_of_getElem? (i := 24) (by decide +kernel)) rfl
theorem wd2_25 : (Jvm.Cond.methodLink "RankRings" (119 : Nat) ({ cls := "RankRings$Solver", name := "pull", desc := "(LRankRings$Field;III)I" } : Jvm.MethodName)) ∈ wG := wG2 (List.mem_of_getElem? (i := 25) (by decide +kernel)) rfl
theorem wd2_26 : (Jvm.Cond.methodLink "RankRingsLaw" (48 : Nat) ({ cls := "RankRings", name := "steps", desc := "(III)I" } : Jvm.MethodName)) ∈ wG := wG2 (List.mem_of_getElem? (i := 26) (by decide +kernel)) rfl
theorem wd2_27 : (Jvm.Cond.instanceMethod ({ cls := "RankRings", name := "steps", desc := "(III)I" } : Jvm.MethodName)) ∈ wG := wG2 (List.mem_of_getElem? (i := 27) (by decide +kernel)) rfl
theorem wd2_28 : (Jvm.Cond.selects "RankRings" ({ cls := "RankRings", name := "steps", desc := "(III)I" } : Jvm.MethodName) ({ cls := "RankRings", name := "steps", desc := "(III)I" } : Jvm.MethodName)) ∈ wG := wG2 (List.mem_of_getElem? (i := 28) (by decide +kernel)) rfl
theorem wd2_29 : (Jvm.Cond.code ({ cls := "RankRings", name := "steps", desc := "(III)I" } : Jvm.MethodName) prog_1_method_10_code (6 : Nat) (Option.some Jvm.ClassFile.FieldType.int)) ∈ wG := wG2 (List.mem_of_getElem? (i := 29) rfl) rfl
theorem wd2_30 : (Jvm.Cond.methodLink "RankRings" (125 : Nat) ({ cls := "RankRings$Solver", name := "pullOnce", desc := "(LRankRings$Field;III)I" } : Jvm.MethodName)) ∈ wG := wG2 (List.mem_of_getElem? (i := 30) (by decide +kernel)) rfl
theorem wd2_31 : (Jvm.Cond.methodLink "RankRingsLaw" (52 : Nat) ({ cls := "RankRings", name := "trap", desc := "(II)I" } : Jvm.MethodName)) ∈ wG := wG2 (List.mem_of_getElem? (i := 31) (by decide +kernel)) rfl
theorem wd2_32 : (Jvm.Cond.instanceMethod ({ cls := "RankRings", name := "trap", desc := "(II)I" } : Jvm.MethodName)) ∈ wG := wG2 (List.mem_of_getElem? (i := 32) (by decide +kernel)) rfl
theorem wd2_33 : (Jvm.Cond.selects "RankRings" ({ cls := "RankRings", name := "trap", desc := "(II)I" } : Jvm.MethodName) ({ cls := "RankRings", name := "trap", desc := "(II)I" } : Jvm.MethodName)) ∈ wG := wG2 (List.mem_of_getElem? (i := 33) (by decide +kernel)) rfl
theorem wd2_34 : (Jvm.Cond.code ({ cls := "RankRings", name := "trap", desc := "(II)I" } : Jvm.MethodName) prog_1_method_11_code (3 : Nat) (Option.some Jvm.ClassFile.FieldType.int)) ∈ wG := wG2 (List.mem_of_getElem? (i := 34) rfl) rfl
theorem wd2_35 : (Jvm.Cond.methodLink "RankRings" (128 : Nat) ({ cls := "RankRings$Solver", name := "held", desc := "(LRankRings$Field;II)I" } : Jvm.MethodName)) ∈ wG := wG2 (List.mem_of_getElem? (i := 35) (by decide +kernel)) rfl
theorem wd2_36 : (Jvm.Cond.static ({ cls := "RankRings$Solver", name := "held", desc := "(LRankRings$Field;II)I" } : Jvm.MethodName)) ∈ wG := wG2 (List.mem_of_getElem? (i := 36) (by decide +kernel)) rfl
theorem wd2_37 : (Jvm.Cond.code ({ cls := "RankRings$Solver", name := "held", desc := "(LRankRings$Field;II)I" } : Jvm.MethodName) prog_3_method_6_code (7 : Nat) (Option.some Jvm.ClassFile.FieldType.int)) ∈ wG := wG2 (List.mem_of_getElem? (i := 37) rfl) rfl
theorem wd2_38 : (Jvm.Cond.methodLink "RankRingsLaw" (56 : Nat) ({ cls := "RankRings", name := "greatestTrap", desc := "(II)I" } : Jvm.MethodName)) ∈ wG := wG2 (List.mem_of_getElem? (i := 38) (by decide +kernel)) rfl
theorem wd2_39 : (Jvm.Cond.instanceMethod ({ cls := "RankRings", name := "greatestTrap", desc := "(II)I" } : Jvm.MethodName)) ∈ wG := wG2 (List.mem_of_getElem? (i := 39) (by decide +kernel)) rfl
theorem wd2_40 : (Jvm.Cond.selects "RankRings" ({ cls := "RankRings", name := "greatestTrap", desc := "(II)I" } : Jvm.MethodName) ({ cls := "RankRings", name := "greatestTrap", desc := "(II)I" } : Jvm.MethodName)) ∈ wG := wG2 (List.mem_of_getElem? (i := 40) (by decide +kernel)) rfl
theorem wd2_41 : (Jvm.Cond.code ({ cls := "RankRings", name := "greatestTrap", desc := "(II)I" } : Jvm.MethodName) prog_1_method_12_code (5 : Nat) (Option.some Jvm.ClassFile.FieldType.int)) ∈ wG := wG2 (List.mem_of_getElem? (i := 41) rfl) rfl
theorem wd2_42 : (Jvm.Cond.methodLink "RankRingsLaw" (60 : Nat) ({ cls := "RankRings", name := "play", desc := "(II)I" } : Jvm.MethodName)) ∈ wG := wG2 (List.mem_of_getElem? (i := 42) (by decide +kernel)) rfl
theorem wd2_43 : (Jvm.Cond.instanceMethod ({ cls := "RankRings", name := "play", desc := "(II)I" } : Jvm.MethodName)) ∈ wG := wG2 (List.mem_of_getElem? (i := 43) (by decide +kernel)) rfl
theorem wd2_44 : (Jvm.Cond.selects "RankRings" ({ cls := "RankRings", name := "play", desc := "(II)I" } : Jvm.MethodName) ({ cls := "RankRings", name := "play", desc := "(II)I" } : Jvm.MethodName)) ∈ wG := wG2 (List.mem_of_getElem? (i := 44) (by decide +kernel)) rfl
theorem wd2_45 : (Jvm.Cond.code ({ cls := "RankRings", name := "play", desc := "(II)I" } : Jvm.MethodName) prog_1_method_13_code (7 : Nat) (Option.some Jvm.ClassFile.FieldType.int)) ∈ wG := wG2 (List.mem_of_getElem? (i := 45) rfl) rfl
theorem wd2_46 : (Jvm.Cond.methodLink "RankRings" (132 : Nat) ({ cls := "RankRings", name := "greatestRankOfRing", desc := "(I)I" } : Jvm.MethodName)) ∈ wG := wG2 (List.mem_of_getElem? (i := 46) (by decide +kernel)) rfl
theorem wd2_48 : (Jvm.Cond.instanceMethod ({ cls := "RankRings", name := "greatestRankOfRing", desc := "(I)I" } : Jvm.MethodName)) ∈ wG := wG2 (List.mem_of_getElem? (i := 48) (by decide +kernel)) rfl
theorem wd2_49 : (Jvm.Cond.code ({ cls := "RankRings", name := "greatestRankOfRing", desc := "(I)I" } : Jvm.MethodName) prog_1_method_34_code (5 : Nat) (Option.some Jvm.ClassFile.FieldType.int)) ∈ wG := wG2 (List.mem_of_getElem? (i := 49) rfl) rfl
theorem wd2_50 : (Jvm.Cond.methodLink "RankRings" (183 : Nat) ({ cls := "java/lang/Math", name := "max", desc := "(II)I" } : Jvm.MethodName)) ∈ wG := wG2 (List.mem_of_getElem? (i := 50) (by decide +kernel)) rfl
theorem wd2_51 : (Jvm.Cond.methodLink "RankRingsLaw" (64 : Nat) ({ cls := "RankRings", name := "proves", desc := "(I)I" } : Jvm.MethodName)) ∈ wG := wG2 (List.mem_of_getElem? (i := 51) (by decide +kernel)) rfl
theorem wd2_52 : (Jvm.Cond.instanceMethod ({ cls := "RankRings", name := "proves", desc := "(I)I" } : Jvm.MethodName)) ∈ wG := wG2 (List.mem_of_getElem? (i := 52) (by decide +kernel)) rfl
theorem wd2_53 : (Jvm.Cond.selects "RankRings" ({ cls := "RankRings", name := "proves", desc := "(I)I" } : Jvm.MethodName) ({ cls := "RankRings", name := "proves", desc := "(I)I" } : Jvm.MethodName)) ∈ wG := wG2 (List.mem_of_getElem? (i := 53) (by decide +kernel)) rfl
theorem wd2_54 : (Jvm.Cond.code ({ cls := "RankRings", name := "proves", desc := "(I)I" } : Jvm.MethodName) prog_1_method_14_code (4 : Nat) (Option.some Jvm.ClassFile.FieldType.int)) ∈ wG := wG2 (List.mem_of_getElem? (i := 54) rfl) rfl
theorem wd2_55 : (Jvm.Cond.methodLink "RankRingsLaw" (68 : Nat) ({ cls := "RankRings", name := "only", desc := "(II)I" } : Jvm.MethodName)) ∈ wG := wG2 (List.mem_of_getElem? (i := 55) (by decide +kernel)) rfl
theorem wd2_56 : (Jvm.Cond.instanceMethod ({ cls := "RankRings", name := "only", desc := "(II)I" } : Jvm.MethodName)) ∈ wG := wG2 (List.mem_of_getElem? (i := 56) (by decide +kernel)) rfl
theorem wd2_57 : (Jvm.Cond.selects "RankRings" ({ cls := "RankRings", name := "only", desc := "(II)I" } : Jvm.MethodName) ({ cls := "RankRings", name := "only", desc := "(II)I" } : Jvm.MethodName)) ∈ wG := wG2 (List.mem_of_getElem? (i := 57) (by decide +kernel)) rfl
theorem wd2_58 : (Jvm.Cond.code ({ cls := "RankRings", name := "only", desc := "(II)I" } : Jvm.MethodName) prog_1_method_15_code (3 : Nat) (Option.some Jvm.ClassFile.FieldType.int)) ∈ wG := wG2 (List.mem_of_getElem? (i := 58) rfl) rfl
theorem wd2_59 : (Jvm.Cond.methodLink "RankRingsLaw" (72 : Nat) ({ cls := "RankRings", name := "littleChange", desc := "(II)I" } : Jvm.MethodName)) ∈ wG := wG2 (List.mem_of_getElem? (i := 59) (by decide +kernel)) rfl
theorem wd2_60 : (Jvm.Cond.instanceMethod ({ cls := "RankRings", name := "littleChange", desc := "(II)I" } : Jvm.MethodName)) ∈ wG := wG2 (List.mem_of_getElem? (i := 60) (by decide +kernel)) rfl
theorem wd2_61 : (Jvm.Cond.selects "RankRings" ({ cls := "RankRings", name := "littleChange", desc := "(II)I" } : Jvm.MethodName) ({ cls := "RankRings", name := "littleChange", desc := "(II)I" } : Jvm.MethodName)) ∈ wG := wG2 (List.mem_of_getElem? (i := 61) (by decide +kernel)) rfl
theorem wd2_62 : (Jvm.Cond.code ({ cls := "RankRings", name := "littleChange", desc := "(II)I" } : Jvm.MethodName) prog_1_method_16_code (7 : Nat) (Option.some Jvm.ClassFile.FieldType.int)) ∈ wG := wG2 (List.mem_of_getElem? (i := 62) rfl) rfl
theorem wd2_63 : (Jvm.Cond.methodLink "RankRings" (143 : Nat) ({ cls := "RankRings", name := "turnsWinner", desc := "(III)Z" } : Jvm.MethodName)) ∈ wG := wG2 (List.mem_of_getElem? (i := 63) (by decide +kernel)) rfl
theorem wd2_65 : (Jvm.Cond.instanceMethod ({ cls := "RankRings", name := "turnsWinner", desc := "(III)Z" } : Jvm.MethodName)) ∈ wG := wG2 (List.mem_of_getElem? (i := 65) (by decide +kernel)) rfl
theorem wd2_66 : (Jvm.Cond.code ({ cls := "RankRings", name := "turnsWinner", desc := "(III)Z" } : Jvm.MethodName) prog_1_method_35_code (5 : Nat) (Option.some Jvm.ClassFile.FieldType.boolean)) ∈ wG := wG2 (List.mem_of_getElem? (i := 66) rfl) rfl
theorem wd2_67 : (Jvm.Cond.methodLink "RankRingsLaw" (76 : Nat) ({ cls := "RankRings", name := "keep", desc := "()I" } : Jvm.MethodName)) ∈ wG := wG2 (List.mem_of_getElem? (i := 67) (by decide +kernel)) rfl
theorem wd2_68 : (Jvm.Cond.instanceMethod ({ cls := "RankRings", name := "keep", desc := "()I" } : Jvm.MethodName)) ∈ wG := wG2 (List.mem_of_getElem? (i := 68) (by decide +kernel)) rfl
theorem wd2_69 : (Jvm.Cond.selects "RankRings" ({ cls := "RankRings", name := "keep", desc := "()I" } : Jvm.MethodName) ({ cls := "RankRings", name := "keep", desc := "()I" } : Jvm.MethodName)) ∈ wG := wG2 (List.mem_of_getElem? (i := 69) (by decide +kernel)) rfl
theorem wd2_70 : (Jvm.Cond.code ({ cls := "RankRings", name := "keep", desc := "()I" } : Jvm.MethodName) prog_1_method_17_code (1 : Nat) (Option.some Jvm.ClassFile.FieldType.int)) ∈ wG := wG2 (List.mem_of_getElem? (i := 70) rfl) rfl
theorem wd2_71 : (Jvm.Cond.methodLink "RankRingsLaw" (81 : Nat) ({ cls := "RankRings", name := "restore", desc := "()I" } : Jvm.MethodName)) ∈ wG := wG2 (List.mem_of_getElem? (i := 71) (by decide +kernel)) rfl
theorem wd2_72 : (Jvm.Cond.instanceMethod ({ cls := "RankRings", name := "restore", desc := "()I" } : Jvm.MethodName)) ∈ wG := wG2 (List.mem_of_getElem? (i := 72) (by decide +kernel)) rfl
theorem wd2_73 : (Jvm.Cond.selects "RankRings" ({ cls := "RankRings", name := "restore", desc := "()I" } : Jvm.MethodName) ({ cls := "RankRings", name := "restore", desc := "()I" } : Jvm.MethodName)) ∈ wG := wG2 (List.mem_of_getElem? (i := 73) (by decide +kernel)) rfl
theorem wd2_74 : (Jvm.Cond.code ({ cls := "RankRings", name := "restore", desc := "()I" } : Jvm.MethodName) prog_1_method_18_code (1 : Nat) (Option.some Jvm.ClassFile.FieldType.int)) ∈ wG := wG2 (List.mem_of_getElem? (i := 74) rfl) rfl
theorem wd2_75 : (Jvm.Cond.methodLink "RankRingsLaw" (85 : Nat) ({ cls := "RankRings", name := "undo", desc := "()I" } : Jvm.MethodName)) ∈ wG := wG2 (List.mem_of_getElem? (i := 75) (by decide +kernel)) rfl
theorem wd2_76 : (Jvm.Cond.instanceMethod ({ cls := "RankRings", name := "undo", desc := "()I" } : Jvm.MethodName)) ∈ wG := wG2 (List.mem_of_getElem? (i := 76) (by decide +kernel)) rfl
theorem wd2_77 : (Jvm.Cond.selects "RankRings" ({ cls := "RankRings", name := "undo", desc := "()I" } : Jvm.MethodName) ({ cls := "RankRings", name := "undo", desc := "()I" } : Jvm.MethodName)) ∈ wG := wG2 (List.mem_of_getElem? (i := 77) (by decide +kernel)) rfl
theorem wd2_78 : (Jvm.Cond.code ({ cls := "RankRings", name := "undo", desc := "()I" } : Jvm.MethodName) prog_1_method_19_code (1 : Nat) (Option.some Jvm.ClassFile.FieldType.int)) ∈ wG := wG2 (List.mem_of_getElem? (i := 78) rfl) rfl
theorem wd2_79 : (Jvm.Cond.methodLink "RankRingsLaw" (89 : Nat) ({ cls := "RankRings", name := "type", desc := "(I)I" } : Jvm.MethodName)) ∈ wG := wG2 (List.mem_of_getElem? (i := 79) (by decide +kernel)) rfl
theorem wd2_80 : (Jvm.Cond.instanceMethod ({ cls := "RankRings", name := "type", desc := "(I)I" } : Jvm.MethodName)) ∈ wG := wG2 (List.mem_of_getElem? (i := 80) (by decide +kernel)) rfl
theorem wd2_81 : (Jvm.Cond.selects "RankRings" ({ cls := "RankRings", name := "type", desc := "(I)I" } : Jvm.MethodName) ({ cls := "RankRings", name := "type", desc := "(I)I" } : Jvm.MethodName)) ∈ wG := wG2 (List.mem_of_getElem? (i := 81) (by decide +kernel)) rfl
theorem wd2_82 : (Jvm.Cond.code ({ cls := "RankRings", name := "type", desc := "(I)I" } : Jvm.MethodName) prog_1_method_20_code (2 : Nat) (Option.some Jvm.ClassFile.FieldType.int)) ∈ wG := wG2 (List.mem_of_getElem? (i := 82) rfl) rfl
theorem wd2_83 : (Jvm.Cond.methodLink "RankRings" (150 : Nat) ({ cls := "RankRings$Text", name := "append", desc := "(C)V" } : Jvm.MethodName)) ∈ wG := wG2 (List.mem_of_getElem? (i := 83) (by decide +kernel)) rfl
theorem wd2_84 : (Jvm.Cond.instanceMethod ({ cls := "RankRings$Text", name := "append", desc := "(C)V" } : Jvm.MethodName)) ∈ wG := wG2 (List.mem_of_getElem? (i := 84) (by decide +kernel)) rfl
theorem wd2_85 : (Jvm.Cond.selects "RankRings$Text" ({ cls := "RankRings$Text", name := "append", desc := "(C)V" } : Jvm.MethodName) ({ cls := "RankRings$Text", name := "append", desc := "(C)V" } : Jvm.MethodName)) ∈ wG := wG2 (List.mem_of_getElem? (i := 85) (by decide +kernel)) rfl
theorem wd2_86 : (Jvm.Cond.code ({ cls := "RankRings$Text", name := "append", desc := "(C)V" } : Jvm.MethodName) prog_4_method_2_code (2 : Nat) (Option.none : Option Jvm.ClassFile.FieldType)) ∈ wG := wG2 (List.mem_of_getElem? (i := 86) rfl) rfl
theorem wd2_87 : (Jvm.Cond.methodLink "RankRingsLaw" (93 : Nat) ({ cls := "RankRings", name := "clearText", desc := "()I" } : Jvm.MethodName)) ∈ wG := wG2 (List.mem_of_getElem? (i := 87) (by decide +kernel)) rfl
theorem wd2_88 : (Jvm.Cond.instanceMethod ({ cls := "RankRings", name := "clearText", desc := "()I" } : Jvm.MethodName)) ∈ wG := wG2 (List.mem_of_getElem? (i := 88) (by decide +kernel)) rfl
theorem wd2_89 : (Jvm.Cond.selects "RankRings" ({ cls := "RankRings", name := "clearText", desc := "()I" } : Jvm.MethodName) ({ cls := "RankRings", name := "clearText", desc := "()I" } : Jvm.MethodName)) ∈ wG := wG2 (List.mem_of_getElem? (i := 89) (by decide +kernel)) rfl
theorem wd2_90 : (Jvm.Cond.code ({ cls := "RankRings", name := "clearText", desc := "()I" } : Jvm.MethodName) prog_1_method_21_code (2 : Nat) (Option.some Jvm.ClassFile.FieldType.int)) ∈ wG := wG2 (List.mem_of_getElem? (i := 90) rfl) rfl
theorem wd2_91 : (Jvm.Cond.methodLink "RankRingsLaw" (97 : Nat) ({ cls := "RankRings", name := "fault", desc := "(I)I" } : Jvm.MethodName)) ∈ wG := wG2 (List.mem_of_getElem? (i := 91) (by decide +kernel)) rfl
theorem wd2_92 : (Jvm.Cond.instanceMethod ({ cls := "RankRings", name := "fault", desc := "(I)I" } : Jvm.MethodName)) ∈ wG := wG2 (List.mem_of_getElem? (i := 92) (by decide +kernel)) rfl
theorem wd2_93 : (Jvm.Cond.selects "RankRings" ({ cls := "RankRings", name := "fault", desc := "(I)I" } : Jvm.MethodName) ({ cls := "RankRings", name := "fault", desc := "(I)I" } : Jvm.MethodName)) ∈ wG := wG2 (List.mem_of_getElem? (i := 93) (by decide +kernel)) rfl
theorem wd2_94 : (Jvm.Cond.code ({ cls := "RankRings", name := "fault", desc := "(I)I" } : Jvm.MethodName) prog_1_method_22_code (2 : Nat) (Option.some Jvm.ClassFile.FieldType.int)) ∈ wG := wG2 (List.mem_of_getElem? (i := 94) rfl) rfl
theorem wd2_95 : (Jvm.Cond.methodLink "RankRings" (153 : Nat) ({ cls := "RankRings$Text", name := "isField", desc := "()Z" } : Jvm.MethodName)) ∈ wG := wG2 (List.mem_of_getElem? (i := 95) (by decide +kernel)) rfl
theorem wd2_96 : (Jvm.Cond.instanceMethod ({ cls := "RankRings$Text", name := "isField", desc := "()Z" } : Jvm.MethodName)) ∈ wG := wG2 (List.mem_of_getElem? (i := 96) (by decide +kernel)) rfl
theorem wd2_97 : (Jvm.Cond.selects "RankRings$Text" ({ cls := "RankRings$Text", name := "isField", desc := "()Z" } : Jvm.MethodName) ({ cls := "RankRings$Text", name := "isField", desc := "()Z" } : Jvm.MethodName)) ∈ wG := wG2 (List.mem_of_getElem? (i := 97) (by decide +kernel)) rfl
theorem wd2_98 : (Jvm.Cond.code ({ cls := "RankRings$Text", name := "isField", desc := "()Z" } : Jvm.MethodName) prog_4_method_3_code (1 : Nat) (Option.some Jvm.ClassFile.FieldType.boolean)) ∈ wG := wG2 (List.mem_of_getElem? (i := 98) rfl) rfl
theorem wd2_99 : (Jvm.Cond.methodLink "RankRings$Text" (42 : Nat) ({ cls := "RankRings$Text", name := "lookAtPlaces", desc := "()Z" } : Jvm.MethodName)) ∈ wG := wG2 (List.mem_of_getElem? (i := 99) (by decide +kernel)) rfl
theorem wd2_101 : (Jvm.Cond.instanceMethod ({ cls := "RankRings$Text", name := "lookAtPlaces", desc := "()Z" } : Jvm.MethodName)) ∈ wG := wG2 (List.mem_of_getElem? (i := 101) (by decide +kernel)) rfl
theorem wd2_102 : (Jvm.Cond.code ({ cls := "RankRings$Text", name := "lookAtPlaces", desc := "()Z" } : Jvm.MethodName) prog_4_method_4_code (2 : Nat) (Option.some Jvm.ClassFile.FieldType.boolean)) ∈ wG := wG2 (List.mem_of_getElem? (i := 102) rfl) rfl
theorem wd2_103 : (Jvm.Cond.methodLink "RankRings$Text" (49 : Nat) ({ cls := "RankRings$Text", name := "lookAtPlace", desc := "()Z" } : Jvm.MethodName)) ∈ wG := wG2 (List.mem_of_getElem? (i := 103) (by decide +kernel)) rfl
theorem wd2_105 : (Jvm.Cond.instanceMethod ({ cls := "RankRings$Text", name := "lookAtPlace", desc := "()Z" } : Jvm.MethodName)) ∈ wG := wG2 (List.mem_of_getElem? (i := 105) (by decide +kernel)) rfl
theorem wd2_106 : (Jvm.Cond.code ({ cls := "RankRings$Text", name := "lookAtPlace", desc := "()Z" } : Jvm.MethodName) prog_4_method_5_code (3 : Nat) (Option.some Jvm.ClassFile.FieldType.boolean)) ∈ wG := wG2 (List.mem_of_getElem? (i := 106) rfl) rfl
theorem wd2_107 : (Jvm.Cond.methodLink "RankRings$Text" (52 : Nat) ({ cls := "RankRings$Text", name := "character", desc := "()C" } : Jvm.MethodName)) ∈ wG := wG2 (List.mem_of_getElem? (i := 107) (by decide +kernel)) rfl
theorem wd2_109 : (Jvm.Cond.instanceMethod ({ cls := "RankRings$Text", name := "character", desc := "()C" } : Jvm.MethodName)) ∈ wG := wG2 (List.mem_of_getElem? (i := 109) (by decide +kernel)) rfl
theorem wd2_110 : (Jvm.Cond.code ({ cls := "RankRings$Text", name := "character", desc := "()C" } : Jvm.MethodName) prog_4_method_11_code (1 : Nat) (Option.some Jvm.ClassFile.FieldType.char)) ∈ wG := wG2 (List.mem_of_getElem? (i := 110) rfl) rfl
theorem wd2_111 : (Jvm.Cond.methodLink "RankRings$Text" (56 : Nat) ({ cls := "RankRings$Text", name := "blame", desc := "(II)Z" } : Jvm.MethodName)) ∈ wG := wG2 (List.mem_of_getElem? (i := 111) (by decide +kernel)) rfl
theorem wd2_113 : (Jvm.Cond.instanceMethod ({ cls := "RankRings$Text", name := "blame", desc := "(II)Z" } : Jvm.MethodName)) ∈ wG := wG2 (List.mem_of_getElem? (i := 113) (by decide +kernel)) rfl
theorem wd2_114 : (Jvm.Cond.code ({ cls := "RankRings$Text", name := "blame", desc := "(II)Z" } : Jvm.MethodName) prog_4_method_10_code (3 : Nat) (Option.some Jvm.ClassFile.FieldType.boolean)) ∈ wG := wG2 (List.mem_of_getElem? (i := 114) rfl) rfl
theorem wd2_115 : (Jvm.Cond.methodLink "RankRings$Text" (60 : Nat) ({ cls := "RankRings$Text", name := "digit", desc := "()I" } : Jvm.MethodName)) ∈ wG := wG2 (List.mem_of_getElem? (i := 115) (by decide +kernel)) rfl
theorem wd2_117 : (Jvm.Cond.instanceMethod ({ cls := "RankRings$Text", name := "digit", desc := "()I" } : Jvm.MethodName)) ∈ wG := wG2 (List.mem_of_getElem? (i := 117) (by decide +kernel)) rfl
theorem wd2_118 : (Jvm.Cond.code ({ cls := "RankRings$Text", name := "digit", desc := "()I" } : Jvm.MethodName) prog_4_method_12_code (2 : Nat) (Option.some Jvm.ClassFile.FieldType.int)) ∈ wG := wG2 (List.mem_of_getElem? (i := 118) rfl) rfl
theorem wd2_120 : (Jvm.Cond.methodLink "RankRings$Text" (68 : Nat) ({ cls := "RankRings$Field", name := "append", desc := "(II)V" } : Jvm.MethodName)) ∈ wG := wG2 (List.mem_of_getElem? (i := 120) (by decide +kernel)) rfl
theorem wd2_121 : (Jvm.Cond.methodLink "RankRings$Text" (72 : Nat) ({ cls := "RankRings$Text", name := "lookAtWays", desc := "()Z" } : Jvm.MethodName)) ∈ wG := wG2 (List.mem_of_getElem? (i := 121) (by decide +kernel)) rfl
theorem wd2_123 : (Jvm.Cond.instanceMethod ({ cls := "RankRings$Text", name := "lookAtWays", desc := "()Z" } : Jvm.MethodName)) ∈ wG := wG2 (List.mem_of_getElem? (i := 123) (by decide +kernel)) rfl
theorem wd2_124 : (Jvm.Cond.code ({ cls := "RankRings$Text", name := "lookAtWays", desc := "()Z" } : Jvm.MethodName) prog_4_method_6_code (5 : Nat) (Option.some Jvm.ClassFile.FieldType.boolean)) ∈ wG := wG2 (List.mem_of_getElem? (i := 124) rfl) rfl
theorem wd2_125 : (Jvm.Cond.methodLink "RankRings$Text" (75 : Nat) ({ cls := "RankRings$Text", name := "isToldSince", desc := "(II)Z" } : Jvm.MethodName)) ∈ wG := wG2 (List.mem_of_getElem? (i := 125) (by decide +kernel)) rfl
theorem wd2_127 : (Jvm.Cond.instanceMethod ({ cls := "RankRings$Text", name := "isToldSince", desc := "(II)Z" } : Jvm.MethodName)) ∈ wG := wG2 (List.mem_of_getElem? (i := 127) (by decide +kernel)) rfl
theorem wd2_128 : (Jvm.Cond.code ({ cls := "RankRings$Text", name := "isToldSince", desc := "(II)Z" } : Jvm.MethodName) prog_4_method_7_code (4 : Nat) (Option.some Jvm.ClassFile.FieldType.boolean)) ∈ wG := wG2 (List.mem_of_getElem? (i := 128) rfl) rfl
theorem wd2_129 : (Jvm.Cond.methodLink "RankRings$Text" (78 : Nat) ({ cls := "RankRings$Text", name := "tellWay", desc := "(II)V" } : Jvm.MethodName)) ∈ wG := wG2 (List.mem_of_getElem? (i := 129) (by decide +kernel)) rfl
theorem wd2_131 : (Jvm.Cond.instanceMethod ({ cls := "RankRings$Text", name := "tellWay", desc := "(II)V" } : Jvm.MethodName)) ∈ wG := wG2 (List.mem_of_getElem? (i := 131) (by decide +kernel)) rfl
theorem wd2_132 : (Jvm.Cond.code ({ cls := "RankRings$Text", name := "tellWay", desc := "(II)V" } : Jvm.MethodName) prog_4_method_8_code (4 : Nat) (Option.none : Option Jvm.ClassFile.FieldType)) ∈ wG := wG2 (List.mem_of_getElem? (i := 132) rfl) rfl
theorem wd2_133 : (Jvm.Cond.methodLink "RankRings$Text" (81 : Nat) ({ cls := "RankRings$Field", name := "has", desc := "(I)Z" } : Jvm.MethodName)) ∈ wG := wG2 (List.mem_of_getElem? (i := 133) (by decide +kernel)) rfl
theorem wd2_134 : (Jvm.Cond.methodLink "RankRings$Text" (46 : Nat) ({ cls := "RankRings$Text", name := "lookForPlacesOfWays", desc := "()Z" } : Jvm.MethodName)) ∈ wG := wG2 (List.mem_of_getElem? (i := 134) (by decide +kernel)) rfl
theorem wd2_136 : (Jvm.Cond.instanceMethod ({ cls := "RankRings$Text", name := "lookForPlacesOfWays", desc := "()Z" } : Jvm.MethodName)) ∈ wG := wG2 (List.mem_of_getElem? (i := 136) (by decide +kernel)) rfl
theorem wd2_137 : (Jvm.Cond.code ({ cls := "RankRings$Text", name := "lookForPlacesOfWays", desc := "()Z" } : Jvm.MethodName) prog_4_method_9_code (2 : Nat) (Option.some Jvm.ClassFile.FieldType.boolean)) ∈ wG := wG2 (List.mem_of_getElem? (i := 137) rfl) rfl
theorem wd2_138 : (Jvm.Cond.methodLink "RankRingsLaw" (101 : Nat) ({ cls := "RankRings", name := "read", desc := "()I" } : Jvm.MethodName)) ∈ wG := wG2 (List.mem_of_getElem? (i := 138) (by decide +kernel)) rfl
theorem wd2_139 : (Jvm.Cond.instanceMethod ({ cls := "RankRings", name := "read", desc := "()I" } : Jvm.MethodName)) ∈ wG := wG2 (List.mem_of_getElem? (i := 139) (by decide +kernel)) rfl
theorem wd2_140 : (Jvm.Cond.selects "RankRings" ({ cls := "RankRings", name := "read", desc := "()I" } : Jvm.MethodName) ({ cls := "RankRings", name := "read", desc := "()I" } : Jvm.MethodName)) ∈ wG := wG2 (List.mem_of_getElem? (i := 140) (by decide +kernel)) rfl
theorem wd2_141 : (Jvm.Cond.code ({ cls := "RankRings", name := "read", desc := "()I" } : Jvm.MethodName) prog_1_method_23_code (1 : Nat) (Option.some Jvm.ClassFile.FieldType.int)) ∈ wG := wG2 (List.mem_of_getElem? (i := 141) rfl) rfl
theorem wd2_142 : (Jvm.Cond.classLink "RankRingsLaw" (10 : Nat) "RankRingsModel") ∈ wG := wG2 (List.mem_of_getElem? (i := 142) (by decide +kernel)) rfl
theorem wd2_143 : (Jvm.Cond.instantiable "RankRingsModel" (21 : Nat)) ∈ wG := wG2 (List.mem_of_getElem? (i := 143) (by decide +kernel)) rfl
theorem wd2_144 : (Jvm.Cond.methodLink "RankRingsLaw" (12 : Nat) ({ cls := "RankRingsModel", name := "<init>", desc := "()V" } : Jvm.MethodName)) ∈ wG := wG2 (List.mem_of_getElem? (i := 144) (by decide +kernel)) rfl
theorem wd2_145 : (Jvm.Cond.instanceMethod ({ cls := "RankRingsModel", name := "<init>", desc := "()V" } : Jvm.MethodName)) ∈ wG := wG2 (List.mem_of_getElem? (i := 145) (by decide +kernel)) rfl
theorem wd2_146 : (Jvm.Cond.code ({ cls := "RankRingsModel", name := "<init>", desc := "()V" } : Jvm.MethodName) prog_6_method_1_code (1 : Nat) (Option.none : Option Jvm.ClassFile.FieldType)) ∈ wG := wG2 (List.mem_of_getElem? (i := 146) rfl) rfl
theorem wd2_147 : (Jvm.Cond.methodLink "RankRingsModel" (1 : Nat) ({ cls := "java/lang/Object", name := "<init>", desc := "()V" } : Jvm.MethodName)) ∈ wG := wG2 (List.mem_of_getElem? (i := 147) (by decide +kernel)) rfl
theorem wd2_148 : (Jvm.Cond.fieldLink "RankRingsModel" (7 : Nat) "RankRingsModel" "s" "[I") ∈ wG := wG2 (List.mem_of_getElem? (i := 148) (by decide +kernel)) rfl
theorem wd2_149 : (Jvm.Cond.fieldLink "RankRingsModel" (13 : Nat) "RankRingsModel" "past" "[I") ∈ wG := wG2 (List.mem_of_getElem? (i := 149) (by decide +kernel)) rfl
theorem wd2_150 : (Jvm.Cond.fieldLink "RankRingsModel" (16 : Nat) "RankRingsModel" "kept" "[I") ∈ wG := wG2 (List.mem_of_getElem? (i := 150) (by decide +kernel)) rfl
theorem wd2_151 : (Jvm.Cond.fieldLink "RankRingsModel" (123 : Nat) "RankRingsModel" "isKept" "Z") ∈ wG := wG2 (List.mem_of_getElem? (i := 151) (by decide +kernel)) rfl
theorem wd2_152 : (Jvm.Cond.fieldLink "RankRingsModel" (46 : Nat) "RankRingsModel" "pasts" "I") ∈ wG := wG2 (List.mem_of_getElem? (i := 152) (by decide +kernel)) rfl
theorem wd2_153 : (Jvm.Cond.fieldLink "RankRingsModel" (19 : Nat) "RankRingsModel" "text" "[I") ∈ wG := wG2 (List.mem_of_getElem? (i := 153) (by decide +kernel)) rfl
theorem wd2_154 : (Jvm.Cond.fieldLink "RankRingsModel" (120 : Nat) "RankRingsModel" "typed" "I") ∈ wG := wG2 (List.mem_of_getElem? (i := 154) (by decide +kernel)) rfl
theorem wd2_155 : (Jvm.Cond.fieldLink "RankRingsModel" (22 : Nat) "RankRingsModel" "measure" "[I") ∈ wG := wG2 (List.mem_of_getElem? (i := 155) (by decide +kernel)) rfl
theorem wd2_156 : (Jvm.Cond.fieldLink "RankRingsModel" (70 : Nat) "RankRingsModel" "most1" "I") ∈ wG := wG2 (List.mem_of_getElem? (i := 156) (by decide +kernel)) rfl
theorem wd2_157 : (Jvm.Cond.fieldLink "RankRingsModel" (73 : Nat) "RankRingsModel" "most3" "I") ∈ wG := wG2 (List.mem_of_getElem? (i := 157) (by decide +kernel)) rfl
theorem wd2_158 : (Jvm.Cond.fieldLink "RankRingsModel" (76 : Nat) "RankRingsModel" "most5" "I") ∈ wG := wG2 (List.mem_of_getElem? (i := 158) (by decide +kernel)) rfl
theorem wd2_159 : (Jvm.Cond.fieldLink "RankRingsModel" (25 : Nat) "RankRingsModel" "chosen" "[I") ∈ wG := wG2 (List.mem_of_getElem? (i := 159) (by decide +kernel)) rfl
theorem wd2_160 : (Jvm.Cond.fieldLink "RankRingsModel" (28 : Nat) "RankRingsModel" "ways" "[I") ∈ wG := wG2 (List.mem_of_getElem? (i := 160) (by decide +kernel)) rfl
theorem wd2_161 : (Jvm.Cond.fieldLink "RankRingsModel" (144 : Nat) "RankRingsModel" "spot" "I") ∈ wG := wG2 (List.mem_of_getElem? (i := 161) (by decide +kernel)) rfl
theorem wd2_162 : (Jvm.Cond.fieldLink "RankRingsModel" (147 : Nat) "RankRingsModel" "reason" "I") ∈ wG := wG2 (List.mem_of_getElem? (i := 162) (by decide +kernel)) rfl
theorem wd2_163 : (Jvm.Cond.fieldLink "RankRingsModel" (156 : Nat) "RankRingsModel" "places" "I") ∈ wG := wG2 (List.mem_of_getElem? (i := 163) (by decide +kernel)) rfl
theorem wd2_164 : (Jvm.Cond.fieldLink "RankRingsModel" (31 : Nat) "RankRingsModel" "owners" "[I") ∈ wG := wG2 (List.mem_of_getElem? (i := 164) (by decide +kernel)) rfl
theorem wd2_165 : (Jvm.Cond.fieldLink "RankRingsModel" (34 : Nat) "RankRingsModel" "ranks" "[I") ∈ wG := wG2 (List.mem_of_getElem? (i := 165) (by decide +kernel)) rfl
theorem wd2_166 : (Jvm.Cond.fieldLink "RankRingsModel" (37 : Nat) "RankRingsModel" "sets" "[I") ∈ wG := wG2 (List.mem_of_getElem? (i := 166) (by decide +kernel)) rfl
theorem wd2_167 : (Jvm.Cond.fieldLink "RankRingsModel" (40 : Nat) "RankRingsModel" "toldAt" "[I") ∈ wG := wG2 (List.mem_of_getElem? (i := 167) (by decide +kernel)) rfl
theorem wd2_168 : (Jvm.Cond.fieldLink "RankRingsModel" (43 : Nat) "RankRingsModel" "line" "[I") ∈ wG := wG2 (List.mem_of_getElem? (i := 168) (by decide +kernel)) rfl
theorem wd2_212 : (Jvm.Cond.methodLink "RankRingsLaw" (17 : Nat) ({ cls := "RankRingsModel", name := "add", desc := "(II)I" } : Jvm.MethodName)) ∈ wG := wG2 (List.mem_of_getElem? (i := 212) (by decide +kernel)) rfl
theorem wd2_213 : (Jvm.Cond.instanceMethod ({ cls := "RankRingsModel", name := "add", desc := "(II)I" } : Jvm.MethodName)) ∈ wG := wG2 (List.mem_of_getElem? (i := 213) (by decide +kernel)) rfl
theorem wd2_214 : (Jvm.Cond.selects "RankRingsModel" ({ cls := "RankRingsModel", name := "add", desc := "(II)I" } : Jvm.MethodName) ({ cls := "RankRingsModel", name := "add", desc := "(II)I" } : Jvm.MethodName)) ∈ wG := wG2 (List.mem_of_getElem? (i := 214) (by decide +kernel)) rfl
theorem wd2_215 : (Jvm.Cond.code ({ cls := "RankRingsModel", name := "add", desc := "(II)I" } : Jvm.MethodName) prog_6_method_11_code (4 : Nat) (Option.some Jvm.ClassFile.FieldType.int)) ∈ wG := wG2 (List.mem_of_getElem? (i := 215) rfl) rfl
theorem wd2_216 : (Jvm.Cond.methodLink "RankRingsModel" (50 : Nat) ({ cls := "RankRingsModel", name := "in", desc := "(III)Z" } : Jvm.MethodName)) ∈ wG := wG2 (List.mem_of_getElem? (i := 216) (by decide +kernel)) rfl
theorem wd2_217 : (Jvm.Cond.static ({ cls := "RankRingsModel", name := "in", desc := "(III)Z" } : Jvm.MethodName)) ∈ wG := wG2 (List.mem_of_getElem? (i := 217) (by decide +kernel)) rfl
theorem wd2_218 : (Jvm.Cond.code ({ cls := "RankRingsModel", name := "in", desc := "(III)Z" } : Jvm.MethodName) prog_6_method_3_code (3 : Nat) (Option.some Jvm.ClassFile.FieldType.boolean)) ∈ wG := wG2 (List.mem_of_getElem? (i := 218) rfl) rfl
theorem wd2_219 : (Jvm.Cond.methodLink "RankRingsModel" (54 : Nat) ({ cls := "RankRingsModel", name := "changes", desc := "()V" } : Jvm.MethodName)) ∈ wG := wG2 (List.mem_of_getElem? (i := 219) (by decide +kernel)) rfl
theorem wd2_221 : (Jvm.Cond.instanceMethod ({ cls := "RankRingsModel", name := "changes", desc := "()V" } : Jvm.MethodName)) ∈ wG := wG2 (List.mem_of_getElem? (i := 221) (by decide +kernel)) rfl
theorem wd2_222 : (Jvm.Cond.code ({ cls := "RankRingsModel", name := "changes", desc := "()V" } : Jvm.MethodName) prog_6_method_5_code (2 : Nat) (Option.none : Option Jvm.ClassFile.FieldType)) ∈ wG := wG2 (List.mem_of_getElem? (i := 222) rfl) rfl
theorem wd2_223 : (Jvm.Cond.methodLink "RankRingsLaw" (21 : Nat) ({ cls := "RankRingsModel", name := "own", desc := "(II)I" } : Jvm.MethodName)) ∈ wG := wG2 (List.mem_of_getElem? (i := 223) (by decide +kernel)) rfl
theorem wd2_224 : (Jvm.Cond.instanceMethod ({ cls := "RankRingsModel", name := "own", desc := "(II)I" } : Jvm.MethodName)) ∈ wG := wG2 (List.mem_of_getElem? (i := 224) (by decide +kernel)) rfl
theorem wd2_225 : (Jvm.Cond.selects "RankRingsModel" ({ cls := "RankRingsModel", name := "own", desc := "(II)I" } : Jvm.MethodName) ({ cls := "RankRingsModel", name := "own", desc := "(II)I" } : Jvm.MethodName)) ∈ wG := wG2 (List.mem_of_getElem? (i := 225) (by decide +kernel)) rfl
theorem wd2_226 : (Jvm.Cond.code ({ cls := "RankRingsModel", name := "own", desc := "(II)I" } : Jvm.MethodName) prog_6_method_12_code (4 : Nat) (Option.some Jvm.ClassFile.FieldType.int)) ∈ wG := wG2 (List.mem_of_getElem? (i := 226) rfl) rfl
theorem wd2_227 : (Jvm.Cond.methodLink "RankRingsModel" (57 : Nat) ({ cls := "RankRingsModel", name := "isPlace", desc := "(I)Z" } : Jvm.MethodName)) ∈ wG := wG2 (List.mem_of_getElem? (i := 227) (by decide +kernel)) rfl
theorem wd2_229 : (Jvm.Cond.instanceMethod ({ cls := "RankRingsModel", name := "isPlace", desc := "(I)Z" } : Jvm.MethodName)) ∈ wG := wG2 (List.mem_of_getElem? (i := 229) (by decide +kernel)) rfl
theorem wd2_230 : (Jvm.Cond.code ({ cls := "RankRingsModel", name := "isPlace", desc := "(I)Z" } : Jvm.MethodName) prog_6_method_6_code (2 : Nat) (Option.some Jvm.ClassFile.FieldType.boolean)) ∈ wG := wG2 (List.mem_of_getElem? (i := 230) rfl) rfl
theorem wd2_231 : (Jvm.Cond.methodLink "RankRingsLaw" (25 : Nat) ({ cls := "RankRingsModel", name := "rank", desc := "(II)I" } : Jvm.MethodName)) ∈ wG := wG2 (List.mem_of_getElem? (i := 231) (by decide +kernel)) rfl
theorem wd2_232 : (Jvm.Cond.instanceMethod ({ cls := "RankRingsModel", name := "rank", desc := "(II)I" } : Jvm.MethodName)) ∈ wG := wG2 (List.mem_of_getElem? (i := 232) (by decide +kernel)) rfl
theorem wd2_233 : (Jvm.Cond.selects "RankRingsModel" ({ cls := "RankRingsModel", name := "rank", desc := "(II)I" } : Jvm.MethodName) ({ cls := "RankRingsModel", name := "rank", desc := "(II)I" } : Jvm.MethodName)) ∈ wG := wG2 (List.mem_of_getElem? (i := 233) (by decide +kernel)) rfl
theorem wd2_234 : (Jvm.Cond.code ({ cls := "RankRingsModel", name := "rank", desc := "(II)I" } : Jvm.MethodName) prog_6_method_13_code (4 : Nat) (Option.some Jvm.ClassFile.FieldType.int)) ∈ wG := wG2 (List.mem_of_getElem? (i := 234) rfl) rfl
theorem wd2_235 : (Jvm.Cond.methodLink "RankRingsLaw" (30 : Nat) ({ cls := "RankRingsModel", name := "way", desc := "(III)I" } : Jvm.MethodName)) ∈ wG := wG2 (List.mem_of_getElem? (i := 235) (by decide +kernel)) rfl
theorem wd2_236 : (Jvm.Cond.instanceMethod ({ cls := "RankRingsModel", name := "way", desc := "(III)I" } : Jvm.MethodName)) ∈ wG := wG2 (List.mem_of_getElem? (i := 236) (by decide +kernel)) rfl
theorem wd2_237 : (Jvm.Cond.selects "RankRingsModel" ({ cls := "RankRingsModel", name := "way", desc := "(III)I" } : Jvm.MethodName) ({ cls := "RankRingsModel", name := "way", desc := "(III)I" } : Jvm.MethodName)) ∈ wG := wG2 (List.mem_of_getElem? (i := 237) (by decide +kernel)) rfl
theorem wd2_238 : (Jvm.Cond.code ({ cls := "RankRingsModel", name := "way", desc := "(III)I" } : Jvm.MethodName) prog_6_method_14_code (4 : Nat) (Option.some Jvm.ClassFile.FieldType.int)) ∈ wG := wG2 (List.mem_of_getElem? (i := 238) rfl) rfl
theorem wd2_239 : (Jvm.Cond.methodLink "RankRingsModel" (61 : Nat) ({ cls := "RankRingsModel", name := "hasWay", desc := "(II)Z" } : Jvm.MethodName)) ∈ wG := wG2 (List.mem_of_getElem? (i := 239) (by decide +kernel)) rfl
theorem wd3_1 : (Jvm.Cond.instanceMethod ({ cls := "RankRingsModel", name := "hasWay", desc := "(II)Z" } : Jvm.MethodName)) ∈ wG := wG3 (List.mem_of_getElem? (i := 1) (by decide +kernel)) rfl
theorem wd3_2 : (Jvm.Cond.code ({ cls := "RankRingsModel", name := "hasWay", desc := "(II)Z" } : Jvm.MethodName) prog_6_method_8_code (3 : Nat) (Option.some Jvm.ClassFile.FieldType.boolean)) ∈ wG := wG3 (List.mem_of_getElem? (i := 2) rfl) rfl
theorem wd3_3 : (Jvm.Cond.methodLink "RankRingsModel" (65 : Nat) ({ cls := "RankRingsModel", name := "ones", desc := "(I)I" } : Jvm.MethodName)) ∈ wG := wG3 (List.mem_of_getElem? (i := 3) (by decide +kernel)) rfl
theorem wd3_4 : (Jvm.Cond.static ({ cls := "RankRingsModel", name := "ones", desc := "(I)I" } : Jvm.MethodName)) ∈ wG := wG3 (List.mem_of_getElem? (i := 4) (by decide +kernel)) rfl
theorem wd3_5 : (Jvm.Cond.code ({ cls := "RankRingsModel", name := "ones", desc := "(I)I" } : Jvm.MethodName) prog_6_method_9_code (3 : Nat) (Option.some Jvm.ClassFile.FieldType.int)) ∈ wG := wG3 (List.mem_of_getElem? (i := 5) rfl) rfl
theorem wd3_6 : (Jvm.Cond.methodLink "RankRingsLaw" (35 : Nat) ({ cls := "RankRingsModel", name := "drop", desc := "(I)I" } : Jvm.MethodName)) ∈ wG := wG3 (List.mem_of_getElem? (i := 6) (by decide +kernel)) rfl
theorem wd3_7 : (Jvm.Cond.instanceMethod ({ cls := "RankRingsModel", name := "drop", desc := "(I)I" } : Jvm.MethodName)) ∈ wG := wG3 (List.mem_of_getElem? (i := 7) (by decide +kernel)) rfl
theorem wd3_8 : (Jvm.Cond.selects "RankRingsModel" ({ cls := "RankRingsModel", name := "drop", desc := "(I)I" } : Jvm.MethodName) ({ cls := "RankRingsModel", name := "drop", desc := "(I)I" } : Jvm.MethodName)) ∈ wG := wG3 (List.mem_of_getElem? (i := 8) (by decide +kernel)) rfl
theorem wd3_9 : (Jvm.Cond.code ({ cls := "RankRingsModel", name := "drop", desc := "(I)I" } : Jvm.MethodName) prog_6_method_15_code (6 : Nat) (Option.some Jvm.ClassFile.FieldType.int)) ∈ wG := wG3 (List.mem_of_getElem? (i := 9) rfl) rfl
theorem wd3_10 : (Jvm.Cond.methodLink "RankRingsLaw" (39 : Nat) ({ cls := "RankRingsModel", name := "placeOf", desc := "(II)I" } : Jvm.MethodName)) ∈ wG := wG3 (List.mem_of_getElem? (i := 10) (by decide +kernel)) rfl
theorem wd3_11 : (Jvm.Cond.instanceMethod ({ cls := "RankRingsModel", name := "placeOf", desc := "(II)I" } : Jvm.MethodName)) ∈ wG := wG3 (List.mem_of_getElem? (i := 11) (by decide +kernel)) rfl
theorem wd3_12 : (Jvm.Cond.selects "RankRingsModel" ({ cls := "RankRingsModel", name := "placeOf", desc := "(II)I" } : Jvm.MethodName) ({ cls := "RankRingsModel", name := "placeOf", desc := "(II)I" } : Jvm.MethodName)) ∈ wG := wG3 (List.mem_of_getElem? (i := 12) (by decide +kernel)) rfl
theorem wd3_13 : (Jvm.Cond.code ({ cls := "RankRingsModel", name := "placeOf", desc := "(II)I" } : Jvm.MethodName) prog_6_method_24_code (3 : Nat) (Option.some Jvm.ClassFile.FieldType.int)) ∈ wG := wG3 (List.mem_of_getElem? (i := 13) rfl) rfl
theorem wd3_14 : (Jvm.Cond.methodLink "RankRingsModel" (102 : Nat) ({ cls := "RankRingsModel", name := "into", desc := "(I)I" } : Jvm.MethodName)) ∈ wG := wG3 (List.mem_of_getElem? (i := 14) (by decide +kernel)) rfl
theorem wd3_16 : (Jvm.Cond.instanceMethod ({ cls := "RankRingsModel", name := "into", desc := "(I)I" } : Jvm.MethodName)) ∈ wG := wG3 (List.mem_of_getElem? (i := 16) (by decide +kernel)) rfl
theorem wd3_17 : (Jvm.Cond.code ({ cls := "RankRingsModel", name := "into", desc := "(I)I" } : Jvm.MethodName) prog_6_method_22_code (4 : Nat) (Option.some Jvm.ClassFile.FieldType.int)) ∈ wG := wG3 (List.mem_of_getElem? (i := 17) rfl) rfl
theorem wd3_18 : (Jvm.Cond.methodLink "RankRingsModel" (89 : Nat) ({ cls := "RankRingsModel", name := "won", desc := "()I" } : Jvm.MethodName)) ∈ wG := wG3 (List.mem_of_getElem? (i := 18) (by decide +kernel)) rfl
theorem wd3_20 : (Jvm.Cond.instanceMethod ({ cls := "RankRingsModel", name := "won", desc := "()I" } : Jvm.MethodName)) ∈ wG := wG3 (List.mem_of_getElem? (i := 20) (by decide +kernel)) rfl
theorem wd3_21 : (Jvm.Cond.code ({ cls := "RankRingsModel", name := "won", desc := "()I" } : Jvm.MethodName) prog_6_method_19_code (4 : Nat) (Option.some Jvm.ClassFile.FieldType.int)) ∈ wG := wG3 (List.mem_of_getElem? (i := 21) rfl) rfl
theorem wd3_22 : (Jvm.Cond.methodLink "RankRingsModel" (83 : Nat) ({ cls := "RankRingsModel", name := "withRank", desc := "(I)I" } : Jvm.MethodName)) ∈ wG := wG3 (List.mem_of_getElem? (i := 22) (by decide +kernel)) rfl
theorem wd3_24 : (Jvm.Cond.instanceMethod ({ cls := "RankRingsModel", name := "withRank", desc := "(I)I" } : Jvm.MethodName)) ∈ wG := wG3 (List.mem_of_getElem? (i := 24) (by decide +kernel)) rfl
theorem wd3_25 : (Jvm.Cond.code ({ cls := "RankRingsModel", name := "withRank", desc := "(I)I" } : Jvm.MethodName) prog_6_method_16_code (4 : Nat) (Option.some Jvm.ClassFile.FieldType.int)) ∈ wG := wG3 (List.mem_of_getElem? (i := 25) rfl) rfl
theorem wd3_26 : (Jvm.Cond.methodLink "RankRingsModel" (86 : Nat) ({ cls := "RankRingsModel", name := "lifted", desc := "(I)I" } : Jvm.MethodName)) ∈ wG := wG3 (List.mem_of_getElem? (i := 26) (by decide +kernel)) rfl
theorem wd3_28 : (Jvm.Cond.instanceMethod ({ cls := "RankRingsModel", name := "lifted", desc := "(I)I" } : Jvm.MethodName)) ∈ wG := wG3 (List.mem_of_getElem? (i := 28) (by decide +kernel)) rfl
theorem wd3_29 : (Jvm.Cond.code ({ cls := "RankRingsModel", name := "lifted", desc := "(I)I" } : Jvm.MethodName) prog_6_method_18_code (6 : Nat) (Option.some Jvm.ClassFile.FieldType.int)) ∈ wG := wG3 (List.mem_of_getElem? (i := 29) rfl) rfl
theorem wd3_30 : (Jvm.Cond.constant "RankRingsModel" (69 : Nat) (1000000 : Int32)) ∈ wG := wG3 (List.mem_of_getElem? (i := 30) (by decide +kernel)) rfl
theorem wd3_31 : (Jvm.Cond.methodLink "RankRingsModel" (79 : Nat) ({ cls := "RankRingsModel", name := "ahead", desc := "(II)I" } : Jvm.MethodName)) ∈ wG := wG3 (List.mem_of_getElem? (i := 31) (by decide +kernel)) rfl
theorem wd3_33 : (Jvm.Cond.instanceMethod ({ cls := "RankRingsModel", name := "ahead", desc := "(II)I" } : Jvm.MethodName)) ∈ wG := wG3 (List.mem_of_getElem? (i := 33) (by decide +kernel)) rfl
theorem wd3_34 : (Jvm.Cond.code ({ cls := "RankRingsModel", name := "ahead", desc := "(II)I" } : Jvm.MethodName) prog_6_method_17_code (7 : Nat) (Option.some Jvm.ClassFile.FieldType.int)) ∈ wG := wG3 (List.mem_of_getElem? (i := 34) rfl) rfl
theorem wd3_35 : (Jvm.Cond.methodLink "RankRingsModel" (96 : Nat) ({ cls := "RankRingsModel", name := "winner", desc := "(II)I" } : Jvm.MethodName)) ∈ wG := wG3 (List.mem_of_getElem? (i := 35) (by decide +kernel)) rfl
theorem wd3_36 : (Jvm.Cond.static ({ cls := "RankRingsModel", name := "winner", desc := "(II)I" } : Jvm.MethodName)) ∈ wG := wG3 (List.mem_of_getElem? (i := 36) (by decide +kernel)) rfl
theorem wd3_37 : (Jvm.Cond.code ({ cls := "RankRingsModel", name := "winner", desc := "(II)I" } : Jvm.MethodName) prog_6_method_20_code (2 : Nat) (Option.some Jvm.ClassFile.FieldType.int)) ∈ wG := wG3 (List.mem_of_getElem? (i := 37) rfl) rfl
theorem wd3_38 : (Jvm.Cond.methodLink "RankRingsModel" (105 : Nat) ({ cls := "RankRingsModel", name := "choiceAt", desc := "(I)I" } : Jvm.MethodName)) ∈ wG := wG3 (List.mem_of_getElem? (i := 38) (by decide +kernel)) rfl
theorem wd3_40 : (Jvm.Cond.instanceMethod ({ cls := "RankRingsModel", name := "choiceAt", desc := "(I)I" } : Jvm.MethodName)) ∈ wG := wG3 (List.mem_of_getElem? (i := 40) (by decide +kernel)) rfl
theorem wd3_41 : (Jvm.Cond.code ({ cls := "RankRingsModel", name := "choiceAt", desc := "(I)I" } : Jvm.MethodName) prog_6_method_23_code (2 : Nat) (Option.some Jvm.ClassFile.FieldType.int)) ∈ wG := wG3 (List.mem_of_getElem? (i := 41) rfl) rfl
theorem wd3_42 : (Jvm.Cond.methodLink "RankRingsModel" (99 : Nat) ({ cls := "RankRingsModel", name := "chooses", desc := "()I" } : Jvm.MethodName)) ∈ wG := wG3 (List.mem_of_getElem? (i := 42) (by decide +kernel)) rfl
theorem wd3_44 : (Jvm.Cond.instanceMethod ({ cls := "RankRingsModel", name := "chooses", desc := "()I" } : Jvm.MethodName)) ∈ wG := wG3 (List.mem_of_getElem? (i := 44) (by decide +kernel)) rfl
theorem wd3_45 : (Jvm.Cond.code ({ cls := "RankRingsModel", name := "chooses", desc := "()I" } : Jvm.MethodName) prog_6_method_21_code (5 : Nat) (Option.some Jvm.ClassFile.FieldType.int)) ∈ wG := wG3 (List.mem_of_getElem? (i := 45) rfl) rfl
theorem wd3_46 : (Jvm.Cond.methodLink "RankRingsModel" (93 : Nat) ({ cls := "RankRingsModel", name := "lowest", desc := "(I)I" } : Jvm.MethodName)) ∈ wG := wG3 (List.mem_of_getElem? (i := 46) (by decide +kernel)) rfl
theorem wd3_47 : (Jvm.Cond.static ({ cls := "RankRingsModel", name := "lowest", desc := "(I)I" } : Jvm.MethodName)) ∈ wG := wG3 (List.mem_of_getElem? (i := 47) (by decide +kernel)) rfl
theorem wd3_48 : (Jvm.Cond.code ({ cls := "RankRingsModel", name := "lowest", desc := "(I)I" } : Jvm.MethodName) prog_6_method_10_code (2 : Nat) (Option.some Jvm.ClassFile.FieldType.int)) ∈ wG := wG3 (List.mem_of_getElem? (i := 48) rfl) rfl
theorem wd3_49 : (Jvm.Cond.methodLink "RankRingsLaw" (43 : Nat) ({ cls := "RankRingsModel", name := "count", desc := "(I)I" } : Jvm.MethodName)) ∈ wG := wG3 (List.mem_of_getElem? (i := 49) (by decide +kernel)) rfl
theorem wd3_50 : (Jvm.Cond.instanceMethod ({ cls := "RankRingsModel", name := "count", desc := "(I)I" } : Jvm.MethodName)) ∈ wG := wG3 (List.mem_of_getElem? (i := 50) (by decide +kernel)) rfl
theorem wd3_51 : (Jvm.Cond.selects "RankRingsModel" ({ cls := "RankRingsModel", name := "count", desc := "(I)I" } : Jvm.MethodName) ({ cls := "RankRingsModel", name := "count", desc := "(I)I" } : Jvm.MethodName)) ∈ wG := wG3 (List.mem_of_getElem? (i := 51) (by decide +kernel)) rfl
theorem wd3_52 : (Jvm.Cond.code ({ cls := "RankRingsModel", name := "count", desc := "(I)I" } : Jvm.MethodName) prog_6_method_28_code (2 : Nat) (Option.some Jvm.ClassFile.FieldType.int)) ∈ wG := wG3 (List.mem_of_getElem? (i := 52) rfl) rfl
theorem wd3_53 : (Jvm.Cond.methodLink "RankRingsModel" (108 : Nat) ({ cls := "RankRingsModel", name := "manyWays", desc := "()I" } : Jvm.MethodName)) ∈ wG := wG3 (List.mem_of_getElem? (i := 53) (by decide +kernel)) rfl
theorem wd3_55 : (Jvm.Cond.instanceMethod ({ cls := "RankRingsModel", name := "manyWays", desc := "()I" } : Jvm.MethodName)) ∈ wG := wG3 (List.mem_of_getElem? (i := 55) (by decide +kernel)) rfl
theorem wd3_56 : (Jvm.Cond.code ({ cls := "RankRingsModel", name := "manyWays", desc := "()I" } : Jvm.MethodName) prog_6_method_25_code (3 : Nat) (Option.some Jvm.ClassFile.FieldType.int)) ∈ wG := wG3 (List.mem_of_getElem? (i := 56) rfl) rfl
theorem wd3_57 : (Jvm.Cond.methodLink "RankRingsModel" (111 : Nat) ({ cls := "RankRingsModel", name := "all", desc := "()I" } : Jvm.MethodName)) ∈ wG := wG3 (List.mem_of_getElem? (i := 57) (by decide +kernel)) rfl
theorem wd3_59 : (Jvm.Cond.instanceMethod ({ cls := "RankRingsModel", name := "all", desc := "()I" } : Jvm.MethodName)) ∈ wG := wG3 (List.mem_of_getElem? (i := 59) (by decide +kernel)) rfl
theorem wd3_60 : (Jvm.Cond.code ({ cls := "RankRingsModel", name := "all", desc := "()I" } : Jvm.MethodName) prog_6_method_7_code (1 : Nat) (Option.some Jvm.ClassFile.FieldType.int)) ∈ wG := wG3 (List.mem_of_getElem? (i := 60) rfl) rfl
theorem wd3_61 : (Jvm.Cond.methodLink "RankRingsModel" (114 : Nat) ({ cls := "RankRingsModel", name := "dead", desc := "()I" } : Jvm.MethodName)) ∈ wG := wG3 (List.mem_of_getElem? (i := 61) (by decide +kernel)) rfl
theorem wd3_63 : (Jvm.Cond.instanceMethod ({ cls := "RankRingsModel", name := "dead", desc := "()I" } : Jvm.MethodName)) ∈ wG := wG3 (List.mem_of_getElem? (i := 63) (by decide +kernel)) rfl
theorem wd3_64 : (Jvm.Cond.code ({ cls := "RankRingsModel", name := "dead", desc := "()I" } : Jvm.MethodName) prog_6_method_26_code (3 : Nat) (Option.some Jvm.ClassFile.FieldType.int)) ∈ wG := wG3 (List.mem_of_getElem? (i := 64) rfl) rfl
theorem wd3_65 : (Jvm.Cond.methodLink "RankRingsModel" (117 : Nat) ({ cls := "RankRingsModel", name := "greatest", desc := "()I" } : Jvm.MethodName)) ∈ wG := wG3 (List.mem_of_getElem? (i := 65) (by decide +kernel)) rfl
theorem wd3_67 : (Jvm.Cond.instanceMethod ({ cls := "RankRingsModel", name := "greatest", desc := "()I" } : Jvm.MethodName)) ∈ wG := wG3 (List.mem_of_getElem? (i := 67) (by decide +kernel)) rfl
theorem wd3_68 : (Jvm.Cond.code ({ cls := "RankRingsModel", name := "greatest", desc := "()I" } : Jvm.MethodName) prog_6_method_27_code (3 : Nat) (Option.some Jvm.ClassFile.FieldType.int)) ∈ wG := wG3 (List.mem_of_getElem? (i := 68) rfl) rfl
theorem wd3_69 : (Jvm.Cond.methodLink "RankRingsLaw" (47 : Nat) ({ cls := "RankRingsModel", name := "pulled", desc := "(II)I" } : Jvm.MethodName)) ∈ wG := wG3 (List.mem_of_getElem? (i := 69) (by decide +kernel)) rfl
theorem wd3_70 : (Jvm.Cond.instanceMethod ({ cls := "RankRingsModel", name := "pulled", desc := "(II)I" } : Jvm.MethodName)) ∈ wG := wG3 (List.mem_of_getElem? (i := 70) (by decide +kernel)) rfl
theorem wd3_71 : (Jvm.Cond.selects "RankRingsModel" ({ cls := "RankRingsModel", name := "pulled", desc := "(II)I" } : Jvm.MethodName) ({ cls := "RankRingsModel", name := "pulled", desc := "(II)I" } : Jvm.MethodName)) ∈ wG := wG3 (List.mem_of_getElem? (i := 71) (by decide +kernel)) rfl
theorem wd3_72 : (Jvm.Cond.code ({ cls := "RankRingsModel", name := "pulled", desc := "(II)I" } : Jvm.MethodName) prog_6_method_31_code (5 : Nat) (Option.some Jvm.ClassFile.FieldType.int)) ∈ wG := wG3 (List.mem_of_getElem? (i := 72) rfl) rfl
theorem wd3_73 : (Jvm.Cond.methodLink "RankRingsModel" (127 : Nat) ({ cls := "RankRingsModel", name := "isSet", desc := "(II)Z" } : Jvm.MethodName)) ∈ wG := wG3 (List.mem_of_getElem? (i := 73) (by decide +kernel)) rfl
theorem wd3_75 : (Jvm.Cond.instanceMethod ({ cls := "RankRingsModel", name := "isSet", desc := "(II)Z" } : Jvm.MethodName)) ∈ wG := wG3 (List.mem_of_getElem? (i := 75) (by decide +kernel)) rfl
theorem wd3_76 : (Jvm.Cond.code ({ cls := "RankRingsModel", name := "isSet", desc := "(II)Z" } : Jvm.MethodName) prog_6_method_29_code (3 : Nat) (Option.some Jvm.ClassFile.FieldType.boolean)) ∈ wG := wG3 (List.mem_of_getElem? (i := 76) rfl) rfl
theorem wd3_77 : (Jvm.Cond.methodLink "RankRingsModel" (130 : Nat) ({ cls := "RankRingsModel", name := "pulls", desc := "(II)I" } : Jvm.MethodName)) ∈ wG := wG3 (List.mem_of_getElem? (i := 77) (by decide +kernel)) rfl
theorem wd3_79 : (Jvm.Cond.instanceMethod ({ cls := "RankRingsModel", name := "pulls", desc := "(II)I" } : Jvm.MethodName)) ∈ wG := wG3 (List.mem_of_getElem? (i := 79) (by decide +kernel)) rfl
theorem wd3_80 : (Jvm.Cond.code ({ cls := "RankRingsModel", name := "pulls", desc := "(II)I" } : Jvm.MethodName) prog_6_method_30_code (7 : Nat) (Option.some Jvm.ClassFile.FieldType.int)) ∈ wG := wG3 (List.mem_of_getElem? (i := 80) rfl) rfl
theorem wd3_81 : (Jvm.Cond.methodLink "RankRingsLaw" (51 : Nat) ({ cls := "RankRingsModel", name := "steps", desc := "(III)I" } : Jvm.MethodName)) ∈ wG := wG3 (List.mem_of_getElem? (i := 81) (by decide +kernel)) rfl
theorem wd3_82 : (Jvm.Cond.instanceMethod ({ cls := "RankRingsModel", name := "steps", desc := "(III)I" } : Jvm.MethodName)) ∈ wG := wG3 (List.mem_of_getElem? (i := 82) (by decide +kernel)) rfl
theorem wd3_83 : (Jvm.Cond.selects "RankRingsModel" ({ cls := "RankRingsModel", name := "steps", desc := "(III)I" } : Jvm.MethodName) ({ cls := "RankRingsModel", name := "steps", desc := "(III)I" } : Jvm.MethodName)) ∈ wG := wG3 (List.mem_of_getElem? (i := 83) (by decide +kernel)) rfl
theorem wd3_84 : (Jvm.Cond.code ({ cls := "RankRingsModel", name := "steps", desc := "(III)I" } : Jvm.MethodName) prog_6_method_32_code (6 : Nat) (Option.some Jvm.ClassFile.FieldType.int)) ∈ wG := wG3 (List.mem_of_getElem? (i := 84) rfl) rfl
theorem wd3_85 : (Jvm.Cond.methodLink "RankRingsLaw" (55 : Nat) ({ cls := "RankRingsModel", name := "trap", desc := "(II)I" } : Jvm.MethodName)) ∈ wG := wG3 (List.mem_of_getElem? (i := 85) (by decide +kernel)) rfl
theorem wd3_86 : (Jvm.Cond.instanceMethod ({ cls := "RankRingsModel", name := "trap", desc := "(II)I" } : Jvm.MethodName)) ∈ wG := wG3 (List.mem_of_getElem? (i := 86) (by decide +kernel)) rfl
theorem wd3_87 : (Jvm.Cond.selects "RankRingsModel" ({ cls := "RankRingsModel", name := "trap", desc := "(II)I" } : Jvm.MethodName) ({ cls := "RankRingsModel", name := "trap", desc := "(II)I" } : Jvm.MethodName)) ∈ wG := wG3 (List.mem_of_getElem? (i := 87) (by decide +kernel)) rfl
theorem wd3_88 : (Jvm.Cond.code ({ cls := "RankRingsModel", name := "trap", desc := "(II)I" } : Jvm.MethodName) prog_6_method_34_code (3 : Nat) (Option.some Jvm.ClassFile.FieldType.int)) ∈ wG := wG3 (List.mem_of_getElem? (i := 88) rfl) rfl
theorem wd3_89 : (Jvm.Cond.methodLink "RankRingsModel" (133 : Nat) ({ cls := "RankRingsModel", name := "holding", desc := "(II)I" } : Jvm.MethodName)) ∈ wG := wG3 (List.mem_of_getElem? (i := 89) (by decide +kernel)) rfl
theorem wd3_91 : (Jvm.Cond.instanceMethod ({ cls := "RankRingsModel", name := "holding", desc := "(II)I" } : Jvm.MethodName)) ∈ wG := wG3 (List.mem_of_getElem? (i := 91) (by decide +kernel)) rfl
theorem wd3_92 : (Jvm.Cond.code ({ cls := "RankRingsModel", name := "holding", desc := "(II)I" } : Jvm.MethodName) prog_6_method_33_code (7 : Nat) (Option.some Jvm.ClassFile.FieldType.int)) ∈ wG := wG3 (List.mem_of_getElem? (i := 92) rfl) rfl
theorem wd3_93 : (Jvm.Cond.methodLink "RankRingsLaw" (59 : Nat) ({ cls := "RankRingsModel", name := "greatestTrap", desc := "(II)I" } : Jvm.MethodName)) ∈ wG := wG3 (List.mem_of_getElem? (i := 93) (by decide +kernel)) rfl
theorem wd3_94 : (Jvm.Cond.instanceMethod ({ cls := "RankRingsModel", name := "greatestTrap", desc := "(II)I" } : Jvm.MethodName)) ∈ wG := wG3 (List.mem_of_getElem? (i := 94) (by decide +kernel)) rfl
theorem wd3_95 : (Jvm.Cond.selects "RankRingsModel" ({ cls := "RankRingsModel", name := "greatestTrap", desc := "(II)I" } : Jvm.MethodName) ({ cls := "RankRingsModel", name := "greatestTrap", desc := "(II)I" } : Jvm.MethodName)) ∈ wG := wG3 (List.mem_of_getElem? (i := 95) (by decide +kernel)) rfl
theorem wd3_96 : (Jvm.Cond.code ({ cls := "RankRingsModel", name := "greatestTrap", desc := "(II)I" } : Jvm.MethodName) prog_6_method_35_code (5 : Nat) (Option.some Jvm.ClassFile.FieldType.int)) ∈ wG := wG3 (List.mem_of_getElem? (i := 96) rfl) rfl
theorem wd3_97 : (Jvm.Cond.methodLink "RankRingsLaw" (63 : Nat) ({ cls := "RankRingsModel", name := "play", desc := "(II)I" } : Jvm.MethodName)) ∈ wG := wG3 (List.mem_of_getElem? (i := 97) (by decide +kernel)) rfl
theorem wd3_98 : (Jvm.Cond.instanceMethod ({ cls := "RankRingsModel", name := "play", desc := "(II)I" } : Jvm.MethodName)) ∈ wG := wG3 (List.mem_of_getElem? (i := 98) (by decide +kernel)) rfl
theorem wd3_99 : (Jvm.Cond.selects "RankRingsModel" ({ cls := "RankRingsModel", name := "play", desc := "(II)I" } : Jvm.MethodName) ({ cls := "RankRingsModel", name := "play", desc := "(II)I" } : Jvm.MethodName)) ∈ wG := wG3 (List.mem_of_getElem? (i := 99) (by decide +kernel)) rfl
theorem wd3_100 : (Jvm.Cond.code ({ cls := "RankRingsModel", name := "play", desc := "(II)I" } : Jvm.MethodName) prog_6_method_36_code (10 : Nat) (Option.some Jvm.ClassFile.FieldType.int)) ∈ wG := wG3 (List.mem_of_getElem? (i := 100) rfl) rfl
theorem wd3_101 : (Jvm.Cond.methodLink "RankRingsLaw" (67 : Nat) ({ cls := "RankRingsModel", name := "proves", desc := "(I)I" } : Jvm.MethodName)) ∈ wG := wG3 (List.mem_of_getElem? (i := 101) (by decide +kernel)) rfl
theorem wd3_102 : (Jvm.Cond.instanceMethod ({ cls := "RankRingsModel", name := "proves", desc := "(I)I" } : Jvm.MethodName)) ∈ wG := wG3 (List.mem_of_getElem? (i := 102) (by decide +kernel)) rfl
theorem wd3_103 : (Jvm.Cond.selects "RankRingsModel" ({ cls := "RankRingsModel", name := "proves", desc := "(I)I" } : Jvm.MethodName) ({ cls := "RankRingsModel", name := "proves", desc := "(I)I" } : Jvm.MethodName)) ∈ wG := wG3 (List.mem_of_getElem? (i := 103) (by decide +kernel)) rfl
theorem wd3_104 : (Jvm.Cond.code ({ cls := "RankRingsModel", name := "proves", desc := "(I)I" } : Jvm.MethodName) prog_6_method_37_code (8 : Nat) (Option.some Jvm.ClassFile.FieldType.int)) ∈ wG := wG3 (List.mem_of_getElem? (i := 104) rfl) rfl
theorem wd3_105 : (Jvm.Cond.methodLink "RankRingsLaw" (71 : Nat) ({ cls := "RankRingsModel", name := "only", desc := "(II)I" } : Jvm.MethodName)) ∈ wG := wG3 (List.mem_of_getElem? (i := 105) (by decide +kernel)) rfl
theorem wd3_106 : (Jvm.Cond.instanceMethod ({ cls := "RankRingsModel", name := "only", desc := "(II)I" } : Jvm.MethodName)) ∈ wG := wG3 (List.mem_of_getElem? (i := 106) (by decide +kernel)) rfl
theorem wd3_107 : (Jvm.Cond.selects "RankRingsModel" ({ cls := "RankRingsModel", name := "only", desc := "(II)I" } : Jvm.MethodName) ({ cls := "RankRingsModel", name := "only", desc := "(II)I" } : Jvm.MethodName)) ∈ wG := wG3 (List.mem_of_getElem? (i := 107) (by decide +kernel)) rfl
theorem wd3_108 : (Jvm.Cond.code ({ cls := "RankRingsModel", name := "only", desc := "(II)I" } : Jvm.MethodName) prog_6_method_38_code (5 : Nat) (Option.some Jvm.ClassFile.FieldType.int)) ∈ wG := wG3 (List.mem_of_getElem? (i := 108) rfl) rfl
theorem wd3_109 : (Jvm.Cond.methodLink "RankRingsLaw" (75 : Nat) ({ cls := "RankRingsModel", name := "littleChange", desc := "(II)I" } : Jvm.MethodName)) ∈ wG := wG3 (List.mem_of_getElem? (i := 109) (by decide +kernel)) rfl
theorem wd3_110 : (Jvm.Cond.instanceMethod ({ cls := "RankRingsModel", name := "littleChange", desc := "(II)I" } : Jvm.MethodName)) ∈ wG := wG3 (List.mem_of_getElem? (i := 110) (by decide +kernel)) rfl
theorem wd3_111 : (Jvm.Cond.selects "RankRingsModel" ({ cls := "RankRingsModel", name := "littleChange", desc := "(II)I" } : Jvm.MethodName) ({ cls := "RankRingsModel", name := "littleChange", desc := "(II)I" } : Jvm.MethodName)) ∈ wG := wG3 (List.mem_of_getElem? (i := 111) (by decide +kernel)) rfl
theorem wd3_112 : (Jvm.Cond.code ({ cls := "RankRingsModel", name := "littleChange", desc := "(II)I" } : Jvm.MethodName) prog_6_method_40_code (7 : Nat) (Option.some Jvm.ClassFile.FieldType.int)) ∈ wG := wG3 (List.mem_of_getElem? (i := 112) rfl) rfl
theorem wd3_113 : (Jvm.Cond.methodLink "RankRingsModel" (136 : Nat) ({ cls := "RankRingsModel", name := "turns", desc := "(IIII)Z" } : Jvm.MethodName)) ∈ wG := wG3 (List.mem_of_getElem? (i := 113) (by decide +kernel)) rfl
theorem wd3_115 : (Jvm.Cond.instanceMethod ({ cls := "RankRingsModel", name := "turns", desc := "(IIII)Z" } : Jvm.MethodName)) ∈ wG := wG3 (List.mem_of_getElem? (i := 115) (by decide +kernel)) rfl
theorem wd3_116 : (Jvm.Cond.code ({ cls := "RankRingsModel", name := "turns", desc := "(IIII)Z" } : Jvm.MethodName) prog_6_method_39_code (7 : Nat) (Option.some Jvm.ClassFile.FieldType.boolean)) ∈ wG := wG3 (List.mem_of_getElem? (i := 116) rfl) rfl
theorem wd3_117 : (Jvm.Cond.methodLink "RankRingsLaw" (80 : Nat) ({ cls := "RankRingsModel", name := "keep", desc := "()I" } : Jvm.MethodName)) ∈ wG := wG3 (List.mem_of_getElem? (i := 117) (by decide +kernel)) rfl
theorem wd3_118 : (Jvm.Cond.instanceMethod ({ cls := "RankRingsModel", name := "keep", desc := "()I" } : Jvm.MethodName)) ∈ wG := wG3 (List.mem_of_getElem? (i := 118) (by decide +kernel)) rfl
theorem wd3_119 : (Jvm.Cond.selects "RankRingsModel" ({ cls := "RankRingsModel", name := "keep", desc := "()I" } : Jvm.MethodName) ({ cls := "RankRingsModel", name := "keep", desc := "()I" } : Jvm.MethodName)) ∈ wG := wG3 (List.mem_of_getElem? (i := 119) (by decide +kernel)) rfl
theorem wd3_120 : (Jvm.Cond.code ({ cls := "RankRingsModel", name := "keep", desc := "()I" } : Jvm.MethodName) prog_6_method_41_code (1 : Nat) (Option.some Jvm.ClassFile.FieldType.int)) ∈ wG := wG3 (List.mem_of_getElem? (i := 120) rfl) rfl
theorem wd3_121 : (Jvm.Cond.methodLink "RankRingsModel" (140 : Nat) ({ cls := "RankRingsModel", name := "copies", desc := "([I[I)V" } : Jvm.MethodName)) ∈ wG := wG3 (List.mem_of_getElem? (i := 121) (by decide +kernel)) rfl
theorem wd3_122 : (Jvm.Cond.static ({ cls := "RankRingsModel", name := "copies", desc := "([I[I)V" } : Jvm.MethodName)) ∈ wG := wG3 (List.mem_of_getElem? (i := 122) (by decide +kernel)) rfl
theorem wd3_123 : (Jvm.Cond.code ({ cls := "RankRingsModel", name := "copies", desc := "([I[I)V" } : Jvm.MethodName) prog_6_method_4_code (3 : Nat) (Option.none : Option Jvm.ClassFile.FieldType)) ∈ wG := wG3 (List.mem_of_getElem? (i := 123) rfl) rfl
theorem wd3_124 : (Jvm.Cond.methodLink "RankRingsLaw" (84 : Nat) ({ cls := "RankRingsModel", name := "restore", desc := "()I" } : Jvm.MethodName)) ∈ wG := wG3 (List.mem_of_getElem? (i := 124) (by decide +kernel)) rfl
theorem wd3_125 : (Jvm.Cond.instanceMethod ({ cls := "RankRingsModel", name := "restore", desc := "()I" } : Jvm.MethodName)) ∈ wG := wG3 (List.mem_of_getElem? (i := 125) (by decide +kernel)) rfl
theorem wd3_126 : (Jvm.Cond.selects "RankRingsModel" ({ cls := "RankRingsModel", name := "restore", desc := "()I" } : Jvm.MethodName) ({ cls := "RankRingsModel", name := "restore", desc := "()I" } : Jvm.MethodName)) ∈ wG := wG3 (List.mem_of_getElem? (i := 126) (by decide +kernel)) rfl
theorem wd3_127 : (Jvm.Cond.code ({ cls := "RankRingsModel", name := "restore", desc := "()I" } : Jvm.MethodName) prog_6_method_42_code (1 : Nat) (Option.some Jvm.ClassFile.FieldType.int)) ∈ wG := wG3 (List.mem_of_getElem? (i := 127) rfl) rfl
theorem wd3_128 : (Jvm.Cond.methodLink "RankRingsLaw" (88 : Nat) ({ cls := "RankRingsModel", name := "undo", desc := "()I" } : Jvm.MethodName)) ∈ wG := wG3 (List.mem_of_getElem? (i := 128) (by decide +kernel)) rfl
theorem wd3_129 : (Jvm.Cond.instanceMethod ({ cls := "RankRingsModel", name := "undo", desc := "()I" } : Jvm.MethodName)) ∈ wG := wG3 (List.mem_of_getElem? (i := 129) (by decide +kernel)) rfl
theorem wd3_130 : (Jvm.Cond.selects "RankRingsModel" ({ cls := "RankRingsModel", name := "undo", desc := "()I" } : Jvm.MethodName) ({ cls := "RankRingsModel", name := "undo", desc := "()I" } : Jvm.MethodName)) ∈ wG := wG3 (List.mem_of_getElem? (i := 130) (by decide +kernel)) rfl
theorem wd3_131 : (Jvm.Cond.code ({ cls := "RankRingsModel", name := "undo", desc := "()I" } : Jvm.MethodName) prog_6_method_43_code (2 : Nat) (Option.some Jvm.ClassFile.FieldType.int)) ∈ wG := wG3 (List.mem_of_getElem? (i := 131) rfl) rfl
theorem wd3_132 : (Jvm.Cond.methodLink "RankRingsLaw" (92 : Nat) ({ cls := "RankRingsModel", name := "type", desc := "(I)I" } : Jvm.MethodName)) ∈ wG := wG3 (List.mem_of_getElem? (i := 132) (by decide +kernel)) rfl
theorem wd3_133 : (Jvm.Cond.instanceMethod ({ cls := "RankRingsModel", name := "type", desc := "(I)I" } : Jvm.MethodName)) ∈ wG := wG3 (List.mem_of_getElem? (i := 133) (by decide +kernel)) rfl
theorem wd3_134 : (Jvm.Cond.selects "RankRingsModel" ({ cls := "RankRingsModel", name := "type", desc := "(I)I" } : Jvm.MethodName) ({ cls := "RankRingsModel", name := "type", desc := "(I)I" } : Jvm.MethodName)) ∈ wG := wG3 (List.mem_of_getElem? (i := 134) (by decide +kernel)) rfl
theorem wd3_135 : (Jvm.Cond.code ({ cls := "RankRingsModel", name := "type", desc := "(I)I" } : Jvm.MethodName) prog_6_method_44_code (2 : Nat) (Option.some Jvm.ClassFile.FieldType.int)) ∈ wG := wG3 (List.mem_of_getElem? (i := 135) rfl) rfl
theorem wd3_136 : (Jvm.Cond.methodLink "RankRingsLaw" (96 : Nat) ({ cls := "RankRingsModel", name := "clearText", desc := "()I" } : Jvm.MethodName)) ∈ wG := wG3 (List.mem_of_getElem? (i := 136) (by decide +kernel)) rfl
theorem wd3_137 : (Jvm.Cond.instanceMethod ({ cls := "RankRingsModel", name := "clearText", desc := "()I" } : Jvm.MethodName)) ∈ wG := wG3 (List.mem_of_getElem? (i := 137) (by decide +kernel)) rfl
theorem wd3_138 : (Jvm.Cond.selects "RankRingsModel" ({ cls := "RankRingsModel", name := "clearText", desc := "()I" } : Jvm.MethodName) ({ cls := "RankRingsModel", name := "clearText", desc := "()I" } : Jvm.MethodName)) ∈ wG := wG3 (List.mem_of_getElem? (i := 138) (by decide +kernel)) rfl
theorem wd3_139 : (Jvm.Cond.code ({ cls := "RankRingsModel", name := "clearText", desc := "()I" } : Jvm.MethodName) prog_6_method_45_code (2 : Nat) (Option.some Jvm.ClassFile.FieldType.int)) ∈ wG := wG3 (List.mem_of_getElem? (i := 139) rfl) rfl
theorem wd3_140 : (Jvm.Cond.methodLink "RankRingsLaw" (100 : Nat) ({ cls := "RankRingsModel", name := "fault", desc := "(I)I" } : Jvm.MethodName)) ∈ wG := wG3 (List.mem_of_getElem? (i := 140) (by decide +kernel)) rfl
theorem wd3_141 : (Jvm.Cond.instanceMethod ({ cls := "RankRingsModel", name := "fault", desc := "(I)I" } : Jvm.MethodName)) ∈ wG := wG3 (List.mem_of_getElem? (i := 141) (by decide +kernel)) rfl
theorem wd3_142 : (Jvm.Cond.selects "RankRingsModel" ({ cls := "RankRingsModel", name := "fault", desc := "(I)I" } : Jvm.MethodName) ({ cls := "RankRingsModel", name := "fault", desc := "(I)I" } : Jvm.MethodName)) ∈ wG := wG3 (List.mem_of_getElem? (i := 142) (by decide +kernel)) rfl
theorem wd3_143 : (Jvm.Cond.code ({ cls := "RankRingsModel", name := "fault", desc := "(I)I" } : Jvm.MethodName) prog_6_method_52_code (2 : Nat) (Option.some Jvm.ClassFile.FieldType.int)) ∈ wG := wG3 (List.mem_of_getElem? (i := 143) rfl) rfl
theorem wd3_144 : (Jvm.Cond.methodLink "RankRingsModel" (169 : Nat) ({ cls := "RankRingsModel", name := "isRight", desc := "()Z" } : Jvm.MethodName)) ∈ wG := wG3 (List.mem_of_getElem? (i := 144) (by decide +kernel)) rfl
theorem wd3_146 : (Jvm.Cond.instanceMethod ({ cls := "RankRingsModel", name := "isRight", desc := "()Z" } : Jvm.MethodName)) ∈ wG := wG3 (List.mem_of_getElem? (i := 146) (by decide +kernel)) rfl
theorem wd3_147 : (Jvm.Cond.code ({ cls := "RankRingsModel", name := "isRight", desc := "()Z" } : Jvm.MethodName) prog_6_method_51_code (2 : Nat) (Option.some Jvm.ClassFile.FieldType.boolean)) ∈ wG := wG3 (List.mem_of_getElem? (i := 147) rfl) rfl
theorem wd3_148 : (Jvm.Cond.methodLink "RankRingsModel" (163 : Nat) ({ cls := "RankRingsModel", name := "readsPlace", desc := "()Z" } : Jvm.MethodName)) ∈ wG := wG3 (List.mem_of_getElem? (i := 148) (by decide +kernel)) rfl
theorem wd3_150 : (Jvm.Cond.instanceMethod ({ cls := "RankRingsModel", name := "readsPlace", desc := "()Z" } : Jvm.MethodName)) ∈ wG := wG3 (List.mem_of_getElem? (i := 150) (by decide +kernel)) rfl
theorem wd3_151 : (Jvm.Cond.code ({ cls := "RankRingsModel", name := "readsPlace", desc := "()Z" } : Jvm.MethodName) prog_6_method_49_code (3 : Nat) (Option.some Jvm.ClassFile.FieldType.boolean)) ∈ wG := wG3 (List.mem_of_getElem? (i := 151) rfl) rfl
theorem wd3_152 : (Jvm.Cond.methodLink "RankRingsModel" (150 : Nat) ({ cls := "RankRingsModel", name := "isAt", desc := "(II)Z" } : Jvm.MethodName)) ∈ wG := wG3 (List.mem_of_getElem? (i := 152) (by decide +kernel)) rfl
theorem wd3_154 : (Jvm.Cond.instanceMethod ({ cls := "RankRingsModel", name := "isAt", desc := "(II)Z" } : Jvm.MethodName)) ∈ wG := wG3 (List.mem_of_getElem? (i := 154) (by decide +kernel)) rfl
theorem wd3_155 : (Jvm.Cond.code ({ cls := "RankRingsModel", name := "isAt", desc := "(II)Z" } : Jvm.MethodName) prog_6_method_46_code (3 : Nat) (Option.some Jvm.ClassFile.FieldType.boolean)) ∈ wG := wG3 (List.mem_of_getElem? (i := 155) rfl) rfl
theorem wd3_156 : (Jvm.Cond.methodLink "RankRingsModel" (153 : Nat) ({ cls := "RankRingsModel", name := "fails", desc := "(I)Z" } : Jvm.MethodName)) ∈ wG := wG3 (List.mem_of_getElem? (i := 156) (by decide +kernel)) rfl
theorem wd3_158 : (Jvm.Cond.instanceMethod ({ cls := "RankRingsModel", name := "fails", desc := "(I)Z" } : Jvm.MethodName)) ∈ wG := wG3 (List.mem_of_getElem? (i := 158) (by decide +kernel)) rfl
theorem wd3_159 : (Jvm.Cond.code ({ cls := "RankRingsModel", name := "fails", desc := "(I)Z" } : Jvm.MethodName) prog_6_method_47_code (2 : Nat) (Option.some Jvm.ClassFile.FieldType.boolean)) ∈ wG := wG3 (List.mem_of_getElem? (i := 159) rfl) rfl
theorem wd3_160 : (Jvm.Cond.methodLink "RankRingsModel" (159 : Nat) ({ cls := "RankRingsModel", name := "readsWay", desc := "()Z" } : Jvm.MethodName)) ∈ wG := wG3 (List.mem_of_getElem? (i := 160) (by decide +kernel)) rfl
theorem wd3_162 : (Jvm.Cond.instanceMethod ({ cls := "RankRingsModel", name := "readsWay", desc := "()Z" } : Jvm.MethodName)) ∈ wG := wG3 (List.mem_of_getElem? (i := 162) (by decide +kernel)) rfl
theorem wd3_163 : (Jvm.Cond.code ({ cls := "RankRingsModel", name := "readsWay", desc := "()Z" } : Jvm.MethodName) prog_6_method_48_code (3 : Nat) (Option.some Jvm.ClassFile.FieldType.boolean)) ∈ wG := wG3 (List.mem_of_getElem? (i := 163) rfl) rfl
theorem wd3_164 : (Jvm.Cond.methodLink "RankRingsModel" (166 : Nat) ({ cls := "RankRingsModel", name := "areThere", desc := "()Z" } : Jvm.MethodName)) ∈ wG := wG3 (List.mem_of_getElem? (i := 164) (by decide +kernel)) rfl
theorem wd3_166 : (Jvm.Cond.instanceMethod ({ cls := "RankRingsModel", name := "areThere", desc := "()Z" } : Jvm.MethodName)) ∈ wG := wG3 (List.mem_of_getElem? (i := 166) (by decide +kernel)) rfl
theorem wd3_167 : (Jvm.Cond.code ({ cls := "RankRingsModel", name := "areThere", desc := "()Z" } : Jvm.MethodName) prog_6_method_50_code (3 : Nat) (Option.some Jvm.ClassFile.FieldType.boolean)) ∈ wG := wG3 (List.mem_of_getElem? (i := 167) rfl) rfl
theorem wd3_168 : (Jvm.Cond.methodLink "RankRingsLaw" (104 : Nat) ({ cls := "RankRingsModel", name := "read", desc := "()I" } : Jvm.MethodName)) ∈ wG := wG3 (List.mem_of_getElem? (i := 168) (by decide +kernel)) rfl
theorem wd3_169 : (Jvm.Cond.instanceMethod ({ cls := "RankRingsModel", name := "read", desc := "()I" } : Jvm.MethodName)) ∈ wG := wG3 (List.mem_of_getElem? (i := 169) (by decide +kernel)) rfl
theorem wd3_170 : (Jvm.Cond.selects "RankRingsModel" ({ cls := "RankRingsModel", name := "read", desc := "()I" } : Jvm.MethodName) ({ cls := "RankRingsModel", name := "read", desc := "()I" } : Jvm.MethodName)) ∈ wG := wG3 (List.mem_of_getElem? (i := 170) (by decide +kernel)) rfl
theorem wd3_171 : (Jvm.Cond.code ({ cls := "RankRingsModel", name := "read", desc := "()I" } : Jvm.MethodName) prog_6_method_53_code (2 : Nat) (Option.some Jvm.ClassFile.FieldType.int)) ∈ wG := wG3 (List.mem_of_getElem? (i := 171) rfl) rfl
theorem wdp_0 : Cond.selects "RankRings" ⟨"RankRings", "recordState", "()V"⟩ ⟨"RankRings", "recordState", "()V"⟩ ∈ wG := wGp (q := (⟨"RankRings", "recordState", "()V"⟩, 11)) (List.mem_of_getElem? (i := 0) (by decide +kernel)) rfl
theorem wdp_1 : Cond.selects "RankRings" ⟨"RankRings", "dropOldestState", "()V"⟩ ⟨"RankRings", "dropOldestState", "()V"⟩ ∈ wG := wGp (q := (⟨"RankRings", "dropOldestState", "()V"⟩, 11)) (List.mem_of_getElem? (i := 1) (by decide +kernel)) rfl
theorem wdp_2 : Cond.selects "RankRings" ⟨"RankRings", "forgetFindings", "()V"⟩ ⟨"RankRings", "forgetFindings", "()V"⟩ ∈ wG := wGp (q := (⟨"RankRings", "forgetFindings", "()V"⟩, 11)) (List.mem_of_getElem? (i := 2) (by decide +kernel)) rfl
theorem wdp_3 : Cond.selects "RankRings" ⟨"RankRings", "winnerFrom", "(I)I"⟩ ⟨"RankRings", "winnerFrom", "(I)I"⟩ ∈ wG := wGp (q := (⟨"RankRings", "winnerFrom", "(I)I"⟩, 11)) (List.mem_of_getElem? (i := 3) (by decide +kernel)) rfl
theorem wdp_4 : Cond.selects "RankRings" ⟨"RankRings", "winsOf", "(I)I"⟩ ⟨"RankRings", "winsOf", "(I)I"⟩ ∈ wG := wGp (q := (⟨"RankRings", "winsOf", "(I)I"⟩, 11)) (List.mem_of_getElem? (i := 4) (by decide +kernel)) rfl
theorem wdp_5 : Cond.selects "RankRings" ⟨"RankRings", "findChoices", "()V"⟩ ⟨"RankRings", "findChoices", "()V"⟩ ∈ wG := wGp (q := (⟨"RankRings", "findChoices", "()V"⟩, 11)) (List.mem_of_getElem? (i := 5) (by decide +kernel)) rfl
theorem wdp_6 : Cond.selects "RankRings" ⟨"RankRings", "settle", "(I)I"⟩ ⟨"RankRings", "settle", "(I)I"⟩ ∈ wG := wGp (q := (⟨"RankRings", "settle", "(I)I"⟩, 11)) (List.mem_of_getElem? (i := 6) (by decide +kernel)) rfl
theorem wdp_7 : Cond.selects "RankRings" ⟨"RankRings", "greatestRankOfRing", "(I)I"⟩ ⟨"RankRings", "greatestRankOfRing", "(I)I"⟩ ∈ wG := wGp (q := (⟨"RankRings", "greatestRankOfRing", "(I)I"⟩, 11)) (List.mem_of_getElem? (i := 7) (by decide +kernel)) rfl
theorem wdp_8 : Cond.selects "RankRings" ⟨"RankRings", "turnsWinner", "(III)Z"⟩ ⟨"RankRings", "turnsWinner", "(III)Z"⟩ ∈ wG := wGp (q := (⟨"RankRings", "turnsWinner", "(III)Z"⟩, 11)) (List.mem_of_getElem? (i := 8) (by decide +kernel)) rfl
theorem wdp_9 : Cond.selects "RankRings$Text" ⟨"RankRings$Text", "lookAtPlaces", "()Z"⟩ ⟨"RankRings$Text", "lookAtPlaces", "()Z"⟩ ∈ wG := wGp (q := (⟨"RankRings$Text", "lookAtPlaces", "()Z"⟩, 9)) (List.mem_of_getElem? (i := 9) (by decide +kernel)) rfl
theorem wdp_10 : Cond.selects "RankRings$Text" ⟨"RankRings$Text", "lookAtPlace", "()Z"⟩ ⟨"RankRings$Text", "lookAtPlace", "()Z"⟩ ∈ wG := wGp (q := (⟨"RankRings$Text", "lookAtPlace", "()Z"⟩, 9)) (List.mem_of_getElem? (i := 10) (by decide +kernel)) rfl
theorem wdp_11 : Cond.selects "RankRings$Text" ⟨"RankRings$Text", "character", "()C"⟩ ⟨"RankRings$Text", "character", "()C"⟩ ∈ wG := wGp (q := (⟨"RankRings$Text", "character", "()C"⟩, 9)) (List.mem_of_getElem? (i := 11) (by decide +kernel)) rfl
theorem wdp_12 : Cond.selects "RankRings$Text" ⟨"RankRings$Text", "blame", "(II)Z"⟩ ⟨"RankRings$Text", "blame", "(II)Z"⟩ ∈ wG := wGp (q := (⟨"RankRings$Text", "blame", "(II)Z"⟩, 9)) (List.mem_of_getElem? (i := 12) (by decide +kernel)) rfl
theorem wdp_13 : Cond.selects "RankRings$Text" ⟨"RankRings$Text", "digit", "()I"⟩ ⟨"RankRings$Text", "digit", "()I"⟩ ∈ wG := wGp (q := (⟨"RankRings$Text", "digit", "()I"⟩, 9)) (List.mem_of_getElem? (i := 13) (by decide +kernel)) rfl
theorem wdp_14 : Cond.selects "RankRings$Text" ⟨"RankRings$Text", "lookAtWays", "()Z"⟩ ⟨"RankRings$Text", "lookAtWays", "()Z"⟩ ∈ wG := wGp (q := (⟨"RankRings$Text", "lookAtWays", "()Z"⟩, 9)) (List.mem_of_getElem? (i := 14) (by decide +kernel)) rfl
theorem wdp_15 : Cond.selects "RankRings$Text" ⟨"RankRings$Text", "isToldSince", "(II)Z"⟩ ⟨"RankRings$Text", "isToldSince", "(II)Z"⟩ ∈ wG := wGp (q := (⟨"RankRings$Text", "isToldSince", "(II)Z"⟩, 9)) (List.mem_of_getElem? (i := 15) (by decide +kernel)) rfl
theorem wdp_16 : Cond.selects "RankRings$Text" ⟨"RankRings$Text", "tellWay", "(II)V"⟩ ⟨"RankRings$Text", "tellWay", "(II)V"⟩ ∈ wG := wGp (q := (⟨"RankRings$Text", "tellWay", "(II)V"⟩, 9)) (List.mem_of_getElem? (i := 16) (by decide +kernel)) rfl
theorem wdp_17 : Cond.selects "RankRings$Text" ⟨"RankRings$Text", "lookForPlacesOfWays", "()Z"⟩ ⟨"RankRings$Text", "lookForPlacesOfWays", "()Z"⟩ ∈ wG := wGp (q := (⟨"RankRings$Text", "lookForPlacesOfWays", "()Z"⟩, 9)) (List.mem_of_getElem? (i := 17) (by decide +kernel)) rfl
theorem wdp_18 : Cond.selects "RankRingsModel" ⟨"RankRingsModel", "changes", "()V"⟩ ⟨"RankRingsModel", "changes", "()V"⟩ ∈ wG := wGp (q := (⟨"RankRingsModel", "changes", "()V"⟩, 21)) (List.mem_of_getElem? (i := 18) (by decide +kernel)) rfl
theorem wdp_19 : Cond.selects "RankRingsModel" ⟨"RankRingsModel", "isPlace", "(I)Z"⟩ ⟨"RankRingsModel", "isPlace", "(I)Z"⟩ ∈ wG := wGp (q := (⟨"RankRingsModel", "isPlace", "(I)Z"⟩, 21)) (List.mem_of_getElem? (i := 19) (by decide +kernel)) rfl
theorem wdp_20 : Cond.selects "RankRingsModel" ⟨"RankRingsModel", "hasWay", "(II)Z"⟩ ⟨"RankRingsModel", "hasWay", "(II)Z"⟩ ∈ wG := wGp (q := (⟨"RankRingsModel", "hasWay", "(II)Z"⟩, 21)) (List.mem_of_getElem? (i := 20) (by decide +kernel)) rfl
theorem wdp_21 : Cond.selects "RankRingsModel" ⟨"RankRingsModel", "into", "(I)I"⟩ ⟨"RankRingsModel", "into", "(I)I"⟩ ∈ wG := wGp (q := (⟨"RankRingsModel", "into", "(I)I"⟩, 21)) (List.mem_of_getElem? (i := 21) (by decide +kernel)) rfl
theorem wdp_22 : Cond.selects "RankRingsModel" ⟨"RankRingsModel", "won", "()I"⟩ ⟨"RankRingsModel", "won", "()I"⟩ ∈ wG := wGp (q := (⟨"RankRingsModel", "won", "()I"⟩, 21)) (List.mem_of_getElem? (i := 22) (by decide +kernel)) rfl
theorem wdp_23 : Cond.selects "RankRingsModel" ⟨"RankRingsModel", "withRank", "(I)I"⟩ ⟨"RankRingsModel", "withRank", "(I)I"⟩ ∈ wG := wGp (q := (⟨"RankRingsModel", "withRank", "(I)I"⟩, 21)) (List.mem_of_getElem? (i := 23) (by decide +kernel)) rfl
theorem wdp_24 : Cond.selects "RankRingsModel" ⟨"RankRingsModel", "lifted", "(I)I"⟩ ⟨"RankRingsModel", "lifted", "(I)I"⟩ ∈ wG := wGp (q := (⟨"RankRingsModel", "lifted", "(I)I"⟩, 21)) (List.mem_of_getElem? (i := 24) (by decide +kernel)) rfl
theorem wdp_25 : Cond.selects "RankRingsModel" ⟨"RankRingsModel", "ahead", "(II)I"⟩ ⟨"RankRingsModel", "ahead", "(II)I"⟩ ∈ wG := wGp (q := (⟨"RankRingsModel", "ahead", "(II)I"⟩, 21)) (List.mem_of_getElem? (i := 25) (by decide +kernel)) rfl
theorem wdp_26 : Cond.selects "RankRingsModel" ⟨"RankRingsModel", "choiceAt", "(I)I"⟩ ⟨"RankRingsModel", "choiceAt", "(I)I"⟩ ∈ wG := wGp (q := (⟨"RankRingsModel", "choiceAt", "(I)I"⟩, 21)) (List.mem_of_getElem? (i := 26) (by decide +kernel)) rfl
theorem wdp_27 : Cond.selects "RankRingsModel" ⟨"RankRingsModel", "chooses", "()I"⟩ ⟨"RankRingsModel", "chooses", "()I"⟩ ∈ wG := wGp (q := (⟨"RankRingsModel", "chooses", "()I"⟩, 21)) (List.mem_of_getElem? (i := 27) (by decide +kernel)) rfl
theorem wdp_28 : Cond.selects "RankRingsModel" ⟨"RankRingsModel", "manyWays", "()I"⟩ ⟨"RankRingsModel", "manyWays", "()I"⟩ ∈ wG := wGp (q := (⟨"RankRingsModel", "manyWays", "()I"⟩, 21)) (List.mem_of_getElem? (i := 28) (by decide +kernel)) rfl
theorem wdp_29 : Cond.selects "RankRingsModel" ⟨"RankRingsModel", "all", "()I"⟩ ⟨"RankRingsModel", "all", "()I"⟩ ∈ wG := wGp (q := (⟨"RankRingsModel", "all", "()I"⟩, 21)) (List.mem_of_getElem? (i := 29) (by decide +kernel)) rfl
theorem wdp_30 : Cond.selects "RankRingsModel" ⟨"RankRingsModel", "dead", "()I"⟩ ⟨"RankRingsModel", "dead", "()I"⟩ ∈ wG := wGp (q := (⟨"RankRingsModel", "dead", "()I"⟩, 21)) (List.mem_of_getElem? (i := 30) (by decide +kernel)) rfl
theorem wdp_31 : Cond.selects "RankRingsModel" ⟨"RankRingsModel", "greatest", "()I"⟩ ⟨"RankRingsModel", "greatest", "()I"⟩ ∈ wG := wGp (q := (⟨"RankRingsModel", "greatest", "()I"⟩, 21)) (List.mem_of_getElem? (i := 31) (by decide +kernel)) rfl
theorem wdp_32 : Cond.selects "RankRingsModel" ⟨"RankRingsModel", "isSet", "(II)Z"⟩ ⟨"RankRingsModel", "isSet", "(II)Z"⟩ ∈ wG := wGp (q := (⟨"RankRingsModel", "isSet", "(II)Z"⟩, 21)) (List.mem_of_getElem? (i := 32) (by decide +kernel)) rfl
theorem wdp_33 : Cond.selects "RankRingsModel" ⟨"RankRingsModel", "pulls", "(II)I"⟩ ⟨"RankRingsModel", "pulls", "(II)I"⟩ ∈ wG := wGp (q := (⟨"RankRingsModel", "pulls", "(II)I"⟩, 21)) (List.mem_of_getElem? (i := 33) (by decide +kernel)) rfl
theorem wdp_34 : Cond.selects "RankRingsModel" ⟨"RankRingsModel", "holding", "(II)I"⟩ ⟨"RankRingsModel", "holding", "(II)I"⟩ ∈ wG := wGp (q := (⟨"RankRingsModel", "holding", "(II)I"⟩, 21)) (List.mem_of_getElem? (i := 34) (by decide +kernel)) rfl
theorem wdp_35 : Cond.selects "RankRingsModel" ⟨"RankRingsModel", "turns", "(IIII)Z"⟩ ⟨"RankRingsModel", "turns", "(IIII)Z"⟩ ∈ wG := wGp (q := (⟨"RankRingsModel", "turns", "(IIII)Z"⟩, 21)) (List.mem_of_getElem? (i := 35) (by decide +kernel)) rfl
theorem wdp_36 : Cond.selects "RankRingsModel" ⟨"RankRingsModel", "isRight", "()Z"⟩ ⟨"RankRingsModel", "isRight", "()Z"⟩ ∈ wG := wGp (q := (⟨"RankRingsModel", "isRight", "()Z"⟩, 21)) (List.mem_of_getElem? (i := 36) (by decide +kernel)) rfl
theorem wdp_37 : Cond.selects "RankRingsModel" ⟨"RankRingsModel", "readsPlace", "()Z"⟩ ⟨"RankRingsModel", "readsPlace", "()Z"⟩ ∈ wG := wGp (q := (⟨"RankRingsModel", "readsPlace", "()Z"⟩, 21)) (List.mem_of_getElem? (i := 37) (by decide +kernel)) rfl
theorem wdp_38 : Cond.selects "RankRingsModel" ⟨"RankRingsModel", "isAt", "(II)Z"⟩ ⟨"RankRingsModel", "isAt", "(II)Z"⟩ ∈ wG := wGp (q := (⟨"RankRingsModel", "isAt", "(II)Z"⟩, 21)) (List.mem_of_getElem? (i := 38) (by decide +kernel)) rfl
theorem wdp_39 : Cond.selects "RankRingsModel" ⟨"RankRingsModel", "fails", "(I)Z"⟩ ⟨"RankRingsModel", "fails", "(I)Z"⟩ ∈ wG := wGp (q := (⟨"RankRingsModel", "fails", "(I)Z"⟩, 21)) (List.mem_of_getElem? (i := 39) (by decide +kernel)) rfl
theorem wdp_40 : Cond.selects "RankRingsModel" ⟨"RankRingsModel", "readsWay", "()Z"⟩ ⟨"RankRingsModel", "readsWay", "()Z"⟩ ∈ wG := wGp (q := (⟨"RankRingsModel", "readsWay", "()Z"⟩, 21)) (List.mem_of_getElem? (i := 40) (by decide +kernel)) rfl
theorem wdp_41 : Cond.selects "RankRingsModel" ⟨"RankRingsModel", "areThere", "()Z"⟩ ⟨"RankRingsModel", "areThere", "()Z"⟩ ∈ wG := wGp (q := (⟨"RankRingsModel", "areThere", "()Z"⟩, 21)) (List.mem_of_getElem? (i := 41) (by decide +kernel)) rfl
theorem yfX3_init : YF yX3_init cX3_init 2 none 0 := ⟨wd1_12, wd1_1, by decide +kernel⟩
theorem yfX0_init : YF yX0_init cX0_init 1 none 0 := ⟨wd1_20, wd1_2, by decide +kernel⟩
theorem yfX2_init : YF yX2_init cX2_init 1 none 0 := ⟨wd1_50, wd1_3, by decide +kernel⟩
theorem yfX3_add : YF yX3_add cX3_add 3 (some .int) 2 := ⟨wd1_124, wd1_1, by decide +kernel⟩
theorem yfX3_isPlayer : YF yX3_isPlayer cX3_isPlayer 1 (some .boolean) 1 := ⟨wd1_127, wd1_1, by decide +kernel⟩
theorem yfX3_isRank : YF yX3_isRank cX3_isRank 1 (some .boolean) 1 := ⟨wd1_130, wd1_1, by decide +kernel⟩
theorem yfX3_recordState : YF yX3_recordState cX3_recordState 1 none 0 := ⟨wd1_134, wd1_1, by decide +kernel⟩
theorem yfX3_dropOldestState : YF yX3_dropOldestState cX3_dropOldestState 3 none 0 := ⟨wd1_138, wd1_1, by decide +kernel⟩
theorem yfX0_copyFrom : YF yX0_copyFrom cX0_copyFrom 3 none 1 := ⟨wd1_142, wd1_2, by decide +kernel⟩
theorem yfX3_forgetFindings : YF yX3_forgetFindings cX3_forgetFindings 1 none 0 := ⟨wd1_146, wd1_1, by decide +kernel⟩
theorem yfX0_append : YF yX0_append cX0_append 3 none 2 := ⟨wd1_150, wd1_2, by decide +kernel⟩
theorem yfX3_own : YF yX3_own cX3_own 4 (some .int) 2 := ⟨wd1_154, wd1_1, by decide +kernel⟩
theorem yfX0_has : YF yX0_has cX0_has 2 (some .boolean) 1 := ⟨wd1_158, wd1_2, by decide +kernel⟩
theorem yfX3_rank : YF yX3_rank cX3_rank 4 (some .int) 2 := ⟨wd1_162, wd1_1, by decide +kernel⟩
theorem yfX3_way : YF yX3_way cX3_way 4 (some .int) 3 := ⟨wd1_166, wd1_1, by decide +kernel⟩
theorem yfX3_contains : YF yX3_contains cX3_contains 2 (some .boolean) 2 := ⟨wd1_169, wd1_1, by decide +kernel⟩
theorem yfJ6_bitCount_0f7a4 : YF yJ6_bitCount_0f7a4 cJ6_bitCount_0f7a4 1 (some .int) 1 := ⟨wd1_172, wd1_5, by decide +kernel⟩
theorem yfX3_drop : YF yX3_drop cX3_drop 2 (some .int) 1 := ⟨wd1_179, wd1_1, by decide +kernel⟩
theorem yfX0_remove : YF yX0_remove cX0_remove 4 none 1 := ⟨wd1_183, wd1_2, by decide +kernel⟩
theorem yfX3_placeOf : YF yX3_placeOf cX3_placeOf 3 (some .int) 2 := ⟨wd1_187, wd1_1, by decide +kernel⟩
theorem yfX0_waysTo : YF yX0_waysTo cX0_waysTo 4 (some .int) 1 := ⟨wd1_191, wd1_2, by decide +kernel⟩
theorem yfX3_winnerFrom : YF yX3_winnerFrom cX3_winnerFrom 2 (some .int) 1 := ⟨wd1_196, wd1_1, by decide +kernel⟩
theorem yfX3_winsOf : YF yX3_winsOf cX3_winsOf 2 (some .int) 1 := ⟨wd1_200, wd1_1, by decide +kernel⟩
theorem yfX1_winsOf0 : YF yX1_winsOf0 cX1_winsOf0 4 (some .int) 1 := ⟨wd1_203, wd1_6, by decide +kernel⟩
theorem yfX0_all : YF yX0_all cX0_all 1 (some .int) 0 := ⟨wd1_207, wd1_2, by decide +kernel⟩
theorem yfX0_endsOf : YF yX0_endsOf cX0_endsOf 4 (some .int) 1 := ⟨wd1_211, wd1_2, by decide +kernel⟩
theorem yfX1_pull : YF yX1_pull cX1_pull 7 (some .int) 4 := ⟨wd1_214, wd1_6, by decide +kernel⟩
theorem yfX1_pullOnce : YF yX1_pullOnce cX1_pullOnce 8 (some .int) 4 := ⟨wd1_217, wd1_6, by decide +kernel⟩
theorem yfX1_winsWithin : YF yX1_winsWithin cX1_winsWithin 11 (some .int) 4 := ⟨wd1_221, wd1_6, by decide +kernel⟩
theorem yfX0_ranked : YF yX0_ranked cX0_ranked 4 (some .int) 1 := ⟨wd1_225, wd1_2, by decide +kernel⟩
theorem yfX3_findChoices : YF yX3_findChoices cX3_findChoices 3 none 0 := ⟨wd1_230, wd1_1, by decide +kernel⟩
theorem yfX3_settle : YF yX3_settle cX3_settle 4 (some .int) 1 := ⟨wd1_234, wd1_1, by decide +kernel⟩
theorem yfJ6_numberOfTrailingZeros_0f7a4 : YF yJ6_numberOfTrailingZeros_0f7a4 cJ6_numberOfTrailingZeros_0f7a4 2 (some .int) 1 := ⟨wd1_237, wd1_5, by decide +kernel⟩
theorem yfX3_count : YF yX3_count cX3_count 2 (some .int) 1 := ⟨wd2_2, wd1_1, by decide +kernel⟩
theorem yfX0_numberOfWays : YF yX0_numberOfWays cX0_numberOfWays 3 (some .int) 0 := ⟨wd2_6, wd1_2, by decide +kernel⟩
theorem yfX0_greatestRank : YF yX0_greatestRank cX0_greatestRank 3 (some .int) 0 := ⟨wd2_12, wd1_2, by decide +kernel⟩
theorem yfJ9_max_7cf53 : YF yJ9_max_7cf53 cJ9_max_7cf53 2 (some .int) 2 := ⟨wd2_15, wd1_7, by decide +kernel⟩
theorem yfX3_pulled : YF yX3_pulled cX3_pulled 3 (some .int) 2 := ⟨wd2_19, wd1_1, by decide +kernel⟩
theorem yfX0_hasAll : YF yX0_hasAll cX0_hasAll 2 (some .boolean) 1 := ⟨wd2_23, wd1_2, by decide +kernel⟩
theorem yfX3_steps : YF yX3_steps cX3_steps 6 (some .int) 3 := ⟨wd2_29, wd1_1, by decide +kernel⟩
theorem yfX3_trap : YF yX3_trap cX3_trap 3 (some .int) 2 := ⟨wd2_34, wd1_1, by decide +kernel⟩
theorem yfX1_held : YF yX1_held cX1_held 7 (some .int) 3 := ⟨wd2_37, wd1_6, by decide +kernel⟩
theorem yfX3_greatestTrap : YF yX3_greatestTrap cX3_greatestTrap 5 (some .int) 2 := ⟨wd2_41, wd1_1, by decide +kernel⟩
theorem yfX3_play : YF yX3_play cX3_play 7 (some .int) 2 := ⟨wd2_45, wd1_1, by decide +kernel⟩
theorem yfX3_greatestRankOfRing : YF yX3_greatestRankOfRing cX3_greatestRankOfRing 5 (some .int) 1 := ⟨wd2_49, wd1_1, by decide +kernel⟩
theorem yfX3_proves : YF yX3_proves cX3_proves 4 (some .int) 1 := ⟨wd2_54, wd1_1, by decide +kernel⟩
theorem yfX3_only : YF yX3_only cX3_only 3 (some .int) 2 := ⟨wd2_58, wd1_1, by decide +kernel⟩
theorem yfX3_littleChange : YF yX3_littleChange cX3_littleChange 7 (some .int) 2 := ⟨wd2_62, wd1_1, by decide +kernel⟩
theorem yfX3_turnsWinner : YF yX3_turnsWinner cX3_turnsWinner 5 (some .boolean) 3 := ⟨wd2_66, wd1_1, by decide +kernel⟩
theorem yfX3_keep : YF yX3_keep cX3_keep 1 (some .int) 0 := ⟨wd2_70, wd1_1, by decide +kernel⟩
theorem yfX3_restore : YF yX3_restore cX3_restore 1 (some .int) 0 := ⟨wd2_74, wd1_1, by decide +kernel⟩
theorem yfX3_undo : YF yX3_undo cX3_undo 1 (some .int) 0 := ⟨wd2_78, wd1_1, by decide +kernel⟩
theorem yfX3_type : YF yX3_type cX3_type 2 (some .int) 1 := ⟨wd2_82, wd1_1, by decide +kernel⟩
theorem yfX2_append : YF yX2_append cX2_append 2 none 1 := ⟨wd2_86, wd1_3, by decide +kernel⟩
theorem yfX3_clearText : YF yX3_clearText cX3_clearText 2 (some .int) 0 := ⟨wd2_90, wd1_1, by decide +kernel⟩
theorem yfX3_fault : YF yX3_fault cX3_fault 2 (some .int) 1 := ⟨wd2_94, wd1_1, by decide +kernel⟩
theorem yfX2_isField : YF yX2_isField cX2_isField 1 (some .boolean) 0 := ⟨wd2_98, wd1_3, by decide +kernel⟩
theorem yfX2_lookAtPlaces : YF yX2_lookAtPlaces cX2_lookAtPlaces 2 (some .boolean) 0 := ⟨wd2_102, wd1_3, by decide +kernel⟩
theorem yfX2_lookAtPlace : YF yX2_lookAtPlace cX2_lookAtPlace 3 (some .boolean) 0 := ⟨wd2_106, wd1_3, by decide +kernel⟩
theorem yfX2_character : YF yX2_character cX2_character 1 (some .char) 0 := ⟨wd2_110, wd1_3, by decide +kernel⟩
theorem yfX2_blame : YF yX2_blame cX2_blame 3 (some .boolean) 2 := ⟨wd2_114, wd1_3, by decide +kernel⟩
theorem yfX2_digit : YF yX2_digit cX2_digit 2 (some .int) 0 := ⟨wd2_118, wd1_3, by decide +kernel⟩
theorem yfX2_lookAtWays : YF yX2_lookAtWays cX2_lookAtWays 5 (some .boolean) 0 := ⟨wd2_124, wd1_3, by decide +kernel⟩
theorem yfX2_isToldSince : YF yX2_isToldSince cX2_isToldSince 4 (some .boolean) 2 := ⟨wd2_128, wd1_3, by decide +kernel⟩
theorem yfX2_tellWay : YF yX2_tellWay cX2_tellWay 4 none 2 := ⟨wd2_132, wd1_3, by decide +kernel⟩
theorem yfX2_lookForPlacesOfWays : YF yX2_lookForPlacesOfWays cX2_lookForPlacesOfWays 2 (some .boolean) 0 := ⟨wd2_137, wd1_3, by decide +kernel⟩
theorem yfX3_read : YF yX3_read cX3_read 1 (some .int) 0 := ⟨wd2_141, wd1_1, by decide +kernel⟩
theorem yfX4_init : YF yX4_init cX4_init 1 none 0 := ⟨wd2_146, wd1_4, by decide +kernel⟩
theorem yfX4_add : YF yX4_add cX4_add 4 (some .int) 2 := ⟨wd2_215, wd1_4, by decide +kernel⟩
theorem yfX4_in : YF yX4_in cX4_in 3 (some .boolean) 3 := ⟨wd2_218, wd1_4, by decide +kernel⟩
theorem yfX4_changes : YF yX4_changes cX4_changes 2 none 0 := ⟨wd2_222, wd1_4, by decide +kernel⟩
theorem yfX4_own : YF yX4_own cX4_own 4 (some .int) 2 := ⟨wd2_226, wd1_4, by decide +kernel⟩
theorem yfX4_isPlace : YF yX4_isPlace cX4_isPlace 2 (some .boolean) 1 := ⟨wd2_230, wd1_4, by decide +kernel⟩
theorem yfX4_rank : YF yX4_rank cX4_rank 4 (some .int) 2 := ⟨wd2_234, wd1_4, by decide +kernel⟩
theorem yfX4_way : YF yX4_way cX4_way 4 (some .int) 3 := ⟨wd2_238, wd1_4, by decide +kernel⟩
theorem yfX4_hasWay : YF yX4_hasWay cX4_hasWay 3 (some .boolean) 2 := ⟨wd3_2, wd1_4, by decide +kernel⟩
theorem yfX4_ones : YF yX4_ones cX4_ones 3 (some .int) 1 := ⟨wd3_5, wd1_4, by decide +kernel⟩
theorem yfX4_drop : YF yX4_drop cX4_drop 6 (some .int) 1 := ⟨wd3_9, wd1_4, by decide +kernel⟩
theorem yfX4_placeOf : YF yX4_placeOf cX4_placeOf 3 (some .int) 2 := ⟨wd3_13, wd1_4, by decide +kernel⟩
theorem yfX4_into : YF yX4_into cX4_into 4 (some .int) 1 := ⟨wd3_17, wd1_4, by decide +kernel⟩
theorem yfX4_won : YF yX4_won cX4_won 4 (some .int) 0 := ⟨wd3_21, wd1_4, by decide +kernel⟩
theorem yfX4_withRank : YF yX4_withRank cX4_withRank 4 (some .int) 1 := ⟨wd3_25, wd1_4, by decide +kernel⟩
theorem yfX4_lifted : YF yX4_lifted cX4_lifted 6 (some .int) 1 := ⟨wd3_29, wd1_4, by decide +kernel⟩
theorem yfX4_ahead : YF yX4_ahead cX4_ahead 7 (some .int) 2 := ⟨wd3_34, wd1_4, by decide +kernel⟩
theorem yfX4_winner : YF yX4_winner cX4_winner 2 (some .int) 2 := ⟨wd3_37, wd1_4, by decide +kernel⟩
theorem yfX4_choiceAt : YF yX4_choiceAt cX4_choiceAt 2 (some .int) 1 := ⟨wd3_41, wd1_4, by decide +kernel⟩
theorem yfX4_chooses : YF yX4_chooses cX4_chooses 5 (some .int) 0 := ⟨wd3_45, wd1_4, by decide +kernel⟩
theorem yfX4_lowest : YF yX4_lowest cX4_lowest 2 (some .int) 1 := ⟨wd3_48, wd1_4, by decide +kernel⟩
theorem yfX4_count : YF yX4_count cX4_count 2 (some .int) 1 := ⟨wd3_52, wd1_4, by decide +kernel⟩
theorem yfX4_manyWays : YF yX4_manyWays cX4_manyWays 3 (some .int) 0 := ⟨wd3_56, wd1_4, by decide +kernel⟩
theorem yfX4_all : YF yX4_all cX4_all 1 (some .int) 0 := ⟨wd3_60, wd1_4, by decide +kernel⟩
theorem yfX4_dead : YF yX4_dead cX4_dead 3 (some .int) 0 := ⟨wd3_64, wd1_4, by decide +kernel⟩
theorem yfX4_greatest : YF yX4_greatest cX4_greatest 3 (some .int) 0 := ⟨wd3_68, wd1_4, by decide +kernel⟩
theorem yfX4_pulled : YF yX4_pulled cX4_pulled 5 (some .int) 2 := ⟨wd3_72, wd1_4, by decide +kernel⟩
theorem yfX4_isSet : YF yX4_isSet cX4_isSet 3 (some .boolean) 2 := ⟨wd3_76, wd1_4, by decide +kernel⟩
theorem yfX4_pulls : YF yX4_pulls cX4_pulls 7 (some .int) 2 := ⟨wd3_80, wd1_4, by decide +kernel⟩
theorem yfX4_steps : YF yX4_steps cX4_steps 6 (some .int) 3 := ⟨wd3_84, wd1_4, by decide +kernel⟩
theorem yfX4_trap : YF yX4_trap cX4_trap 3 (some .int) 2 := ⟨wd3_88, wd1_4, by decide +kernel⟩
theorem yfX4_holding : YF yX4_holding cX4_holding 7 (some .int) 2 := ⟨wd3_92, wd1_4, by decide +kernel⟩
theorem yfX4_greatestTrap : YF yX4_greatestTrap cX4_greatestTrap 5 (some .int) 2 := ⟨wd3_96, wd1_4, by decide +kernel⟩
theorem yfX4_play : YF yX4_play cX4_play 10 (some .int) 2 := ⟨wd3_100, wd1_4, by decide +kernel⟩
theorem yfX4_proves : YF yX4_proves cX4_proves 8 (some .int) 1 := ⟨wd3_104, wd1_4, by decide +kernel⟩
theorem yfX4_only : YF yX4_only cX4_only 5 (some .int) 2 := ⟨wd3_108, wd1_4, by decide +kernel⟩
theorem yfX4_littleChange : YF yX4_littleChange cX4_littleChange 7 (some .int) 2 := ⟨wd3_112, wd1_4, by decide +kernel⟩
theorem yfX4_turns : YF yX4_turns cX4_turns 7 (some .boolean) 4 := ⟨wd3_116, wd1_4, by decide +kernel⟩
theorem yfX4_keep : YF yX4_keep cX4_keep 1 (some .int) 0 := ⟨wd3_120, wd1_4, by decide +kernel⟩
theorem yfX4_copies : YF yX4_copies cX4_copies 3 none 2 := ⟨wd3_123, wd1_4, by decide +kernel⟩
theorem yfX4_restore : YF yX4_restore cX4_restore 1 (some .int) 0 := ⟨wd3_127, wd1_4, by decide +kernel⟩
theorem yfX4_undo : YF yX4_undo cX4_undo 2 (some .int) 0 := ⟨wd3_131, wd1_4, by decide +kernel⟩
theorem yfX4_type : YF yX4_type cX4_type 2 (some .int) 1 := ⟨wd3_135, wd1_4, by decide +kernel⟩
theorem yfX4_clearText : YF yX4_clearText cX4_clearText 2 (some .int) 0 := ⟨wd3_139, wd1_4, by decide +kernel⟩
theorem yfX4_fault : YF yX4_fault cX4_fault 2 (some .int) 1 := ⟨wd3_143, wd1_4, by decide +kernel⟩
theorem yfX4_isRight : YF yX4_isRight cX4_isRight 2 (some .boolean) 0 := ⟨wd3_147, wd1_4, by decide +kernel⟩
theorem yfX4_readsPlace : YF yX4_readsPlace cX4_readsPlace 3 (some .boolean) 0 := ⟨wd3_151, wd1_4, by decide +kernel⟩
theorem yfX4_isAt : YF yX4_isAt cX4_isAt 3 (some .boolean) 2 := ⟨wd3_155, wd1_4, by decide +kernel⟩
theorem yfX4_fails : YF yX4_fails cX4_fails 2 (some .boolean) 1 := ⟨wd3_159, wd1_4, by decide +kernel⟩
theorem yfX4_readsWay : YF yX4_readsWay cX4_readsWay 3 (some .boolean) 0 := ⟨wd3_163, wd1_4, by decide +kernel⟩
theorem yfX4_areThere : YF yX4_areThere cX4_areThere 3 (some .boolean) 0 := ⟨wd3_167, wd1_4, by decide +kernel⟩
theorem yfX4_read : YF yX4_read cX4_read 2 (some .int) 0 := ⟨wd3_171, wd1_4, by decide +kernel⟩
end
section
def f_X3_contains (N : Nat) (x0 : Int32) (x1 : Int32) : Option (Int32) :=
    if ((x0 >>> (x1 &&& 31)) &&& 1) = 1 then (some 1) else (some 0)
set_option maxHeartbeats 4000000 in
set_option maxRecDepth 100000 in
theorem c_X3_contains (l : Launch) (D : va_G) (cI cC cH : ClassId) (N : Nat) (x0 : Int32) (x1 : Int32) (y : Int32) (h : f_X3_contains N x0 x1 = some y) : CTi l yX3_contains cX3_contains 2 (some .boolean) 0 0 D (tyL cI cC cH) [.int x0, .int x1] [] [] y := by
  unfold f_X3_contains at h
  refine ctZ (by decide) (Nat.le_of_ble_eq_true rfl) ?_
  intro p e s m args below meth c A Q ls F hret hP hD hS hl
  have hx := F.1
  have hb := F.2.1
  have hown : s.vm.findClass RX3 = some m.cls := F.2.2.2.1
  have hts := F.2.2.2.2.1
  have hN := F.2.2.2.2.2.1
  have hK := F.2.2.2.2.2.2.1
  have hl : lv_has ls 2 [(0, .int x0), (1, .int x1)] := hl
  refine lv_iload_n hx hb dX3_contains_0 rfl (lv_at hl 0 rfl) ?_
  refine lv_iload_n hx hb dX3_contains_1 rfl (lv_at hl 1 rfl) ?_
  refine lv_ishr hx hb dX3_contains_2 ?_
  refine lv_iconst (v := 1) hx hb dX3_contains_3 (by decide) ?_
  refine lv_iand hx hb dX3_contains_4 ?_
  refine lv_iconst (v := 1) hx hb dX3_contains_5 (by decide) ?_
  refine lv_icmp_ne (tgt := 13) hx hb dX3_contains_6 (by decide) (fun c1 => ?_) (fun c1 => ?_)
  · have h := itF h c1
    refine lv_iconst (v := 0) hx hb dX3_contains_13 (by decide) ?_
    obtain rfl := Option.some.inj h
    exact hret _ _ _ _ _ rfl rfl hP hD hS dX3_contains_14
  · have h := itT h c1
    refine lv_iconst (v := 1) hx hb dX3_contains_9 (by decide) ?_
    refine lv_goto (tgt := 14) hx hb dX3_contains_10 (by decide) ?_
    obtain rfl := Option.some.inj h
    exact hret _ _ _ _ _ rfl rfl hP hD hS dX3_contains_14
def f_X0_has (N : Nat) (x1 : Int32) (zsize : Int32) : Option (Int32) :=
    if x1 < 0 then (some 0) else (if zsize ≤ x1 then (some 0) else (if 12 ≤ x1 then (some 0) else (some 1)))
set_option maxHeartbeats 4000000 in
set_option maxRecDepth 100000 in
theorem c_X0_has (l : Launch) (D : va_G) (cI cC cH : ClassId) (a0 : Nat) (a_owners : Nat) (a_ranks : Nat) (a_ways : Nat) (N : Nat) (x1 : Int32) (zsize : Int32) (y : Int32) (h : f_X0_has N x1 zsize = some y) : CTi l yX0_has cX0_has 2 (some .boolean) 0 0 D (tyL cI cC cH) [.ref a0, .int x1] [(a0, .inr (0, [.ref a_owners, .ref a_ranks, .ref a_ways, .int zsize]))] [(a0, .inr (0, [.ref a_owners, .ref a_ranks, .ref a_ways, .int zsize]))] y := by
  unfold f_X0_has at h
  refine ctZ (by decide) (Nat.le_of_ble_eq_true rfl) ?_
  intro p e s m args below meth c A Q ls F hret hP hD hS hl
  have hx := F.1
  have hb := F.2.1
  have hown : s.vm.findClass RX0 = some m.cls := F.2.2.2.1
  have hts := F.2.2.2.2.1
  have hN := F.2.2.2.2.2.1
  have hK := F.2.2.2.2.2.2.1
  have hl : lv_has ls 2 [(0, .ref a0), (1, .int x1)] := hl
  refine lv_iload_n hx hb dX0_has_0 rfl (lv_at hl 1 rfl) ?_
  refine lv_if_lt (tgt := 22) hx hb dX0_has_1 (by decide) (fun c1 => ?_) (fun c1 => ?_)
  · have h := itT h c1
    refine lv_iconst (v := 0) hx hb dX0_has_22 (by decide) ?_
    obtain rfl := Option.some.inj h
    exact hret _ _ _ _ _ rfl rfl hP hD hS dX0_has_23
  · have h := itF h c1
    refine lv_iload_n hx hb dX0_has_4 rfl (lv_at hl 1 rfl) ?_
    refine lv_aload_n hx hb dX0_has_5 rfl (lv_at hl 0 rfl) ?_
    refine va_get (D := D) (ci := 0) (v := .int zsize) (C := RX0) (T := TX0) (N := 4) hx hb hts inG0 hown hK hP 0 rfl rfl 3 (by decide) (hts _ wd1_31) (fun _ h9 => h9) rfl dX0_has_6 ?_
    refine lv_icmp_ge (tgt := 22) hx hb dX0_has_9 (by decide) (fun c2 => ?_) (fun c2 => ?_)
    · have h := itT h c2
      refine lv_iconst (v := 0) hx hb dX0_has_22 (by decide) ?_
      obtain rfl := Option.some.inj h
      exact hret _ _ _ _ _ rfl rfl hP hD hS dX0_has_23
    · have h := itF h c2
      refine lv_iload_n hx hb dX0_has_12 rfl (lv_at hl 1 rfl) ?_
      refine lv_bipush (v := 12) hx hb dX0_has_13 (by decide) ?_
      refine lv_icmp_ge (tgt := 22) hx hb dX0_has_15 (by decide) (fun c3 => ?_) (fun c3 => ?_)
      · have h := itT h c3
        refine lv_iconst (v := 0) hx hb dX0_has_22 (by decide) ?_
        obtain rfl := Option.some.inj h
        exact hret _ _ _ _ _ rfl rfl hP hD hS dX0_has_23
      · have h := itF h c3
        refine lv_iconst (v := 1) hx hb dX0_has_18 (by decide) ?_
        refine lv_goto (tgt := 23) hx hb dX0_has_19 (by decide) ?_
        obtain rfl := Option.some.inj h
        exact hret _ _ _ _ _ rfl rfl hP hD hS dX0_has_23
def f_X0_all (N : Nat) (zsize : Int32) : Option (Int32) :=
    some ((1 <<< (zsize &&& 31)) - 1)
set_option maxHeartbeats 4000000 in
set_option maxRecDepth 100000 in
theorem c_X0_all (l : Launch) (D : va_G) (cI cC cH : ClassId) (a0 : Nat) (a_owners : Nat) (a_ranks : Nat) (a_ways : Nat) (N : Nat) (zsize : Int32) (y : Int32) (h : f_X0_all N zsize = some y) : CTi l yX0_all cX0_all 1 (some .int) 0 0 D (tyL cI cC cH) [.ref a0] [(a0, .inr (0, [.ref a_owners, .ref a_ranks, .ref a_ways, .int zsize]))] [(a0, .inr (0, [.ref a_owners, .ref a_ranks, .ref a_ways, .int zsize]))] y := by
  unfold f_X0_all at h
  refine ctI (by decide) (Nat.le_of_ble_eq_true rfl) ?_
  intro p e s m args below meth c A Q ls F hret hP hD hS hl
  have hx := F.1
  have hb := F.2.1
  have hown : s.vm.findClass RX0 = some m.cls := F.2.2.2.1
  have hts := F.2.2.2.2.1
  have hN := F.2.2.2.2.2.1
  have hK := F.2.2.2.2.2.2.1
  have hl : lv_has ls 1 [(0, .ref a0)] := hl
  refine lv_iconst (v := 1) hx hb dX0_all_0 (by decide) ?_
  refine lv_aload_n hx hb dX0_all_1 rfl (lv_at hl 0 rfl) ?_
  refine va_get (D := D) (ci := 0) (v := .int zsize) (C := RX0) (T := TX0) (N := 4) hx hb hts inG0 hown hK hP 0 rfl rfl 3 (by decide) (hts _ wd1_31) (fun _ h9 => h9) rfl dX0_all_2 ?_
  refine lv_ishl hx hb dX0_all_5 ?_
  refine lv_iconst (v := 1) hx hb dX0_all_6 (by decide) ?_
  refine lv_isub hx hb dX0_all_7 ?_
  obtain rfl := Option.some.inj h
  exact hret _ _ _ _ _ rfl hP hD hS dX0_all_8
def f_X0_hasAll (N : Nat) (x1 : Int32) (zsize : Int32) : Option (Int32) :=
    Option.bind (f_X0_all N zsize) (fun q1 => if (x1 &&& (q1 ^^^ (-1))) = 0 then (some 1) else (some 0))
set_option maxHeartbeats 4000000 in
set_option maxRecDepth 100000 in
theorem c_X0_hasAll (l : Launch) (D : va_G) (cI cC cH : ClassId) (a0 : Nat) (a_owners : Nat) (a_ranks : Nat) (a_ways : Nat) (N : Nat) (x1 : Int32) (zsize : Int32) (y : Int32) (h : f_X0_hasAll N x1 zsize = some y) : CTi l yX0_hasAll cX0_hasAll 2 (some .boolean) 1 20 D (tyL cI cC cH) [.ref a0, .int x1] [(a0, .inr (0, [.ref a_owners, .ref a_ranks, .ref a_ways, .int zsize]))] [(a0, .inr (0, [.ref a_owners, .ref a_ranks, .ref a_ways, .int zsize]))] y := by
  unfold f_X0_hasAll at h
  refine ctZ (by decide) (Nat.le_of_ble_eq_true rfl) ?_
  intro p e s m args below meth c A Q ls F hret hP hD hS hl
  have hx := F.1
  have hb := F.2.1
  have hown : s.vm.findClass RX0 = some m.cls := F.2.2.2.1
  have hts := F.2.2.2.2.1
  have hN := F.2.2.2.2.2.1
  have hK := F.2.2.2.2.2.2.1
  have hl : lv_has ls 2 [(0, .ref a0), (1, .int x1)] := hl
  refine lv_iload_n hx hb dX0_hasAll_0 rfl (lv_at hl 1 rfl) ?_
  refine lv_aload_n hx hb dX0_hasAll_1 rfl (lv_at hl 0 rfl) ?_
  obtain ⟨q1, hq2, h⟩ := bd h
  refine kvI (ws' := [(a0, .inr (0, [.ref a_owners, .ref a_ranks, .ref a_ways, .int zsize]))]) (wr := []) (As := []) F (c_X0_all l D cI cC cH a0 a_owners a_ranks a_ways N zsize q1 hq2) yfX0_all ⟨wd2_24, wd1_205, wd1_206⟩ hP hD hS [0] [] [0] rfl rfl (by decide) (by decide) (by decide) rfl (by decide) 0 0 rfl rfl rfl ⟨Nat.le_of_ble_eq_true rfl, Nat.le_of_ble_eq_true rfl, Nat.zero_le _, Nat.zero_le _⟩ rfl hl rfl (Nat.le_of_ble_eq_true rfl) dX0_hasAll_2 (fun H locs hP hD hS => ?_)
  refine lv_iconst (v := (-1)) hx hb dX0_hasAll_5 (by decide) ?_
  refine lv_ixor hx hb dX0_hasAll_6 ?_
  refine lv_iand hx hb dX0_hasAll_7 ?_
  refine lv_if_ne (tgt := 15) hx hb dX0_hasAll_8 (by decide) (fun c3 => ?_) (fun c3 => ?_)
  · have h := itF h c3
    refine lv_iconst (v := 0) hx hb dX0_hasAll_15 (by decide) ?_
    obtain rfl := Option.some.inj h
    exact hret _ _ _ _ _ rfl rfl hP hD hS dX0_hasAll_16
  · have h := itT h c3
    refine lv_iconst (v := 1) hx hb dX0_hasAll_11 (by decide) ?_
    refine lv_goto (tgt := 16) hx hb dX0_hasAll_12 (by decide) ?_
    obtain rfl := Option.some.inj h
    exact hret _ _ _ _ _ rfl rfl hP hD hS dX0_hasAll_16
def f_X0_waysTo_L4 (N : Nat) (x1_4 : Int32) (zways_4 : Nat → Int32) (zsize_4 : Int32) : Nat → Int32 → Int32 → Option (Int32)
  | 0, _, _ => none
  | n_4 + 1, x2_4, x3_4 =>
    if zsize_4 ≤ x3_4 then (some x2_4) else (chk (gi x3_4 12) (Option.bind (f_X3_contains N (zways_4 (Int32.toNatClampNeg x3_4)) x1_4) (fun q3 => Option.bind (α := Int32) (if q3 = 0 then (some (x2_4)) else (some (x2_4 ||| (1 <<< (x3_4 &&& 31))))) (fun q6 => f_X0_waysTo_L4 N x1_4 zways_4 zsize_4 n_4 q6 (x3_4 + 1)))))
def f_X0_waysTo (N : Nat) (x1 : Int32) (zways : Nat → Int32) (zsize : Int32) : Option (Int32) :=
    Option.bind (f_X0_waysTo_L4 N x1 zways zsize N 0 0) (fun q11 => some q11)
set_option maxHeartbeats 4000000 in
set_option maxRecDepth 100000 in
theorem c_X0_waysTo (l : Launch) (D : va_G) (cI cC cH : ClassId) (a0 : Nat) (a_owners : Nat) (a_ranks : Nat) (a_ways : Nat) (N : Nat) (x1 : Int32) (zways : Nat → Int32) (zsize : Int32) (y : Int32) (h : f_X0_waysTo N x1 zways zsize = some y) : CTi l yX0_waysTo cX0_waysTo 4 (some .int) 1 21 D (tyL cI cC cH) [.ref a0, .int x1] [(a0, .inr (0, [.ref a_owners, .ref a_ranks, .ref a_ways, .int zsize])), (a_ways, .inl (cI, 12, .inl zways))] [(a0, .inr (0, [.ref a_owners, .ref a_ranks, .ref a_ways, .int zsize])), (a_ways, .inl (cI, 12, .inl zways))] y := by
  unfold f_X0_waysTo at h
  refine ctI (by decide) (Nat.le_of_ble_eq_true rfl) ?_
  intro p e s m args below meth c A Q ls F hret hP hD hS hl
  have hx := F.1
  have hb := F.2.1
  have hown : s.vm.findClass RX0 = some m.cls := F.2.2.2.1
  have hts := F.2.2.2.2.1
  have hN := F.2.2.2.2.2.1
  have hK := F.2.2.2.2.2.2.1
  have hl : lv_has ls 4 [(0, .ref a0), (1, .int x1)] := hl
  refine lv_iconst (v := 0) hx hb dX0_waysTo_0 (by decide) ?_
  refine lv_istore_n (lv' := [(2, .int 0), (0, .ref a0), (1, .int x1)]) hx hb dX0_waysTo_1 rfl hl (by decide) rfl (fun ls hl => ?_)
  refine lv_iconst (v := 0) hx hb dX0_waysTo_2 (by decide) ?_
  refine lv_istore_n (lv' := [(3, .int 0), (2, .int 0), (0, .ref a0), (1, .int x1)]) hx hb dX0_waysTo_3 rfl hl (by decide) rfl (fun ls hl => ?_)
  have L_4 : ∀ (x1_4 : Int32) (zways_4 : Nat → Int32) (zsize_4 : Int32), ∀ (n_4 : Nat) (x2_4 : Int32) (x3_4 : Int32) (q10 : (Int32)), f_X0_waysTo_L4 N x1_4 zways_4 zsize_4 n_4 x2_4 x3_4 = some q10 → (∀ (ls : Array Slot) (H : Heap) (locs : List Loc), lv_has ls 4 [(2, .int q10)] → va_P D vwCl [(a0, .inr (0, [.ref a_owners, .ref a_ranks, .ref a_ways, .int zsize_4])), (a_ways, .inl (cI, 12, .inl zways_4))] H → va_D A [(a0, .inr (0, [.ref a_owners, .ref a_ranks, .ref a_ways, .int zsize_4])), (a_ways, .inl (cI, 12, .inl zways_4))] → va_S A s.heap H locs → W p l e (rmm 1 21) s m args below meth c H locs 0 0 Q (F0 m 37 ls [])) → ∀ (ls : Array Slot) (H : Heap) (locs : List Loc), lv_has ls 4 [(0, .ref a0), (1, .int x1_4), (2, .int x2_4), (3, .int x3_4)] → va_P D vwCl [(a0, .inr (0, [.ref a_owners, .ref a_ranks, .ref a_ways, .int zsize_4])), (a_ways, .inl (cI, 12, .inl zways_4))] H → va_D A [(a0, .inr (0, [.ref a_owners, .ref a_ranks, .ref a_ways, .int zsize_4])), (a_ways, .inl (cI, 12, .inl zways_4))] → va_S A s.heap H locs → W p l e (rmm 1 21) s m args below meth c H locs 0 0 Q (F0 m 4 ls []) := by
    intro x1_4 zways_4 zsize_4 n_4
    induction n_4 with
    | zero => intro x2_4 x3_4 q10 h; exact no_s h
    | succ n_4 ih_4 =>
      intro x2_4 x3_4 q10 h J_4 ls H locs hl hP hD hS
      rw [f_X0_waysTo_L4] at h
      refine lv_iload_n hx hb dX0_waysTo_4 rfl (lv_at hl 3 rfl) ?_
      refine lv_aload_n hx hb dX0_waysTo_5 rfl (lv_at hl 0 rfl) ?_
      refine va_get (D := D) (ci := 0) (v := .int zsize_4) (C := RX0) (T := TX0) (N := 4) hx hb hts inG0 hown hK hP 0 rfl rfl 3 (by decide) (hts _ wd1_31) (fun _ h9 => h9) rfl dX0_waysTo_6 ?_
      refine lv_icmp_ge (tgt := 37) hx hb dX0_waysTo_9 (by decide) (fun c1 => ?_) (fun c1 => ?_)
      · have h := itT h c1
        obtain rfl := Option.some.inj h
        exact J_4 _ _ _ (lv_sub hl [2] rfl) hP hD hS
      · have h := itF h c1
        refine lv_aload_n hx hb dX0_waysTo_12 rfl (lv_at hl 0 rfl) ?_
        refine va_get (D := D) (ci := 0) (v := .ref a_ways) (C := RX0) (T := TX0) (N := 4) hx hb hts inG0 hown hK hP 0 rfl rfl 2 (by decide) (hts _ wd1_27) (fun _ h9 => h9) rfl dX0_waysTo_13 ?_
        refine lv_iload_n hx hb dX0_waysTo_16 rfl (lv_at hl 3 rfl) ?_
        obtain ⟨g2, h⟩ := chk_s h
        refine va_iald hx hb hK hP 1 0 rfl rfl (gi_in g2) dX0_waysTo_17 ?_
        refine lv_iload_n hx hb dX0_waysTo_18 rfl (lv_at hl 1 rfl) ?_
        obtain ⟨q3, hq4, h⟩ := bd h
        refine knI (As := [.int (zways_4 (Int32.toNatClampNeg x3_4)), .int x1_4]) F (c_X3_contains l D cI cC cH  N (zways_4 (Int32.toNatClampNeg x3_4)) x1_4 q3 hq4) yfX3_contains wd1_168 hN.1 hP hD hS ⟨Nat.le_of_ble_eq_true rfl, Nat.le_of_ble_eq_true rfl, Nat.zero_le _, Nat.zero_le _⟩ rfl hl rfl (Nat.le_of_ble_eq_true rfl) dX0_waysTo_19 (fun H locs hP hD hS => ?_)
        obtain ⟨q6, hb9, h⟩ := bd h
        have J7 : ∀ (ls : Array Slot) (H : Heap) (locs : List Loc), lv_has ls 4 [(0, .ref a0), (1, .int x1_4), (2, .int q6), (3, .int x3_4)] → va_P D vwCl [(a0, .inr (0, [.ref a_owners, .ref a_ranks, .ref a_ways, .int zsize_4])), (a_ways, .inl (cI, 12, .inl zways_4))] H → va_D A [(a0, .inr (0, [.ref a_owners, .ref a_ranks, .ref a_ways, .int zsize_4])), (a_ways, .inl (cI, 12, .inl zways_4))] → va_S A s.heap H locs → W p l e (rmm 1 21) s m args below meth c H locs 0 0 Q (F0 m 31 ls []) := by
          intro ls H locs hl hP hD hS
          refine lv_iinc (v := x3_4 + 1) (lv' := [(3, .int (x3_4 + 1)), (0, .ref a0), (1, .int x1_4), (2, .int q6)]) hx hb dX0_waysTo_31 hl (k := 3) rfl rfl (by decide) rfl (fun ls hl => ?_)
          refine lv_goto (tgt := 4) hx hb dX0_waysTo_34 (by decide) ?_
          exact ih_4 q6 (x3_4 + 1) _ h J_4 _ _ _ (lv_sub hl [1, 2, 3, 0] rfl) hP hD hS
        clear h
        have h := hb9
        clear hb9
        refine lv_if_eq (tgt := 31) hx hb dX0_waysTo_22 (by decide) (fun c5 => ?_) (fun c5 => ?_)
        · have h := itT h c5
          obtain rfl := Option.some.inj h
          exact J7 _ _ _ (lv_sub hl [0, 1, 2, 3] rfl) hP hD hS
        · have h := itF h c5
          refine lv_iload_n hx hb dX0_waysTo_25 rfl (lv_at hl 2 rfl) ?_
          refine lv_iconst (v := 1) hx hb dX0_waysTo_26 (by decide) ?_
          refine lv_iload_n hx hb dX0_waysTo_27 rfl (lv_at hl 3 rfl) ?_
          refine lv_ishl hx hb dX0_waysTo_28 ?_
          refine lv_ior hx hb dX0_waysTo_29 ?_
          refine lv_istore_n (lv' := [(2, .int (x2_4 ||| (1 <<< (x3_4 &&& 31)))), (0, .ref a0), (1, .int x1_4), (3, .int x3_4)]) hx hb dX0_waysTo_30 rfl hl (by decide) rfl (fun ls hl => ?_)
          obtain rfl := Option.some.inj h
          exact J7 _ _ _ (lv_sub hl [1, 2, 0, 3] rfl) hP hD hS
  obtain ⟨q11, hb12, h⟩ := bd h
  refine L_4 x1 zways zsize N 0 0 q11 hb12 ?_ _ _ _ (lv_sub hl [2, 3, 1, 0] rfl) hP hD hS
  intro ls H locs hl hP hD hS
  refine lv_iload_n hx hb dX0_waysTo_37 rfl (lv_at hl 0 rfl) ?_
  obtain rfl := Option.some.inj h
  exact hret _ _ _ _ _ rfl hP hD hS dX0_waysTo_38
def f_X0_append (N : Nat) (x1 : Int32) (x2 : Int32) (zowners : Nat → Int32) (zranks : Nat → Int32) (zways : Nat → Int32) (zsize : Int32) : Option ((Nat → Int32) × (Nat → Int32) × (Nat → Int32) × Int32) :=
    if 12 ≤ zsize then (some (zowners, zranks, zways, zsize)) else (chk (gi zsize 12) (chk (gi zsize 12) (chk (gi zsize 12) (some (upd zowners (Int32.toNatClampNeg zsize) x1, upd zranks (Int32.toNatClampNeg zsize) x2, upd zways (Int32.toNatClampNeg zsize) 0, zsize + 1)))))
set_option maxHeartbeats 4000000 in
set_option maxRecDepth 100000 in
theorem c_X0_append (l : Launch) (D : va_G) (cI cC cH : ClassId) (a0 : Nat) (a_owners : Nat) (a_ranks : Nat) (a_ways : Nat) (N : Nat) (x1 : Int32) (x2 : Int32) (zowners : Nat → Int32) (zranks : Nat → Int32) (zways : Nat → Int32) (zsize : Int32) (y : (Nat → Int32) × (Nat → Int32) × (Nat → Int32) × Int32) (h : f_X0_append N x1 x2 zowners zranks zways zsize = some y) : CTv l yX0_append cX0_append 3 none 0 0 D (tyL cI cC cH) [.ref a0, .int x1, .int x2] [(a0, .inr (0, [.ref a_owners, .ref a_ranks, .ref a_ways, .int zsize])), (a_owners, .inl (cI, 12, .inl zowners)), (a_ranks, .inl (cI, 12, .inl zranks)), (a_ways, .inl (cI, 12, .inl zways))] [(a0, .inr (0, [.ref a_owners, .ref a_ranks, .ref a_ways, .int y.2.2.2])), (a_owners, .inl (cI, 12, .inl y.1)), (a_ranks, .inl (cI, 12, .inl y.2.1)), (a_ways, .inl (cI, 12, .inl y.2.2.1))] := by
  unfold f_X0_append at h
  refine ctV (by decide) (Nat.le_of_ble_eq_true rfl) ?_
  intro p e s m args below meth c A Q ls F hret hP hD hS hl
  have hx := F.1
  have hb := F.2.1
  have hown : s.vm.findClass RX0 = some m.cls := F.2.2.2.1
  have hts := F.2.2.2.2.1
  have hN := F.2.2.2.2.2.1
  have hK := F.2.2.2.2.2.2.1
  have hl : lv_has ls 3 [(0, .ref a0), (1, .int x1), (2, .int x2)] := hl
  refine lv_aload_n hx hb dX0_append_0 rfl (lv_at hl 0 rfl) ?_
  refine va_get (D := D) (ci := 0) (v := .int zsize) (C := RX0) (T := TX0) (N := 4) hx hb hts inG0 hown hK hP 0 rfl rfl 3 (by decide) (hts _ wd1_31) (fun _ h9 => h9) rfl dX0_append_1 ?_
  refine lv_bipush (v := 12) hx hb dX0_append_4 (by decide) ?_
  refine lv_icmp_ge (tgt := 49) hx hb dX0_append_6 (by decide) (fun c1 => ?_) (fun c1 => ?_)
  · have h := itT h c1
    obtain rfl := Option.some.inj h
    exact hret _ _ _ _ hP hD hS dX0_append_49
  · have h := itF h c1
    refine lv_aload_n hx hb dX0_append_9 rfl (lv_at hl 0 rfl) ?_
    refine va_get (D := D) (ci := 0) (v := .ref a_owners) (C := RX0) (T := TX0) (N := 4) hx hb hts inG0 hown hK hP 0 rfl rfl 0 (by decide) (hts _ wd1_22) (fun _ h9 => h9) rfl dX0_append_10 ?_
    refine lv_aload_n hx hb dX0_append_13 rfl (lv_at hl 0 rfl) ?_
    refine va_get (D := D) (ci := 0) (v := .int zsize) (C := RX0) (T := TX0) (N := 4) hx hb hts inG0 hown hK hP 0 rfl rfl 3 (by decide) (hts _ wd1_31) (fun _ h9 => h9) rfl dX0_append_14 ?_
    refine lv_iload_n hx hb dX0_append_17 rfl (lv_at hl 1 rfl) ?_
    obtain ⟨g2, h⟩ := chk_s h
    refine va_iast hx hb hK hP hD hS 1 0 rfl rfl (gi_in g2) dX0_append_18 (fun H locs hP hD hS => ?_)
    have hP : va_P D vwCl [(a0, .inr (0, [.ref a_owners, .ref a_ranks, .ref a_ways, .int zsize])), (a_owners, .inl (cI, 12, .inl (upd zowners (Int32.toNatClampNeg zsize) x1))), (a_ranks, .inl (cI, 12, .inl zranks)), (a_ways, .inl (cI, 12, .inl zways))] H := hP
    have hD : va_D A [(a0, .inr (0, [.ref a_owners, .ref a_ranks, .ref a_ways, .int zsize])), (a_owners, .inl (cI, 12, .inl (upd zowners (Int32.toNatClampNeg zsize) x1))), (a_ranks, .inl (cI, 12, .inl zranks)), (a_ways, .inl (cI, 12, .inl zways))] := hD
    refine lv_aload_n hx hb dX0_append_19 rfl (lv_at hl 0 rfl) ?_
    refine va_get (D := D) (ci := 0) (v := .ref a_ranks) (C := RX0) (T := TX0) (N := 4) hx hb hts inG0 hown hK hP 0 rfl rfl 1 (by decide) (hts _ wd1_25) (fun _ h9 => h9) rfl dX0_append_20 ?_
    refine lv_aload_n hx hb dX0_append_23 rfl (lv_at hl 0 rfl) ?_
    refine va_get (D := D) (ci := 0) (v := .int zsize) (C := RX0) (T := TX0) (N := 4) hx hb hts inG0 hown hK hP 0 rfl rfl 3 (by decide) (hts _ wd1_31) (fun _ h9 => h9) rfl dX0_append_24 ?_
    refine lv_iload_n hx hb dX0_append_27 rfl (lv_at hl 2 rfl) ?_
    obtain ⟨g3, h⟩ := chk_s h
    refine va_iast hx hb hK hP hD hS 2 0 rfl rfl (gi_in g3) dX0_append_28 (fun H locs hP hD hS => ?_)
    have hP : va_P D vwCl [(a0, .inr (0, [.ref a_owners, .ref a_ranks, .ref a_ways, .int zsize])), (a_owners, .inl (cI, 12, .inl (upd zowners (Int32.toNatClampNeg zsize) x1))), (a_ranks, .inl (cI, 12, .inl (upd zranks (Int32.toNatClampNeg zsize) x2))), (a_ways, .inl (cI, 12, .inl zways))] H := hP
    have hD : va_D A [(a0, .inr (0, [.ref a_owners, .ref a_ranks, .ref a_ways, .int zsize])), (a_owners, .inl (cI, 12, .inl (upd zowners (Int32.toNatClampNeg zsize) x1))), (a_ranks, .inl (cI, 12, .inl (upd zranks (Int32.toNatClampNeg zsize) x2))), (a_ways, .inl (cI, 12, .inl zways))] := hD
    refine lv_aload_n hx hb dX0_append_29 rfl (lv_at hl 0 rfl) ?_
    refine va_get (D := D) (ci := 0) (v := .ref a_ways) (C := RX0) (T := TX0) (N := 4) hx hb hts inG0 hown hK hP 0 rfl rfl 2 (by decide) (hts _ wd1_27) (fun _ h9 => h9) rfl dX0_append_30 ?_
    refine lv_aload_n hx hb dX0_append_33 rfl (lv_at hl 0 rfl) ?_
    refine va_get (D := D) (ci := 0) (v := .int zsize) (C := RX0) (T := TX0) (N := 4) hx hb hts inG0 hown hK hP 0 rfl rfl 3 (by decide) (hts _ wd1_31) (fun _ h9 => h9) rfl dX0_append_34 ?_
    refine lv_iconst (v := 0) hx hb dX0_append_37 (by decide) ?_
    obtain ⟨g4, h⟩ := chk_s h
    refine va_iast hx hb hK hP hD hS 3 0 rfl rfl (gi_in g4) dX0_append_38 (fun H locs hP hD hS => ?_)
    have hP : va_P D vwCl [(a0, .inr (0, [.ref a_owners, .ref a_ranks, .ref a_ways, .int zsize])), (a_owners, .inl (cI, 12, .inl (upd zowners (Int32.toNatClampNeg zsize) x1))), (a_ranks, .inl (cI, 12, .inl (upd zranks (Int32.toNatClampNeg zsize) x2))), (a_ways, .inl (cI, 12, .inl (upd zways (Int32.toNatClampNeg zsize) 0)))] H := hP
    have hD : va_D A [(a0, .inr (0, [.ref a_owners, .ref a_ranks, .ref a_ways, .int zsize])), (a_owners, .inl (cI, 12, .inl (upd zowners (Int32.toNatClampNeg zsize) x1))), (a_ranks, .inl (cI, 12, .inl (upd zranks (Int32.toNatClampNeg zsize) x2))), (a_ways, .inl (cI, 12, .inl (upd zways (Int32.toNatClampNeg zsize) 0)))] := hD
    refine lv_aload_n hx hb dX0_append_39 rfl (lv_at hl 0 rfl) ?_
    refine lv_dup hx hb dX0_append_40 rfl ?_
    refine va_get (D := D) (ci := 0) (v := .int zsize) (C := RX0) (T := TX0) (N := 4) hx hb hts inG0 hown hK hP 0 rfl rfl 3 (by decide) (hts _ wd1_31) (fun _ h9 => h9) rfl dX0_append_41 ?_
    refine lv_iconst (v := 1) hx hb dX0_append_44 (by decide) ?_
    refine lv_iadd hx hb dX0_append_45 ?_
    refine va_put (D := D) (ci := 0) (v := .int (zsize + 1)) (ty := .int) (C := RX0) (T := TX0) (N := 4) hx hb hts inG0 tyX0 tyX0_ok nmX0 hown hK hP hD hS 0 rfl rfl 3 (by decide) (hts _ wd1_31) (fun _ h9 => h9) rfl (by decide +kernel) rfl rfl (Nat.le_of_ble_eq_true rfl) dX0_append_46 (fun H locs hP hD hS => ?_)
    have hP : va_P D vwCl [(a0, .inr (0, [.ref a_owners, .ref a_ranks, .ref a_ways, .int (zsize + 1)])), (a_owners, .inl (cI, 12, .inl (upd zowners (Int32.toNatClampNeg zsize) x1))), (a_ranks, .inl (cI, 12, .inl (upd zranks (Int32.toNatClampNeg zsize) x2))), (a_ways, .inl (cI, 12, .inl (upd zways (Int32.toNatClampNeg zsize) 0)))] H := hP
    have hD : va_D A [(a0, .inr (0, [.ref a_owners, .ref a_ranks, .ref a_ways, .int (zsize + 1)])), (a_owners, .inl (cI, 12, .inl (upd zowners (Int32.toNatClampNeg zsize) x1))), (a_ranks, .inl (cI, 12, .inl (upd zranks (Int32.toNatClampNeg zsize) x2))), (a_ways, .inl (cI, 12, .inl (upd zways (Int32.toNatClampNeg zsize) 0)))] := hD
    obtain rfl := Option.some.inj h
    exact hret _ _ _ _ hP hD hS dX0_append_49
def f_X0_remove_L2 (N : Nat) (zsize_2 : Int32) : Nat → Int32 → (Nat → Int32) → (Nat → Int32) → (Nat → Int32) → Option ((Nat → Int32) × (Nat → Int32) × (Nat → Int32))
  | 0, _, _, _, _ => none
  | n_2 + 1, x2_2, zowners_2, zranks_2, zways_2 =>
    if zsize_2 ≤ (x2_2 + 1) then (some (zowners_2, zranks_2, zways_2)) else (chk (gi (x2_2 + 1) 12) (chk (gi x2_2 12) (chk (gi (x2_2 + 1) 12) (chk (gi x2_2 12) (chk (gi (x2_2 + 1) 12) (chk (gi x2_2 12) (f_X0_remove_L2 N zsize_2 n_2 (x2_2 + 1) (upd zowners_2 (Int32.toNatClampNeg x2_2) (zowners_2 (Int32.toNatClampNeg (x2_2 + 1)))) (upd zranks_2 (Int32.toNatClampNeg x2_2) (zranks_2 (Int32.toNatClampNeg (x2_2 + 1)))) (upd zways_2 (Int32.toNatClampNeg x2_2) (zways_2 (Int32.toNatClampNeg (x2_2 + 1)))))))))))
def f_X0_remove_L78 (N : Nat) (x2_78 : Int32) (zsize_78 : Int32) : Nat → Int32 → (Nat → Int32) → Option ((Nat → Int32))
  | 0, _, _ => none
  | n_78 + 1, x3_78, zways_78 =>
    if zsize_78 ≤ x3_78 then (some zways_78) else (chk (gi x3_78 12) (chk (gi x3_78 12) (chk (gi x3_78 12) (f_X0_remove_L78 N x2_78 zsize_78 n_78 (x3_78 + 1) (upd zways_78 (Int32.toNatClampNeg x3_78) (((zways_78 (Int32.toNatClampNeg x3_78)) &&& x2_78) ||| (((zways_78 (Int32.toNatClampNeg x3_78)) >>> (1 &&& 31)) &&& (x2_78 ^^^ (-1)))))))))
def f_X0_remove (N : Nat) (x1 : Int32) (zowners : Nat → Int32) (zranks : Nat → Int32) (zways : Nat → Int32) (zsize : Int32) : Option ((Nat → Int32) × (Nat → Int32) × (Nat → Int32) × Int32) :=
    Option.bind (f_X0_remove_L2 N zsize N x1 zowners zranks zways) (fun q9 => Option.bind (f_X0_remove_L78 N ((1 <<< (x1 &&& 31)) - 1) (zsize - 1) N 0 q9.2.2) (fun q15 => some (q9.1, q9.2.1, q15, zsize - 1)))
set_option maxHeartbeats 4000000 in
set_option maxRecDepth 100000 in
theorem c_X0_remove (l : Launch) (D : va_G) (cI cC cH : ClassId) (a0 : Nat) (a_owners : Nat) (a_ranks : Nat) (a_ways : Nat) (N : Nat) (x1 : Int32) (zowners : Nat → Int32) (zranks : Nat → Int32) (zways : Nat → Int32) (zsize : Int32) (y : (Nat → Int32) × (Nat → Int32) × (Nat → Int32) × Int32) (h : f_X0_remove N x1 zowners zranks zways zsize = some y) : CTv l yX0_remove cX0_remove 4 none 0 0 D (tyL cI cC cH) [.ref a0, .int x1] [(a0, .inr (0, [.ref a_owners, .ref a_ranks, .ref a_ways, .int zsize])), (a_owners, .inl (cI, 12, .inl zowners)), (a_ranks, .inl (cI, 12, .inl zranks)), (a_ways, .inl (cI, 12, .inl zways))] [(a0, .inr (0, [.ref a_owners, .ref a_ranks, .ref a_ways, .int y.2.2.2])), (a_owners, .inl (cI, 12, .inl y.1)), (a_ranks, .inl (cI, 12, .inl y.2.1)), (a_ways, .inl (cI, 12, .inl y.2.2.1))] := by
  unfold f_X0_remove at h
  refine ctV (by decide) (Nat.le_of_ble_eq_true rfl) ?_
  intro p e s m args below meth c A Q ls F hret hP hD hS hl
  have hx := F.1
  have hb := F.2.1
  have hown : s.vm.findClass RX0 = some m.cls := F.2.2.2.1
  have hts := F.2.2.2.2.1
  have hN := F.2.2.2.2.2.1
  have hK := F.2.2.2.2.2.2.1
  have hl : lv_has ls 4 [(0, .ref a0), (1, .int x1)] := hl
  refine lv_iload_n hx hb dX0_remove_0 rfl (lv_at hl 1 rfl) ?_
  refine lv_istore_n (lv' := [(2, .int x1), (0, .ref a0), (1, .int x1)]) hx hb dX0_remove_1 rfl hl (by decide) rfl (fun ls hl => ?_)
  have L_2 : ∀ (x1_2 : Int32) (zsize_2 : Int32), ∀ (n_2 : Nat) (x2_2 : Int32) (zowners_2 : Nat → Int32) (zranks_2 : Nat → Int32) (zways_2 : Nat → Int32) (q8 : ((Nat → Int32) × (Nat → Int32) × (Nat → Int32))), f_X0_remove_L2 N zsize_2 n_2 x2_2 zowners_2 zranks_2 zways_2 = some q8 → (∀ (ls : Array Slot) (H : Heap) (locs : List Loc), lv_has ls 4 [(0, .ref a0), (1, .int x1_2)] → va_P D vwCl [(a0, .inr (0, [.ref a_owners, .ref a_ranks, .ref a_ways, .int zsize_2])), (a_owners, .inl (cI, 12, .inl q8.1)), (a_ranks, .inl (cI, 12, .inl q8.2.1)), (a_ways, .inl (cI, 12, .inl q8.2.2))] H → va_D A [(a0, .inr (0, [.ref a_owners, .ref a_ranks, .ref a_ways, .int zsize_2])), (a_owners, .inl (cI, 12, .inl q8.1)), (a_ranks, .inl (cI, 12, .inl q8.2.1)), (a_ways, .inl (cI, 12, .inl q8.2.2))] → va_S A s.heap H locs → W p l e (rmm 0 0) s m args below meth c H locs 0 0 Q (F0 m 60 ls [])) → ∀ (ls : Array Slot) (H : Heap) (locs : List Loc), lv_has ls 4 [(0, .ref a0), (1, .int x1_2), (2, .int x2_2)] → va_P D vwCl [(a0, .inr (0, [.ref a_owners, .ref a_ranks, .ref a_ways, .int zsize_2])), (a_owners, .inl (cI, 12, .inl zowners_2)), (a_ranks, .inl (cI, 12, .inl zranks_2)), (a_ways, .inl (cI, 12, .inl zways_2))] H → va_D A [(a0, .inr (0, [.ref a_owners, .ref a_ranks, .ref a_ways, .int zsize_2])), (a_owners, .inl (cI, 12, .inl zowners_2)), (a_ranks, .inl (cI, 12, .inl zranks_2)), (a_ways, .inl (cI, 12, .inl zways_2))] → va_S A s.heap H locs → W p l e (rmm 0 0) s m args below meth c H locs 0 0 Q (F0 m 2 ls []) := by
    intro x1_2 zsize_2 n_2
    induction n_2 with
    | zero => intro x2_2 zowners_2 zranks_2 zways_2 q8 h; exact no_s h
    | succ n_2 ih_2 =>
      intro x2_2 zowners_2 zranks_2 zways_2 q8 h J_2 ls H locs hl hP hD hS
      rw [f_X0_remove_L2] at h
      refine lv_iload_n hx hb dX0_remove_2 rfl (lv_at hl 2 rfl) ?_
      refine lv_iconst (v := 1) hx hb dX0_remove_3 (by decide) ?_
      refine lv_iadd hx hb dX0_remove_4 ?_
      refine lv_aload_n hx hb dX0_remove_5 rfl (lv_at hl 0 rfl) ?_
      refine va_get (D := D) (ci := 0) (v := .int zsize_2) (C := RX0) (T := TX0) (N := 4) hx hb hts inG0 hown hK hP 0 rfl rfl 3 (by decide) (hts _ wd1_31) (fun _ h9 => h9) rfl dX0_remove_6 ?_
      refine lv_icmp_ge (tgt := 60) hx hb dX0_remove_9 (by decide) (fun c1 => ?_) (fun c1 => ?_)
      · have h := itT h c1
        obtain rfl := Option.some.inj h
        exact J_2 _ _ _ (lv_sub hl [0, 1] rfl) hP hD hS
      · have h := itF h c1
        refine lv_aload_n hx hb dX0_remove_12 rfl (lv_at hl 0 rfl) ?_
        refine va_get (D := D) (ci := 0) (v := .ref a_owners) (C := RX0) (T := TX0) (N := 4) hx hb hts inG0 hown hK hP 0 rfl rfl 0 (by decide) (hts _ wd1_22) (fun _ h9 => h9) rfl dX0_remove_13 ?_
        refine lv_iload_n hx hb dX0_remove_16 rfl (lv_at hl 2 rfl) ?_
        refine lv_aload_n hx hb dX0_remove_17 rfl (lv_at hl 0 rfl) ?_
        refine va_get (D := D) (ci := 0) (v := .ref a_owners) (C := RX0) (T := TX0) (N := 4) hx hb hts inG0 hown hK hP 0 rfl rfl 0 (by decide) (hts _ wd1_22) (fun _ h9 => h9) rfl dX0_remove_18 ?_
        refine lv_iload_n hx hb dX0_remove_21 rfl (lv_at hl 2 rfl) ?_
        refine lv_iconst (v := 1) hx hb dX0_remove_22 (by decide) ?_
        refine lv_iadd hx hb dX0_remove_23 ?_
        obtain ⟨g2, h⟩ := chk_s h
        refine va_iald hx hb hK hP 1 0 rfl rfl (gi_in g2) dX0_remove_24 ?_
        obtain ⟨g3, h⟩ := chk_s h
        refine va_iast hx hb hK hP hD hS 1 0 rfl rfl (gi_in g3) dX0_remove_25 (fun H locs hP hD hS => ?_)
        have hP : va_P D vwCl [(a0, .inr (0, [.ref a_owners, .ref a_ranks, .ref a_ways, .int zsize_2])), (a_owners, .inl (cI, 12, .inl (upd zowners_2 (Int32.toNatClampNeg x2_2) (zowners_2 (Int32.toNatClampNeg (x2_2 + 1)))))), (a_ranks, .inl (cI, 12, .inl zranks_2)), (a_ways, .inl (cI, 12, .inl zways_2))] H := hP
        have hD : va_D A [(a0, .inr (0, [.ref a_owners, .ref a_ranks, .ref a_ways, .int zsize_2])), (a_owners, .inl (cI, 12, .inl (upd zowners_2 (Int32.toNatClampNeg x2_2) (zowners_2 (Int32.toNatClampNeg (x2_2 + 1)))))), (a_ranks, .inl (cI, 12, .inl zranks_2)), (a_ways, .inl (cI, 12, .inl zways_2))] := hD
        refine lv_aload_n hx hb dX0_remove_26 rfl (lv_at hl 0 rfl) ?_
        refine va_get (D := D) (ci := 0) (v := .ref a_ranks) (C := RX0) (T := TX0) (N := 4) hx hb hts inG0 hown hK hP 0 rfl rfl 1 (by decide) (hts _ wd1_25) (fun _ h9 => h9) rfl dX0_remove_27 ?_
        refine lv_iload_n hx hb dX0_remove_30 rfl (lv_at hl 2 rfl) ?_
        refine lv_aload_n hx hb dX0_remove_31 rfl (lv_at hl 0 rfl) ?_
        refine va_get (D := D) (ci := 0) (v := .ref a_ranks) (C := RX0) (T := TX0) (N := 4) hx hb hts inG0 hown hK hP 0 rfl rfl 1 (by decide) (hts _ wd1_25) (fun _ h9 => h9) rfl dX0_remove_32 ?_
        refine lv_iload_n hx hb dX0_remove_35 rfl (lv_at hl 2 rfl) ?_
        refine lv_iconst (v := 1) hx hb dX0_remove_36 (by decide) ?_
        refine lv_iadd hx hb dX0_remove_37 ?_
        obtain ⟨g4, h⟩ := chk_s h
        refine va_iald hx hb hK hP 2 0 rfl rfl (gi_in g4) dX0_remove_38 ?_
        obtain ⟨g5, h⟩ := chk_s h
        refine va_iast hx hb hK hP hD hS 2 0 rfl rfl (gi_in g5) dX0_remove_39 (fun H locs hP hD hS => ?_)
        have hP : va_P D vwCl [(a0, .inr (0, [.ref a_owners, .ref a_ranks, .ref a_ways, .int zsize_2])), (a_owners, .inl (cI, 12, .inl (upd zowners_2 (Int32.toNatClampNeg x2_2) (zowners_2 (Int32.toNatClampNeg (x2_2 + 1)))))), (a_ranks, .inl (cI, 12, .inl (upd zranks_2 (Int32.toNatClampNeg x2_2) (zranks_2 (Int32.toNatClampNeg (x2_2 + 1)))))), (a_ways, .inl (cI, 12, .inl zways_2))] H := hP
        have hD : va_D A [(a0, .inr (0, [.ref a_owners, .ref a_ranks, .ref a_ways, .int zsize_2])), (a_owners, .inl (cI, 12, .inl (upd zowners_2 (Int32.toNatClampNeg x2_2) (zowners_2 (Int32.toNatClampNeg (x2_2 + 1)))))), (a_ranks, .inl (cI, 12, .inl (upd zranks_2 (Int32.toNatClampNeg x2_2) (zranks_2 (Int32.toNatClampNeg (x2_2 + 1)))))), (a_ways, .inl (cI, 12, .inl zways_2))] := hD
        refine lv_aload_n hx hb dX0_remove_40 rfl (lv_at hl 0 rfl) ?_
        refine va_get (D := D) (ci := 0) (v := .ref a_ways) (C := RX0) (T := TX0) (N := 4) hx hb hts inG0 hown hK hP 0 rfl rfl 2 (by decide) (hts _ wd1_27) (fun _ h9 => h9) rfl dX0_remove_41 ?_
        refine lv_iload_n hx hb dX0_remove_44 rfl (lv_at hl 2 rfl) ?_
        refine lv_aload_n hx hb dX0_remove_45 rfl (lv_at hl 0 rfl) ?_
        refine va_get (D := D) (ci := 0) (v := .ref a_ways) (C := RX0) (T := TX0) (N := 4) hx hb hts inG0 hown hK hP 0 rfl rfl 2 (by decide) (hts _ wd1_27) (fun _ h9 => h9) rfl dX0_remove_46 ?_
        refine lv_iload_n hx hb dX0_remove_49 rfl (lv_at hl 2 rfl) ?_
        refine lv_iconst (v := 1) hx hb dX0_remove_50 (by decide) ?_
        refine lv_iadd hx hb dX0_remove_51 ?_
        obtain ⟨g6, h⟩ := chk_s h
        refine va_iald hx hb hK hP 3 0 rfl rfl (gi_in g6) dX0_remove_52 ?_
        obtain ⟨g7, h⟩ := chk_s h
        refine va_iast hx hb hK hP hD hS 3 0 rfl rfl (gi_in g7) dX0_remove_53 (fun H locs hP hD hS => ?_)
        have hP : va_P D vwCl [(a0, .inr (0, [.ref a_owners, .ref a_ranks, .ref a_ways, .int zsize_2])), (a_owners, .inl (cI, 12, .inl (upd zowners_2 (Int32.toNatClampNeg x2_2) (zowners_2 (Int32.toNatClampNeg (x2_2 + 1)))))), (a_ranks, .inl (cI, 12, .inl (upd zranks_2 (Int32.toNatClampNeg x2_2) (zranks_2 (Int32.toNatClampNeg (x2_2 + 1)))))), (a_ways, .inl (cI, 12, .inl (upd zways_2 (Int32.toNatClampNeg x2_2) (zways_2 (Int32.toNatClampNeg (x2_2 + 1))))))] H := hP
        have hD : va_D A [(a0, .inr (0, [.ref a_owners, .ref a_ranks, .ref a_ways, .int zsize_2])), (a_owners, .inl (cI, 12, .inl (upd zowners_2 (Int32.toNatClampNeg x2_2) (zowners_2 (Int32.toNatClampNeg (x2_2 + 1)))))), (a_ranks, .inl (cI, 12, .inl (upd zranks_2 (Int32.toNatClampNeg x2_2) (zranks_2 (Int32.toNatClampNeg (x2_2 + 1)))))), (a_ways, .inl (cI, 12, .inl (upd zways_2 (Int32.toNatClampNeg x2_2) (zways_2 (Int32.toNatClampNeg (x2_2 + 1))))))] := hD
        refine lv_iinc (v := x2_2 + 1) (lv' := [(2, .int (x2_2 + 1)), (0, .ref a0), (1, .int x1_2)]) hx hb dX0_remove_54 hl (k := 2) rfl rfl (by decide) rfl (fun ls hl => ?_)
        refine lv_goto (tgt := 2) hx hb dX0_remove_57 (by decide) ?_
        exact ih_2 (x2_2 + 1) (upd zowners_2 (Int32.toNatClampNeg x2_2) (zowners_2 (Int32.toNatClampNeg (x2_2 + 1)))) (upd zranks_2 (Int32.toNatClampNeg x2_2) (zranks_2 (Int32.toNatClampNeg (x2_2 + 1)))) (upd zways_2 (Int32.toNatClampNeg x2_2) (zways_2 (Int32.toNatClampNeg (x2_2 + 1)))) _ h J_2 _ _ _ (lv_sub hl [1, 2, 0] rfl) hP hD hS
  obtain ⟨q9, hb17, h⟩ := bd h
  refine L_2 x1 zsize N x1 zowners zranks zways q9 hb17 ?_ _ _ _ (lv_sub hl [1, 2, 0] rfl) hP hD hS
  intro ls H locs hl hP hD hS
  refine lv_aload_n hx hb dX0_remove_60 rfl (lv_at hl 0 rfl) ?_
  refine lv_dup hx hb dX0_remove_61 rfl ?_
  refine va_get (D := D) (ci := 0) (v := .int zsize) (C := RX0) (T := TX0) (N := 4) hx hb hts inG0 hown hK hP 0 rfl rfl 3 (by decide) (hts _ wd1_31) (fun _ h9 => h9) rfl dX0_remove_62 ?_
  refine lv_iconst (v := 1) hx hb dX0_remove_65 (by decide) ?_
  refine lv_isub hx hb dX0_remove_66 ?_
  refine va_put (D := D) (ci := 0) (v := .int (zsize - 1)) (ty := .int) (C := RX0) (T := TX0) (N := 4) hx hb hts inG0 tyX0 tyX0_ok nmX0 hown hK hP hD hS 0 rfl rfl 3 (by decide) (hts _ wd1_31) (fun _ h9 => h9) rfl (by decide +kernel) rfl rfl (Nat.le_of_ble_eq_true rfl) dX0_remove_67 (fun H locs hP hD hS => ?_)
  have hP : va_P D vwCl [(a0, .inr (0, [.ref a_owners, .ref a_ranks, .ref a_ways, .int (zsize - 1)])), (a_owners, .inl (cI, 12, .inl q9.1)), (a_ranks, .inl (cI, 12, .inl q9.2.1)), (a_ways, .inl (cI, 12, .inl q9.2.2))] H := hP
  have hD : va_D A [(a0, .inr (0, [.ref a_owners, .ref a_ranks, .ref a_ways, .int (zsize - 1)])), (a_owners, .inl (cI, 12, .inl q9.1)), (a_ranks, .inl (cI, 12, .inl q9.2.1)), (a_ways, .inl (cI, 12, .inl q9.2.2))] := hD
  refine lv_iconst (v := 1) hx hb dX0_remove_70 (by decide) ?_
  refine lv_iload_n hx hb dX0_remove_71 rfl (lv_at hl 1 rfl) ?_
  refine lv_ishl hx hb dX0_remove_72 ?_
  refine lv_iconst (v := 1) hx hb dX0_remove_73 (by decide) ?_
  refine lv_isub hx hb dX0_remove_74 ?_
  refine lv_istore_n (lv' := [(2, .int ((1 <<< (x1 &&& 31)) - 1)), (0, .ref a0), (1, .int x1)]) hx hb dX0_remove_75 rfl hl (by decide) rfl (fun ls hl => ?_)
  refine lv_iconst (v := 0) hx hb dX0_remove_76 (by decide) ?_
  refine lv_istore_n (lv' := [(3, .int 0), (2, .int ((1 <<< (x1 &&& 31)) - 1)), (0, .ref a0), (1, .int x1)]) hx hb dX0_remove_77 rfl hl (by decide) rfl (fun ls hl => ?_)
  have L_78 : ∀ (x2_78 : Int32) (zowners_78 : Nat → Int32) (zranks_78 : Nat → Int32) (zsize_78 : Int32), ∀ (n_78 : Nat) (x3_78 : Int32) (zways_78 : Nat → Int32) (q14 : ((Nat → Int32))), f_X0_remove_L78 N x2_78 zsize_78 n_78 x3_78 zways_78 = some q14 → (∀ (ls : Array Slot) (H : Heap) (locs : List Loc), lv_has ls 4 [] → va_P D vwCl [(a0, .inr (0, [.ref a_owners, .ref a_ranks, .ref a_ways, .int zsize_78])), (a_owners, .inl (cI, 12, .inl zowners_78)), (a_ranks, .inl (cI, 12, .inl zranks_78)), (a_ways, .inl (cI, 12, .inl q14))] H → va_D A [(a0, .inr (0, [.ref a_owners, .ref a_ranks, .ref a_ways, .int zsize_78])), (a_owners, .inl (cI, 12, .inl zowners_78)), (a_ranks, .inl (cI, 12, .inl zranks_78)), (a_ways, .inl (cI, 12, .inl q14))] → va_S A s.heap H locs → W p l e (rmm 0 0) s m args below meth c H locs 0 0 Q (F0 m 119 ls [])) → ∀ (ls : Array Slot) (H : Heap) (locs : List Loc), lv_has ls 4 [(0, .ref a0), (2, .int x2_78), (3, .int x3_78)] → va_P D vwCl [(a0, .inr (0, [.ref a_owners, .ref a_ranks, .ref a_ways, .int zsize_78])), (a_owners, .inl (cI, 12, .inl zowners_78)), (a_ranks, .inl (cI, 12, .inl zranks_78)), (a_ways, .inl (cI, 12, .inl zways_78))] H → va_D A [(a0, .inr (0, [.ref a_owners, .ref a_ranks, .ref a_ways, .int zsize_78])), (a_owners, .inl (cI, 12, .inl zowners_78)), (a_ranks, .inl (cI, 12, .inl zranks_78)), (a_ways, .inl (cI, 12, .inl zways_78))] → va_S A s.heap H locs → W p l e (rmm 0 0) s m args below meth c H locs 0 0 Q (F0 m 78 ls []) := by
    intro x2_78 zowners_78 zranks_78 zsize_78 n_78
    induction n_78 with
    | zero => intro x3_78 zways_78 q14 h; exact no_s h
    | succ n_78 ih_78 =>
      intro x3_78 zways_78 q14 h J_78 ls H locs hl hP hD hS
      rw [f_X0_remove_L78] at h
      refine lv_iload_n hx hb dX0_remove_78 rfl (lv_at hl 2 rfl) ?_
      refine lv_aload_n hx hb dX0_remove_79 rfl (lv_at hl 0 rfl) ?_
      refine va_get (D := D) (ci := 0) (v := .int zsize_78) (C := RX0) (T := TX0) (N := 4) hx hb hts inG0 hown hK hP 0 rfl rfl 3 (by decide) (hts _ wd1_31) (fun _ h9 => h9) rfl dX0_remove_80 ?_
      refine lv_icmp_ge (tgt := 119) hx hb dX0_remove_83 (by decide) (fun c10 => ?_) (fun c10 => ?_)
      · have h := itT h c10
        obtain rfl := Option.some.inj h
        exact J_78 _ _ _ (lv_sub hl [] rfl) hP hD hS
      · have h := itF h c10
        refine lv_aload_n hx hb dX0_remove_86 rfl (lv_at hl 0 rfl) ?_
        refine va_get (D := D) (ci := 0) (v := .ref a_ways) (C := RX0) (T := TX0) (N := 4) hx hb hts inG0 hown hK hP 0 rfl rfl 2 (by decide) (hts _ wd1_27) (fun _ h9 => h9) rfl dX0_remove_87 ?_
        refine lv_iload_n hx hb dX0_remove_90 rfl (lv_at hl 2 rfl) ?_
        refine lv_aload_n hx hb dX0_remove_91 rfl (lv_at hl 0 rfl) ?_
        refine va_get (D := D) (ci := 0) (v := .ref a_ways) (C := RX0) (T := TX0) (N := 4) hx hb hts inG0 hown hK hP 0 rfl rfl 2 (by decide) (hts _ wd1_27) (fun _ h9 => h9) rfl dX0_remove_92 ?_
        refine lv_iload_n hx hb dX0_remove_95 rfl (lv_at hl 2 rfl) ?_
        obtain ⟨g11, h⟩ := chk_s h
        refine va_iald hx hb hK hP 3 0 rfl rfl (gi_in g11) dX0_remove_96 ?_
        refine lv_iload_n hx hb dX0_remove_97 rfl (lv_at hl 1 rfl) ?_
        refine lv_iand hx hb dX0_remove_98 ?_
        refine lv_aload_n hx hb dX0_remove_99 rfl (lv_at hl 0 rfl) ?_
        refine va_get (D := D) (ci := 0) (v := .ref a_ways) (C := RX0) (T := TX0) (N := 4) hx hb hts inG0 hown hK hP 0 rfl rfl 2 (by decide) (hts _ wd1_27) (fun _ h9 => h9) rfl dX0_remove_100 ?_
        refine lv_iload_n hx hb dX0_remove_103 rfl (lv_at hl 2 rfl) ?_
        obtain ⟨g12, h⟩ := chk_s h
        refine va_iald hx hb hK hP 3 0 rfl rfl (gi_in g12) dX0_remove_104 ?_
        refine lv_iconst (v := 1) hx hb dX0_remove_105 (by decide) ?_
        refine lv_ishr hx hb dX0_remove_106 ?_
        refine lv_iload_n hx hb dX0_remove_107 rfl (lv_at hl 1 rfl) ?_
        refine lv_iconst (v := (-1)) hx hb dX0_remove_108 (by decide) ?_
        refine lv_ixor hx hb dX0_remove_109 ?_
        refine lv_iand hx hb dX0_remove_110 ?_
        refine lv_ior hx hb dX0_remove_111 ?_
        obtain ⟨g13, h⟩ := chk_s h
        refine va_iast hx hb hK hP hD hS 3 0 rfl rfl (gi_in g13) dX0_remove_112 (fun H locs hP hD hS => ?_)
        have hP : va_P D vwCl [(a0, .inr (0, [.ref a_owners, .ref a_ranks, .ref a_ways, .int zsize_78])), (a_owners, .inl (cI, 12, .inl zowners_78)), (a_ranks, .inl (cI, 12, .inl zranks_78)), (a_ways, .inl (cI, 12, .inl (upd zways_78 (Int32.toNatClampNeg x3_78) (((zways_78 (Int32.toNatClampNeg x3_78)) &&& x2_78) ||| (((zways_78 (Int32.toNatClampNeg x3_78)) >>> (1 &&& 31)) &&& (x2_78 ^^^ (-1)))))))] H := hP
        have hD : va_D A [(a0, .inr (0, [.ref a_owners, .ref a_ranks, .ref a_ways, .int zsize_78])), (a_owners, .inl (cI, 12, .inl zowners_78)), (a_ranks, .inl (cI, 12, .inl zranks_78)), (a_ways, .inl (cI, 12, .inl (upd zways_78 (Int32.toNatClampNeg x3_78) (((zways_78 (Int32.toNatClampNeg x3_78)) &&& x2_78) ||| (((zways_78 (Int32.toNatClampNeg x3_78)) >>> (1 &&& 31)) &&& (x2_78 ^^^ (-1)))))))] := hD
        refine lv_iinc (v := x3_78 + 1) (lv' := [(3, .int (x3_78 + 1)), (0, .ref a0), (2, .int x2_78)]) hx hb dX0_remove_113 hl (k := 2) rfl rfl (by decide) rfl (fun ls hl => ?_)
        refine lv_goto (tgt := 78) hx hb dX0_remove_116 (by decide) ?_
        exact ih_78 (x3_78 + 1) (upd zways_78 (Int32.toNatClampNeg x3_78) (((zways_78 (Int32.toNatClampNeg x3_78)) &&& x2_78) ||| (((zways_78 (Int32.toNatClampNeg x3_78)) >>> (1 &&& 31)) &&& (x2_78 ^^^ (-1))))) _ h J_78 _ _ _ (lv_sub hl [1, 2, 0] rfl) hP hD hS
  obtain ⟨q15, hb16, h⟩ := bd h
  refine L_78 ((1 <<< (x1 &&& 31)) - 1) q9.1 q9.2.1 (zsize - 1) N 0 q9.2.2 q15 hb16 ?_ _ _ _ (lv_sub hl [2, 1, 0] rfl) hP hD hS
  intro ls H locs hl hP hD hS
  obtain rfl := Option.some.inj h
  exact hret _ _ _ _ hP hD hS dX0_remove_119
def f_X0_copyFrom_L10 (N : Nat) (zsize_10 : Int32) (zp0_owners_10 : Nat → Int32) (zp0_ranks_10 : Nat → Int32) (zp0_ways_10 : Nat → Int32) : Nat → Int32 → (Nat → Int32) → (Nat → Int32) → (Nat → Int32) → Option ((Nat → Int32) × (Nat → Int32) × (Nat → Int32))
  | 0, _, _, _, _ => none
  | n_10 + 1, x2_10, zowners_10, zranks_10, zways_10 =>
    if zsize_10 ≤ x2_10 then (some (zowners_10, zranks_10, zways_10)) else (chk (gi x2_10 12) (chk (gi x2_10 12) (chk (gi x2_10 12) (chk (gi x2_10 12) (chk (gi x2_10 12) (chk (gi x2_10 12) (f_X0_copyFrom_L10 N zsize_10 zp0_owners_10 zp0_ranks_10 zp0_ways_10 n_10 (x2_10 + 1) (upd zowners_10 (Int32.toNatClampNeg x2_10) (zp0_owners_10 (Int32.toNatClampNeg x2_10))) (upd zranks_10 (Int32.toNatClampNeg x2_10) (zp0_ranks_10 (Int32.toNatClampNeg x2_10))) (upd zways_10 (Int32.toNatClampNeg x2_10) (zp0_ways_10 (Int32.toNatClampNeg x2_10))))))))))
def f_X0_copyFrom (N : Nat) (zowners : Nat → Int32) (zranks : Nat → Int32) (zways : Nat → Int32) (zsize : Int32) (zp0_owners : Nat → Int32) (zp0_ranks : Nat → Int32) (zp0_ways : Nat → Int32) (zp0_size : Int32) : Option ((Nat → Int32) × (Nat → Int32) × (Nat → Int32) × Int32) :=
    Option.bind (f_X0_copyFrom_L10 N zp0_size zp0_owners zp0_ranks zp0_ways N 0 zowners zranks zways) (fun q9 => some (q9.1, q9.2.1, q9.2.2, zp0_size))
set_option maxHeartbeats 4000000 in
set_option maxRecDepth 100000 in
theorem c_X0_copyFrom (l : Launch) (D : va_G) (cI cC cH : ClassId) (a0 : Nat) (a_owners : Nat) (a_ranks : Nat) (a_ways : Nat) (a_p0 : Nat) (a_p0_owners : Nat) (a_p0_ranks : Nat) (a_p0_ways : Nat) (N : Nat) (zowners : Nat → Int32) (zranks : Nat → Int32) (zways : Nat → Int32) (zsize : Int32) (zp0_owners : Nat → Int32) (zp0_ranks : Nat → Int32) (zp0_ways : Nat → Int32) (zp0_size : Int32) (y : (Nat → Int32) × (Nat → Int32) × (Nat → Int32) × Int32) (h : f_X0_copyFrom N zowners zranks zways zsize zp0_owners zp0_ranks zp0_ways zp0_size = some y) : CTv l yX0_copyFrom cX0_copyFrom 3 none 0 0 D (tyL cI cC cH) [.ref a0, .ref a_p0] [(a0, .inr (0, [.ref a_owners, .ref a_ranks, .ref a_ways, .int zsize])), (a_owners, .inl (cI, 12, .inl zowners)), (a_ranks, .inl (cI, 12, .inl zranks)), (a_ways, .inl (cI, 12, .inl zways)), (a_p0, .inr (0, [.ref a_p0_owners, .ref a_p0_ranks, .ref a_p0_ways, .int zp0_size])), (a_p0_owners, .inl (cI, 12, .inl zp0_owners)), (a_p0_ranks, .inl (cI, 12, .inl zp0_ranks)), (a_p0_ways, .inl (cI, 12, .inl zp0_ways))] [(a0, .inr (0, [.ref a_owners, .ref a_ranks, .ref a_ways, .int y.2.2.2])), (a_owners, .inl (cI, 12, .inl y.1)), (a_ranks, .inl (cI, 12, .inl y.2.1)), (a_ways, .inl (cI, 12, .inl y.2.2.1)), (a_p0, .inr (0, [.ref a_p0_owners, .ref a_p0_ranks, .ref a_p0_ways, .int zp0_size])), (a_p0_owners, .inl (cI, 12, .inl zp0_owners)), (a_p0_ranks, .inl (cI, 12, .inl zp0_ranks)), (a_p0_ways, .inl (cI, 12, .inl zp0_ways))] := by
  unfold f_X0_copyFrom at h
  refine ctV (by decide) (Nat.le_of_ble_eq_true rfl) ?_
  intro p e s m args below meth c A Q ls F hret hP hD hS hl
  have hx := F.1
  have hb := F.2.1
  have hown : s.vm.findClass RX0 = some m.cls := F.2.2.2.1
  have hts := F.2.2.2.2.1
  have hN := F.2.2.2.2.2.1
  have hK := F.2.2.2.2.2.2.1
  have hl : lv_has ls 3 [(0, .ref a0), (1, .ref a_p0)] := hl
  refine lv_aload_n hx hb dX0_copyFrom_0 rfl (lv_at hl 0 rfl) ?_
  refine lv_aload_n hx hb dX0_copyFrom_1 rfl (lv_at hl 1 rfl) ?_
  refine va_get (D := D) (ci := 0) (v := .int zp0_size) (C := RX0) (T := TX0) (N := 4) hx hb hts inG0 hown hK hP 4 rfl rfl 3 (by decide) (hts _ wd1_31) (fun _ h9 => h9) rfl dX0_copyFrom_2 ?_
  refine va_put (D := D) (ci := 0) (v := .int zp0_size) (ty := .int) (C := RX0) (T := TX0) (N := 4) hx hb hts inG0 tyX0 tyX0_ok nmX0 hown hK hP hD hS 0 rfl rfl 3 (by decide) (hts _ wd1_31) (fun _ h9 => h9) rfl (by decide +kernel) rfl rfl (Nat.le_of_ble_eq_true rfl) dX0_copyFrom_5 (fun H locs hP hD hS => ?_)
  have hP : va_P D vwCl [(a0, .inr (0, [.ref a_owners, .ref a_ranks, .ref a_ways, .int zp0_size])), (a_owners, .inl (cI, 12, .inl zowners)), (a_ranks, .inl (cI, 12, .inl zranks)), (a_ways, .inl (cI, 12, .inl zways)), (a_p0, .inr (0, [.ref a_p0_owners, .ref a_p0_ranks, .ref a_p0_ways, .int zp0_size])), (a_p0_owners, .inl (cI, 12, .inl zp0_owners)), (a_p0_ranks, .inl (cI, 12, .inl zp0_ranks)), (a_p0_ways, .inl (cI, 12, .inl zp0_ways))] H := hP
  have hD : va_D A [(a0, .inr (0, [.ref a_owners, .ref a_ranks, .ref a_ways, .int zp0_size])), (a_owners, .inl (cI, 12, .inl zowners)), (a_ranks, .inl (cI, 12, .inl zranks)), (a_ways, .inl (cI, 12, .inl zways)), (a_p0, .inr (0, [.ref a_p0_owners, .ref a_p0_ranks, .ref a_p0_ways, .int zp0_size])), (a_p0_owners, .inl (cI, 12, .inl zp0_owners)), (a_p0_ranks, .inl (cI, 12, .inl zp0_ranks)), (a_p0_ways, .inl (cI, 12, .inl zp0_ways))] := hD
  refine lv_iconst (v := 0) hx hb dX0_copyFrom_8 (by decide) ?_
  refine lv_istore_n (lv' := [(2, .int 0), (0, .ref a0), (1, .ref a_p0)]) hx hb dX0_copyFrom_9 rfl hl (by decide) rfl (fun ls hl => ?_)
  have L_10 : ∀ (zsize_10 : Int32) (zp0_owners_10 : Nat → Int32) (zp0_ranks_10 : Nat → Int32) (zp0_ways_10 : Nat → Int32) (zp0_size_10 : Int32), ∀ (n_10 : Nat) (x2_10 : Int32) (zowners_10 : Nat → Int32) (zranks_10 : Nat → Int32) (zways_10 : Nat → Int32) (q8 : ((Nat → Int32) × (Nat → Int32) × (Nat → Int32))), f_X0_copyFrom_L10 N zsize_10 zp0_owners_10 zp0_ranks_10 zp0_ways_10 n_10 x2_10 zowners_10 zranks_10 zways_10 = some q8 → (∀ (ls : Array Slot) (H : Heap) (locs : List Loc), lv_has ls 3 [] → va_P D vwCl [(a0, .inr (0, [.ref a_owners, .ref a_ranks, .ref a_ways, .int zsize_10])), (a_owners, .inl (cI, 12, .inl q8.1)), (a_ranks, .inl (cI, 12, .inl q8.2.1)), (a_ways, .inl (cI, 12, .inl q8.2.2)), (a_p0, .inr (0, [.ref a_p0_owners, .ref a_p0_ranks, .ref a_p0_ways, .int zp0_size_10])), (a_p0_owners, .inl (cI, 12, .inl zp0_owners_10)), (a_p0_ranks, .inl (cI, 12, .inl zp0_ranks_10)), (a_p0_ways, .inl (cI, 12, .inl zp0_ways_10))] H → va_D A [(a0, .inr (0, [.ref a_owners, .ref a_ranks, .ref a_ways, .int zsize_10])), (a_owners, .inl (cI, 12, .inl q8.1)), (a_ranks, .inl (cI, 12, .inl q8.2.1)), (a_ways, .inl (cI, 12, .inl q8.2.2)), (a_p0, .inr (0, [.ref a_p0_owners, .ref a_p0_ranks, .ref a_p0_ways, .int zp0_size_10])), (a_p0_owners, .inl (cI, 12, .inl zp0_owners_10)), (a_p0_ranks, .inl (cI, 12, .inl zp0_ranks_10)), (a_p0_ways, .inl (cI, 12, .inl zp0_ways_10))] → va_S A s.heap H locs → W p l e (rmm 0 0) s m args below meth c H locs 0 0 Q (F0 m 60 ls [])) → ∀ (ls : Array Slot) (H : Heap) (locs : List Loc), lv_has ls 3 [(0, .ref a0), (1, .ref a_p0), (2, .int x2_10)] → va_P D vwCl [(a0, .inr (0, [.ref a_owners, .ref a_ranks, .ref a_ways, .int zsize_10])), (a_owners, .inl (cI, 12, .inl zowners_10)), (a_ranks, .inl (cI, 12, .inl zranks_10)), (a_ways, .inl (cI, 12, .inl zways_10)), (a_p0, .inr (0, [.ref a_p0_owners, .ref a_p0_ranks, .ref a_p0_ways, .int zp0_size_10])), (a_p0_owners, .inl (cI, 12, .inl zp0_owners_10)), (a_p0_ranks, .inl (cI, 12, .inl zp0_ranks_10)), (a_p0_ways, .inl (cI, 12, .inl zp0_ways_10))] H → va_D A [(a0, .inr (0, [.ref a_owners, .ref a_ranks, .ref a_ways, .int zsize_10])), (a_owners, .inl (cI, 12, .inl zowners_10)), (a_ranks, .inl (cI, 12, .inl zranks_10)), (a_ways, .inl (cI, 12, .inl zways_10)), (a_p0, .inr (0, [.ref a_p0_owners, .ref a_p0_ranks, .ref a_p0_ways, .int zp0_size_10])), (a_p0_owners, .inl (cI, 12, .inl zp0_owners_10)), (a_p0_ranks, .inl (cI, 12, .inl zp0_ranks_10)), (a_p0_ways, .inl (cI, 12, .inl zp0_ways_10))] → va_S A s.heap H locs → W p l e (rmm 0 0) s m args below meth c H locs 0 0 Q (F0 m 10 ls []) := by
    intro zsize_10 zp0_owners_10 zp0_ranks_10 zp0_ways_10 zp0_size_10 n_10
    induction n_10 with
    | zero => intro x2_10 zowners_10 zranks_10 zways_10 q8 h; exact no_s h
    | succ n_10 ih_10 =>
      intro x2_10 zowners_10 zranks_10 zways_10 q8 h J_10 ls H locs hl hP hD hS
      rw [f_X0_copyFrom_L10] at h
      refine lv_iload_n hx hb dX0_copyFrom_10 rfl (lv_at hl 2 rfl) ?_
      refine lv_aload_n hx hb dX0_copyFrom_11 rfl (lv_at hl 0 rfl) ?_
      refine va_get (D := D) (ci := 0) (v := .int zsize_10) (C := RX0) (T := TX0) (N := 4) hx hb hts inG0 hown hK hP 0 rfl rfl 3 (by decide) (hts _ wd1_31) (fun _ h9 => h9) rfl dX0_copyFrom_12 ?_
      refine lv_icmp_ge (tgt := 60) hx hb dX0_copyFrom_15 (by decide) (fun c1 => ?_) (fun c1 => ?_)
      · have h := itT h c1
        obtain rfl := Option.some.inj h
        exact J_10 _ _ _ (lv_sub hl [] rfl) hP hD hS
      · have h := itF h c1
        refine lv_aload_n hx hb dX0_copyFrom_18 rfl (lv_at hl 0 rfl) ?_
        refine va_get (D := D) (ci := 0) (v := .ref a_owners) (C := RX0) (T := TX0) (N := 4) hx hb hts inG0 hown hK hP 0 rfl rfl 0 (by decide) (hts _ wd1_22) (fun _ h9 => h9) rfl dX0_copyFrom_19 ?_
        refine lv_iload_n hx hb dX0_copyFrom_22 rfl (lv_at hl 2 rfl) ?_
        refine lv_aload_n hx hb dX0_copyFrom_23 rfl (lv_at hl 1 rfl) ?_
        refine va_get (D := D) (ci := 0) (v := .ref a_p0_owners) (C := RX0) (T := TX0) (N := 4) hx hb hts inG0 hown hK hP 4 rfl rfl 0 (by decide) (hts _ wd1_22) (fun _ h9 => h9) rfl dX0_copyFrom_24 ?_
        refine lv_iload_n hx hb dX0_copyFrom_27 rfl (lv_at hl 2 rfl) ?_
        obtain ⟨g2, h⟩ := chk_s h
        refine va_iald hx hb hK hP 5 0 rfl rfl (gi_in g2) dX0_copyFrom_28 ?_
        obtain ⟨g3, h⟩ := chk_s h
        refine va_iast hx hb hK hP hD hS 1 0 rfl rfl (gi_in g3) dX0_copyFrom_29 (fun H locs hP hD hS => ?_)
        have hP : va_P D vwCl [(a0, .inr (0, [.ref a_owners, .ref a_ranks, .ref a_ways, .int zsize_10])), (a_owners, .inl (cI, 12, .inl (upd zowners_10 (Int32.toNatClampNeg x2_10) (zp0_owners_10 (Int32.toNatClampNeg x2_10))))), (a_ranks, .inl (cI, 12, .inl zranks_10)), (a_ways, .inl (cI, 12, .inl zways_10)), (a_p0, .inr (0, [.ref a_p0_owners, .ref a_p0_ranks, .ref a_p0_ways, .int zp0_size_10])), (a_p0_owners, .inl (cI, 12, .inl zp0_owners_10)), (a_p0_ranks, .inl (cI, 12, .inl zp0_ranks_10)), (a_p0_ways, .inl (cI, 12, .inl zp0_ways_10))] H := hP
        have hD : va_D A [(a0, .inr (0, [.ref a_owners, .ref a_ranks, .ref a_ways, .int zsize_10])), (a_owners, .inl (cI, 12, .inl (upd zowners_10 (Int32.toNatClampNeg x2_10) (zp0_owners_10 (Int32.toNatClampNeg x2_10))))), (a_ranks, .inl (cI, 12, .inl zranks_10)), (a_ways, .inl (cI, 12, .inl zways_10)), (a_p0, .inr (0, [.ref a_p0_owners, .ref a_p0_ranks, .ref a_p0_ways, .int zp0_size_10])), (a_p0_owners, .inl (cI, 12, .inl zp0_owners_10)), (a_p0_ranks, .inl (cI, 12, .inl zp0_ranks_10)), (a_p0_ways, .inl (cI, 12, .inl zp0_ways_10))] := hD
        refine lv_aload_n hx hb dX0_copyFrom_30 rfl (lv_at hl 0 rfl) ?_
        refine va_get (D := D) (ci := 0) (v := .ref a_ranks) (C := RX0) (T := TX0) (N := 4) hx hb hts inG0 hown hK hP 0 rfl rfl 1 (by decide) (hts _ wd1_25) (fun _ h9 => h9) rfl dX0_copyFrom_31 ?_
        refine lv_iload_n hx hb dX0_copyFrom_34 rfl (lv_at hl 2 rfl) ?_
        refine lv_aload_n hx hb dX0_copyFrom_35 rfl (lv_at hl 1 rfl) ?_
        refine va_get (D := D) (ci := 0) (v := .ref a_p0_ranks) (C := RX0) (T := TX0) (N := 4) hx hb hts inG0 hown hK hP 4 rfl rfl 1 (by decide) (hts _ wd1_25) (fun _ h9 => h9) rfl dX0_copyFrom_36 ?_
        refine lv_iload_n hx hb dX0_copyFrom_39 rfl (lv_at hl 2 rfl) ?_
        obtain ⟨g4, h⟩ := chk_s h
        refine va_iald hx hb hK hP 6 0 rfl rfl (gi_in g4) dX0_copyFrom_40 ?_
        obtain ⟨g5, h⟩ := chk_s h
        refine va_iast hx hb hK hP hD hS 2 0 rfl rfl (gi_in g5) dX0_copyFrom_41 (fun H locs hP hD hS => ?_)
        have hP : va_P D vwCl [(a0, .inr (0, [.ref a_owners, .ref a_ranks, .ref a_ways, .int zsize_10])), (a_owners, .inl (cI, 12, .inl (upd zowners_10 (Int32.toNatClampNeg x2_10) (zp0_owners_10 (Int32.toNatClampNeg x2_10))))), (a_ranks, .inl (cI, 12, .inl (upd zranks_10 (Int32.toNatClampNeg x2_10) (zp0_ranks_10 (Int32.toNatClampNeg x2_10))))), (a_ways, .inl (cI, 12, .inl zways_10)), (a_p0, .inr (0, [.ref a_p0_owners, .ref a_p0_ranks, .ref a_p0_ways, .int zp0_size_10])), (a_p0_owners, .inl (cI, 12, .inl zp0_owners_10)), (a_p0_ranks, .inl (cI, 12, .inl zp0_ranks_10)), (a_p0_ways, .inl (cI, 12, .inl zp0_ways_10))] H := hP
        have hD : va_D A [(a0, .inr (0, [.ref a_owners, .ref a_ranks, .ref a_ways, .int zsize_10])), (a_owners, .inl (cI, 12, .inl (upd zowners_10 (Int32.toNatClampNeg x2_10) (zp0_owners_10 (Int32.toNatClampNeg x2_10))))), (a_ranks, .inl (cI, 12, .inl (upd zranks_10 (Int32.toNatClampNeg x2_10) (zp0_ranks_10 (Int32.toNatClampNeg x2_10))))), (a_ways, .inl (cI, 12, .inl zways_10)), (a_p0, .inr (0, [.ref a_p0_owners, .ref a_p0_ranks, .ref a_p0_ways, .int zp0_size_10])), (a_p0_owners, .inl (cI, 12, .inl zp0_owners_10)), (a_p0_ranks, .inl (cI, 12, .inl zp0_ranks_10)), (a_p0_ways, .inl (cI, 12, .inl zp0_ways_10))] := hD
        refine lv_aload_n hx hb dX0_copyFrom_42 rfl (lv_at hl 0 rfl) ?_
        refine va_get (D := D) (ci := 0) (v := .ref a_ways) (C := RX0) (T := TX0) (N := 4) hx hb hts inG0 hown hK hP 0 rfl rfl 2 (by decide) (hts _ wd1_27) (fun _ h9 => h9) rfl dX0_copyFrom_43 ?_
        refine lv_iload_n hx hb dX0_copyFrom_46 rfl (lv_at hl 2 rfl) ?_
        refine lv_aload_n hx hb dX0_copyFrom_47 rfl (lv_at hl 1 rfl) ?_
        refine va_get (D := D) (ci := 0) (v := .ref a_p0_ways) (C := RX0) (T := TX0) (N := 4) hx hb hts inG0 hown hK hP 4 rfl rfl 2 (by decide) (hts _ wd1_27) (fun _ h9 => h9) rfl dX0_copyFrom_48 ?_
        refine lv_iload_n hx hb dX0_copyFrom_51 rfl (lv_at hl 2 rfl) ?_
        obtain ⟨g6, h⟩ := chk_s h
        refine va_iald hx hb hK hP 7 0 rfl rfl (gi_in g6) dX0_copyFrom_52 ?_
        obtain ⟨g7, h⟩ := chk_s h
        refine va_iast hx hb hK hP hD hS 3 0 rfl rfl (gi_in g7) dX0_copyFrom_53 (fun H locs hP hD hS => ?_)
        have hP : va_P D vwCl [(a0, .inr (0, [.ref a_owners, .ref a_ranks, .ref a_ways, .int zsize_10])), (a_owners, .inl (cI, 12, .inl (upd zowners_10 (Int32.toNatClampNeg x2_10) (zp0_owners_10 (Int32.toNatClampNeg x2_10))))), (a_ranks, .inl (cI, 12, .inl (upd zranks_10 (Int32.toNatClampNeg x2_10) (zp0_ranks_10 (Int32.toNatClampNeg x2_10))))), (a_ways, .inl (cI, 12, .inl (upd zways_10 (Int32.toNatClampNeg x2_10) (zp0_ways_10 (Int32.toNatClampNeg x2_10))))), (a_p0, .inr (0, [.ref a_p0_owners, .ref a_p0_ranks, .ref a_p0_ways, .int zp0_size_10])), (a_p0_owners, .inl (cI, 12, .inl zp0_owners_10)), (a_p0_ranks, .inl (cI, 12, .inl zp0_ranks_10)), (a_p0_ways, .inl (cI, 12, .inl zp0_ways_10))] H := hP
        have hD : va_D A [(a0, .inr (0, [.ref a_owners, .ref a_ranks, .ref a_ways, .int zsize_10])), (a_owners, .inl (cI, 12, .inl (upd zowners_10 (Int32.toNatClampNeg x2_10) (zp0_owners_10 (Int32.toNatClampNeg x2_10))))), (a_ranks, .inl (cI, 12, .inl (upd zranks_10 (Int32.toNatClampNeg x2_10) (zp0_ranks_10 (Int32.toNatClampNeg x2_10))))), (a_ways, .inl (cI, 12, .inl (upd zways_10 (Int32.toNatClampNeg x2_10) (zp0_ways_10 (Int32.toNatClampNeg x2_10))))), (a_p0, .inr (0, [.ref a_p0_owners, .ref a_p0_ranks, .ref a_p0_ways, .int zp0_size_10])), (a_p0_owners, .inl (cI, 12, .inl zp0_owners_10)), (a_p0_ranks, .inl (cI, 12, .inl zp0_ranks_10)), (a_p0_ways, .inl (cI, 12, .inl zp0_ways_10))] := hD
        refine lv_iinc (v := x2_10 + 1) (lv' := [(2, .int (x2_10 + 1)), (0, .ref a0), (1, .ref a_p0)]) hx hb dX0_copyFrom_54 hl (k := 2) rfl rfl (by decide) rfl (fun ls hl => ?_)
        refine lv_goto (tgt := 10) hx hb dX0_copyFrom_57 (by decide) ?_
        exact ih_10 (x2_10 + 1) (upd zowners_10 (Int32.toNatClampNeg x2_10) (zp0_owners_10 (Int32.toNatClampNeg x2_10))) (upd zranks_10 (Int32.toNatClampNeg x2_10) (zp0_ranks_10 (Int32.toNatClampNeg x2_10))) (upd zways_10 (Int32.toNatClampNeg x2_10) (zp0_ways_10 (Int32.toNatClampNeg x2_10))) _ h J_10 _ _ _ (lv_sub hl [1, 2, 0] rfl) hP hD hS
  obtain ⟨q9, hb10, h⟩ := bd h
  refine L_10 zp0_size zp0_owners zp0_ranks zp0_ways zp0_size N 0 zowners zranks zways q9 hb10 ?_ _ _ _ (lv_sub hl [1, 2, 0] rfl) hP hD hS
  intro ls H locs hl hP hD hS
  obtain rfl := Option.some.inj h
  exact hret _ _ _ _ hP hD hS dX0_copyFrom_60
def f_X0_endsOf_L4 (N : Nat) (x1_4 : Int32) (zowners_4 : Nat → Int32) (zways_4 : Nat → Int32) (zsize_4 : Int32) : Nat → Int32 → Int32 → Option (Int32)
  | 0, _, _ => none
  | n_4 + 1, x2_4, x3_4 =>
    if zsize_4 ≤ x3_4 then (some x2_4) else (chk (gi x3_4 12) (Option.bind (α := Int32) (if (zways_4 (Int32.toNatClampNeg x3_4)) = 0 then (chk (gi x3_4 12) (if (zowners_4 (Int32.toNatClampNeg x3_4)) = x1_4 then (some (x2_4 ||| (1 <<< (x3_4 &&& 31)))) else (some (x2_4)))) else (some (x2_4))) (fun q4 => f_X0_endsOf_L4 N x1_4 zowners_4 zways_4 zsize_4 n_4 q4 (x3_4 + 1))))
def f_X0_endsOf (N : Nat) (x1 : Int32) (zowners : Nat → Int32) (zways : Nat → Int32) (zsize : Int32) : Option (Int32) :=
    Option.bind (f_X0_endsOf_L4 N x1 zowners zways zsize N 0 0) (fun q11 => some q11)
set_option maxHeartbeats 4000000 in
set_option maxRecDepth 100000 in
theorem c_X0_endsOf (l : Launch) (D : va_G) (cI cC cH : ClassId) (a0 : Nat) (a_owners : Nat) (a_ranks : Nat) (a_ways : Nat) (N : Nat) (x1 : Int32) (zowners : Nat → Int32) (zways : Nat → Int32) (zsize : Int32) (y : Int32) (h : f_X0_endsOf N x1 zowners zways zsize = some y) : CTi l yX0_endsOf cX0_endsOf 4 (some .int) 0 0 D (tyL cI cC cH) [.ref a0, .int x1] [(a0, .inr (0, [.ref a_owners, .ref a_ranks, .ref a_ways, .int zsize])), (a_owners, .inl (cI, 12, .inl zowners)), (a_ways, .inl (cI, 12, .inl zways))] [(a0, .inr (0, [.ref a_owners, .ref a_ranks, .ref a_ways, .int zsize])), (a_owners, .inl (cI, 12, .inl zowners)), (a_ways, .inl (cI, 12, .inl zways))] y := by
  unfold f_X0_endsOf at h
  refine ctI (by decide) (Nat.le_of_ble_eq_true rfl) ?_
  intro p e s m args below meth c A Q ls F hret hP hD hS hl
  have hx := F.1
  have hb := F.2.1
  have hown : s.vm.findClass RX0 = some m.cls := F.2.2.2.1
  have hts := F.2.2.2.2.1
  have hN := F.2.2.2.2.2.1
  have hK := F.2.2.2.2.2.2.1
  have hl : lv_has ls 4 [(0, .ref a0), (1, .int x1)] := hl
  refine lv_iconst (v := 0) hx hb dX0_endsOf_0 (by decide) ?_
  refine lv_istore_n (lv' := [(2, .int 0), (0, .ref a0), (1, .int x1)]) hx hb dX0_endsOf_1 rfl hl (by decide) rfl (fun ls hl => ?_)
  refine lv_iconst (v := 0) hx hb dX0_endsOf_2 (by decide) ?_
  refine lv_istore_n (lv' := [(3, .int 0), (2, .int 0), (0, .ref a0), (1, .int x1)]) hx hb dX0_endsOf_3 rfl hl (by decide) rfl (fun ls hl => ?_)
  have L_4 : ∀ (x1_4 : Int32) (zowners_4 : Nat → Int32) (zways_4 : Nat → Int32) (zsize_4 : Int32), ∀ (n_4 : Nat) (x2_4 : Int32) (x3_4 : Int32) (q10 : (Int32)), f_X0_endsOf_L4 N x1_4 zowners_4 zways_4 zsize_4 n_4 x2_4 x3_4 = some q10 → (∀ (ls : Array Slot) (H : Heap) (locs : List Loc), lv_has ls 4 [(2, .int q10)] → va_P D vwCl [(a0, .inr (0, [.ref a_owners, .ref a_ranks, .ref a_ways, .int zsize_4])), (a_owners, .inl (cI, 12, .inl zowners_4)), (a_ways, .inl (cI, 12, .inl zways_4))] H → va_D A [(a0, .inr (0, [.ref a_owners, .ref a_ranks, .ref a_ways, .int zsize_4])), (a_owners, .inl (cI, 12, .inl zowners_4)), (a_ways, .inl (cI, 12, .inl zways_4))] → va_S A s.heap H locs → W p l e (rmm 0 0) s m args below meth c H locs 0 0 Q (F0 m 43 ls [])) → ∀ (ls : Array Slot) (H : Heap) (locs : List Loc), lv_has ls 4 [(0, .ref a0), (1, .int x1_4), (2, .int x2_4), (3, .int x3_4)] → va_P D vwCl [(a0, .inr (0, [.ref a_owners, .ref a_ranks, .ref a_ways, .int zsize_4])), (a_owners, .inl (cI, 12, .inl zowners_4)), (a_ways, .inl (cI, 12, .inl zways_4))] H → va_D A [(a0, .inr (0, [.ref a_owners, .ref a_ranks, .ref a_ways, .int zsize_4])), (a_owners, .inl (cI, 12, .inl zowners_4)), (a_ways, .inl (cI, 12, .inl zways_4))] → va_S A s.heap H locs → W p l e (rmm 0 0) s m args below meth c H locs 0 0 Q (F0 m 4 ls []) := by
    intro x1_4 zowners_4 zways_4 zsize_4 n_4
    induction n_4 with
    | zero => intro x2_4 x3_4 q10 h; exact no_s h
    | succ n_4 ih_4 =>
      intro x2_4 x3_4 q10 h J_4 ls H locs hl hP hD hS
      rw [f_X0_endsOf_L4] at h
      refine lv_iload_n hx hb dX0_endsOf_4 rfl (lv_at hl 3 rfl) ?_
      refine lv_aload_n hx hb dX0_endsOf_5 rfl (lv_at hl 0 rfl) ?_
      refine va_get (D := D) (ci := 0) (v := .int zsize_4) (C := RX0) (T := TX0) (N := 4) hx hb hts inG0 hown hK hP 0 rfl rfl 3 (by decide) (hts _ wd1_31) (fun _ h9 => h9) rfl dX0_endsOf_6 ?_
      refine lv_icmp_ge (tgt := 43) hx hb dX0_endsOf_9 (by decide) (fun c1 => ?_) (fun c1 => ?_)
      · have h := itT h c1
        obtain rfl := Option.some.inj h
        exact J_4 _ _ _ (lv_sub hl [2] rfl) hP hD hS
      · have h := itF h c1
        refine lv_aload_n hx hb dX0_endsOf_12 rfl (lv_at hl 0 rfl) ?_
        refine va_get (D := D) (ci := 0) (v := .ref a_ways) (C := RX0) (T := TX0) (N := 4) hx hb hts inG0 hown hK hP 0 rfl rfl 2 (by decide) (hts _ wd1_27) (fun _ h9 => h9) rfl dX0_endsOf_13 ?_
        refine lv_iload_n hx hb dX0_endsOf_16 rfl (lv_at hl 3 rfl) ?_
        obtain ⟨g2, h⟩ := chk_s h
        refine va_iald hx hb hK hP 2 0 rfl rfl (gi_in g2) dX0_endsOf_17 ?_
        obtain ⟨q4, hb9, h⟩ := bd h
        have J5 : ∀ (ls : Array Slot) (H : Heap) (locs : List Loc), lv_has ls 4 [(0, .ref a0), (1, .int x1_4), (2, .int q4), (3, .int x3_4)] → va_P D vwCl [(a0, .inr (0, [.ref a_owners, .ref a_ranks, .ref a_ways, .int zsize_4])), (a_owners, .inl (cI, 12, .inl zowners_4)), (a_ways, .inl (cI, 12, .inl zways_4))] H → va_D A [(a0, .inr (0, [.ref a_owners, .ref a_ranks, .ref a_ways, .int zsize_4])), (a_owners, .inl (cI, 12, .inl zowners_4)), (a_ways, .inl (cI, 12, .inl zways_4))] → va_S A s.heap H locs → W p l e (rmm 0 0) s m args below meth c H locs 0 0 Q (F0 m 37 ls []) := by
          intro ls H locs hl hP hD hS
          refine lv_iinc (v := x3_4 + 1) (lv' := [(3, .int (x3_4 + 1)), (0, .ref a0), (1, .int x1_4), (2, .int q4)]) hx hb dX0_endsOf_37 hl (k := 3) rfl rfl (by decide) rfl (fun ls hl => ?_)
          refine lv_goto (tgt := 4) hx hb dX0_endsOf_40 (by decide) ?_
          exact ih_4 q4 (x3_4 + 1) _ h J_4 _ _ _ (lv_sub hl [1, 2, 3, 0] rfl) hP hD hS
        clear h
        have h := hb9
        clear hb9
        refine lv_if_ne (tgt := 37) hx hb dX0_endsOf_18 (by decide) (fun c3 => ?_) (fun c3 => ?_)
        · have h := itF h c3
          obtain rfl := Option.some.inj h
          exact J5 _ _ _ (lv_sub hl [0, 1, 2, 3] rfl) hP hD hS
        · have h := itT h c3
          refine lv_aload_n hx hb dX0_endsOf_21 rfl (lv_at hl 0 rfl) ?_
          refine va_get (D := D) (ci := 0) (v := .ref a_owners) (C := RX0) (T := TX0) (N := 4) hx hb hts inG0 hown hK hP 0 rfl rfl 0 (by decide) (hts _ wd1_22) (fun _ h9 => h9) rfl dX0_endsOf_22 ?_
          refine lv_iload_n hx hb dX0_endsOf_25 rfl (lv_at hl 3 rfl) ?_
          obtain ⟨g7, h⟩ := chk_s h
          refine va_iald hx hb hK hP 1 0 rfl rfl (gi_in g7) dX0_endsOf_26 ?_
          refine lv_iload_n hx hb dX0_endsOf_27 rfl (lv_at hl 1 rfl) ?_
          refine lv_icmp_ne (tgt := 37) hx hb dX0_endsOf_28 (by decide) (fun c8 => ?_) (fun c8 => ?_)
          · have h := itF h c8
            obtain rfl := Option.some.inj h
            exact J5 _ _ _ (lv_sub hl [0, 1, 2, 3] rfl) hP hD hS
          · have h := itT h c8
            refine lv_iload_n hx hb dX0_endsOf_31 rfl (lv_at hl 2 rfl) ?_
            refine lv_iconst (v := 1) hx hb dX0_endsOf_32 (by decide) ?_
            refine lv_iload_n hx hb dX0_endsOf_33 rfl (lv_at hl 3 rfl) ?_
            refine lv_ishl hx hb dX0_endsOf_34 ?_
            refine lv_ior hx hb dX0_endsOf_35 ?_
            refine lv_istore_n (lv' := [(2, .int (x2_4 ||| (1 <<< (x3_4 &&& 31)))), (0, .ref a0), (1, .int x1_4), (3, .int x3_4)]) hx hb dX0_endsOf_36 rfl hl (by decide) rfl (fun ls hl => ?_)
            obtain rfl := Option.some.inj h
            exact J5 _ _ _ (lv_sub hl [1, 2, 0, 3] rfl) hP hD hS
  obtain ⟨q11, hb12, h⟩ := bd h
  refine L_4 x1 zowners zways zsize N 0 0 q11 hb12 ?_ _ _ _ (lv_sub hl [2, 3, 1, 0] rfl) hP hD hS
  intro ls H locs hl hP hD hS
  refine lv_iload_n hx hb dX0_endsOf_43 rfl (lv_at hl 0 rfl) ?_
  obtain rfl := Option.some.inj h
  exact hret _ _ _ _ _ rfl hP hD hS dX0_endsOf_44
def f_X0_ranked_L4 (N : Nat) (x1_4 : Int32) (zranks_4 : Nat → Int32) (zsize_4 : Int32) : Nat → Int32 → Int32 → Option (Int32)
  | 0, _, _ => none
  | n_4 + 1, x2_4, x3_4 =>
    if zsize_4 ≤ x3_4 then (some x2_4) else (chk (gi x3_4 12) (Option.bind (α := Int32) (if (zranks_4 (Int32.toNatClampNeg x3_4)) = x1_4 then (some (x2_4 ||| (1 <<< (x3_4 &&& 31)))) else (some (x2_4))) (fun q4 => f_X0_ranked_L4 N x1_4 zranks_4 zsize_4 n_4 q4 (x3_4 + 1))))
def f_X0_ranked (N : Nat) (x1 : Int32) (zranks : Nat → Int32) (zsize : Int32) : Option (Int32) :=
    Option.bind (f_X0_ranked_L4 N x1 zranks zsize N 0 0) (fun q9 => some q9)
set_option maxHeartbeats 4000000 in
set_option maxRecDepth 100000 in
theorem c_X0_ranked (l : Launch) (D : va_G) (cI cC cH : ClassId) (a0 : Nat) (a_owners : Nat) (a_ranks : Nat) (a_ways : Nat) (N : Nat) (x1 : Int32) (zranks : Nat → Int32) (zsize : Int32) (y : Int32) (h : f_X0_ranked N x1 zranks zsize = some y) : CTi l yX0_ranked cX0_ranked 4 (some .int) 0 0 D (tyL cI cC cH) [.ref a0, .int x1] [(a0, .inr (0, [.ref a_owners, .ref a_ranks, .ref a_ways, .int zsize])), (a_ranks, .inl (cI, 12, .inl zranks))] [(a0, .inr (0, [.ref a_owners, .ref a_ranks, .ref a_ways, .int zsize])), (a_ranks, .inl (cI, 12, .inl zranks))] y := by
  unfold f_X0_ranked at h
  refine ctI (by decide) (Nat.le_of_ble_eq_true rfl) ?_
  intro p e s m args below meth c A Q ls F hret hP hD hS hl
  have hx := F.1
  have hb := F.2.1
  have hown : s.vm.findClass RX0 = some m.cls := F.2.2.2.1
  have hts := F.2.2.2.2.1
  have hN := F.2.2.2.2.2.1
  have hK := F.2.2.2.2.2.2.1
  have hl : lv_has ls 4 [(0, .ref a0), (1, .int x1)] := hl
  refine lv_iconst (v := 0) hx hb dX0_ranked_0 (by decide) ?_
  refine lv_istore_n (lv' := [(2, .int 0), (0, .ref a0), (1, .int x1)]) hx hb dX0_ranked_1 rfl hl (by decide) rfl (fun ls hl => ?_)
  refine lv_iconst (v := 0) hx hb dX0_ranked_2 (by decide) ?_
  refine lv_istore_n (lv' := [(3, .int 0), (2, .int 0), (0, .ref a0), (1, .int x1)]) hx hb dX0_ranked_3 rfl hl (by decide) rfl (fun ls hl => ?_)
  have L_4 : ∀ (x1_4 : Int32) (zranks_4 : Nat → Int32) (zsize_4 : Int32), ∀ (n_4 : Nat) (x2_4 : Int32) (x3_4 : Int32) (q8 : (Int32)), f_X0_ranked_L4 N x1_4 zranks_4 zsize_4 n_4 x2_4 x3_4 = some q8 → (∀ (ls : Array Slot) (H : Heap) (locs : List Loc), lv_has ls 4 [(2, .int q8)] → va_P D vwCl [(a0, .inr (0, [.ref a_owners, .ref a_ranks, .ref a_ways, .int zsize_4])), (a_ranks, .inl (cI, 12, .inl zranks_4))] H → va_D A [(a0, .inr (0, [.ref a_owners, .ref a_ranks, .ref a_ways, .int zsize_4])), (a_ranks, .inl (cI, 12, .inl zranks_4))] → va_S A s.heap H locs → W p l e (rmm 0 0) s m args below meth c H locs 0 0 Q (F0 m 34 ls [])) → ∀ (ls : Array Slot) (H : Heap) (locs : List Loc), lv_has ls 4 [(0, .ref a0), (1, .int x1_4), (2, .int x2_4), (3, .int x3_4)] → va_P D vwCl [(a0, .inr (0, [.ref a_owners, .ref a_ranks, .ref a_ways, .int zsize_4])), (a_ranks, .inl (cI, 12, .inl zranks_4))] H → va_D A [(a0, .inr (0, [.ref a_owners, .ref a_ranks, .ref a_ways, .int zsize_4])), (a_ranks, .inl (cI, 12, .inl zranks_4))] → va_S A s.heap H locs → W p l e (rmm 0 0) s m args below meth c H locs 0 0 Q (F0 m 4 ls []) := by
    intro x1_4 zranks_4 zsize_4 n_4
    induction n_4 with
    | zero => intro x2_4 x3_4 q8 h; exact no_s h
    | succ n_4 ih_4 =>
      intro x2_4 x3_4 q8 h J_4 ls H locs hl hP hD hS
      rw [f_X0_ranked_L4] at h
      refine lv_iload_n hx hb dX0_ranked_4 rfl (lv_at hl 3 rfl) ?_
      refine lv_aload_n hx hb dX0_ranked_5 rfl (lv_at hl 0 rfl) ?_
      refine va_get (D := D) (ci := 0) (v := .int zsize_4) (C := RX0) (T := TX0) (N := 4) hx hb hts inG0 hown hK hP 0 rfl rfl 3 (by decide) (hts _ wd1_31) (fun _ h9 => h9) rfl dX0_ranked_6 ?_
      refine lv_icmp_ge (tgt := 34) hx hb dX0_ranked_9 (by decide) (fun c1 => ?_) (fun c1 => ?_)
      · have h := itT h c1
        obtain rfl := Option.some.inj h
        exact J_4 _ _ _ (lv_sub hl [2] rfl) hP hD hS
      · have h := itF h c1
        refine lv_aload_n hx hb dX0_ranked_12 rfl (lv_at hl 0 rfl) ?_
        refine va_get (D := D) (ci := 0) (v := .ref a_ranks) (C := RX0) (T := TX0) (N := 4) hx hb hts inG0 hown hK hP 0 rfl rfl 1 (by decide) (hts _ wd1_25) (fun _ h9 => h9) rfl dX0_ranked_13 ?_
        refine lv_iload_n hx hb dX0_ranked_16 rfl (lv_at hl 3 rfl) ?_
        obtain ⟨g2, h⟩ := chk_s h
        refine va_iald hx hb hK hP 1 0 rfl rfl (gi_in g2) dX0_ranked_17 ?_
        refine lv_iload_n hx hb dX0_ranked_18 rfl (lv_at hl 1 rfl) ?_
        obtain ⟨q4, hb7, h⟩ := bd h
        have J5 : ∀ (ls : Array Slot) (H : Heap) (locs : List Loc), lv_has ls 4 [(0, .ref a0), (1, .int x1_4), (2, .int q4), (3, .int x3_4)] → va_P D vwCl [(a0, .inr (0, [.ref a_owners, .ref a_ranks, .ref a_ways, .int zsize_4])), (a_ranks, .inl (cI, 12, .inl zranks_4))] H → va_D A [(a0, .inr (0, [.ref a_owners, .ref a_ranks, .ref a_ways, .int zsize_4])), (a_ranks, .inl (cI, 12, .inl zranks_4))] → va_S A s.heap H locs → W p l e (rmm 0 0) s m args below meth c H locs 0 0 Q (F0 m 28 ls []) := by
          intro ls H locs hl hP hD hS
          refine lv_iinc (v := x3_4 + 1) (lv' := [(3, .int (x3_4 + 1)), (0, .ref a0), (1, .int x1_4), (2, .int q4)]) hx hb dX0_ranked_28 hl (k := 3) rfl rfl (by decide) rfl (fun ls hl => ?_)
          refine lv_goto (tgt := 4) hx hb dX0_ranked_31 (by decide) ?_
          exact ih_4 q4 (x3_4 + 1) _ h J_4 _ _ _ (lv_sub hl [1, 2, 3, 0] rfl) hP hD hS
        clear h
        have h := hb7
        clear hb7
        refine lv_icmp_ne (tgt := 28) hx hb dX0_ranked_19 (by decide) (fun c3 => ?_) (fun c3 => ?_)
        · have h := itF h c3
          obtain rfl := Option.some.inj h
          exact J5 _ _ _ (lv_sub hl [0, 1, 2, 3] rfl) hP hD hS
        · have h := itT h c3
          refine lv_iload_n hx hb dX0_ranked_22 rfl (lv_at hl 2 rfl) ?_
          refine lv_iconst (v := 1) hx hb dX0_ranked_23 (by decide) ?_
          refine lv_iload_n hx hb dX0_ranked_24 rfl (lv_at hl 3 rfl) ?_
          refine lv_ishl hx hb dX0_ranked_25 ?_
          refine lv_ior hx hb dX0_ranked_26 ?_
          refine lv_istore_n (lv' := [(2, .int (x2_4 ||| (1 <<< (x3_4 &&& 31)))), (0, .ref a0), (1, .int x1_4), (3, .int x3_4)]) hx hb dX0_ranked_27 rfl hl (by decide) rfl (fun ls hl => ?_)
          obtain rfl := Option.some.inj h
          exact J5 _ _ _ (lv_sub hl [1, 2, 0, 3] rfl) hP hD hS
  obtain ⟨q9, hb10, h⟩ := bd h
  refine L_4 x1 zranks zsize N 0 0 q9 hb10 ?_ _ _ _ (lv_sub hl [2, 3, 1, 0] rfl) hP hD hS
  intro ls H locs hl hP hD hS
  refine lv_iload_n hx hb dX0_ranked_34 rfl (lv_at hl 0 rfl) ?_
  obtain rfl := Option.some.inj h
  exact hret _ _ _ _ _ rfl hP hD hS dX0_ranked_35
def f_X3_isRank (N : Nat) (x0 : Int32) : Option (Int32) :=
    if x0 < 0 then (some 0) else (if 6 ≤ x0 then (some 0) else (some 1))
set_option maxHeartbeats 4000000 in
set_option maxRecDepth 100000 in
theorem c_X3_isRank (l : Launch) (D : va_G) (cI cC cH : ClassId) (N : Nat) (x0 : Int32) (y : Int32) (h : f_X3_isRank N x0 = some y) : CTi l yX3_isRank cX3_isRank 1 (some .boolean) 0 0 D (tyL cI cC cH) [.int x0] [] [] y := by
  unfold f_X3_isRank at h
  refine ctZ (by decide) (Nat.le_of_ble_eq_true rfl) ?_
  intro p e s m args below meth c A Q ls F hret hP hD hS hl
  have hx := F.1
  have hb := F.2.1
  have hown : s.vm.findClass RX3 = some m.cls := F.2.2.2.1
  have hts := F.2.2.2.2.1
  have hN := F.2.2.2.2.2.1
  have hK := F.2.2.2.2.2.2.1
  have hl : lv_has ls 1 [(0, .int x0)] := hl
  refine lv_iload_n hx hb dX3_isRank_0 rfl (lv_at hl 0 rfl) ?_
  refine lv_if_lt (tgt := 14) hx hb dX3_isRank_1 (by decide) (fun c1 => ?_) (fun c1 => ?_)
  · have h := itT h c1
    refine lv_iconst (v := 0) hx hb dX3_isRank_14 (by decide) ?_
    obtain rfl := Option.some.inj h
    exact hret _ _ _ _ _ rfl rfl hP hD hS dX3_isRank_15
  · have h := itF h c1
    refine lv_iload_n hx hb dX3_isRank_4 rfl (lv_at hl 0 rfl) ?_
    refine lv_bipush (v := 6) hx hb dX3_isRank_5 (by decide) ?_
    refine lv_icmp_ge (tgt := 14) hx hb dX3_isRank_7 (by decide) (fun c2 => ?_) (fun c2 => ?_)
    · have h := itT h c2
      refine lv_iconst (v := 0) hx hb dX3_isRank_14 (by decide) ?_
      obtain rfl := Option.some.inj h
      exact hret _ _ _ _ _ rfl rfl hP hD hS dX3_isRank_15
    · have h := itF h c2
      refine lv_iconst (v := 1) hx hb dX3_isRank_10 (by decide) ?_
      refine lv_goto (tgt := 15) hx hb dX3_isRank_11 (by decide) ?_
      obtain rfl := Option.some.inj h
      exact hret _ _ _ _ _ rfl rfl hP hD hS dX3_isRank_15
def f_X3_isPlayer (N : Nat) (x0 : Int32) : Option (Int32) :=
    Option.bind (α := (Int32) ⊕ (Unit)) (if x0 = 0 then (some (.inr ())) else (if x0 = 1 then (some (.inr ())) else (some (.inl 0)))) (fun q2 => sm q2 some (fun t3 => some 1))
set_option maxHeartbeats 4000000 in
set_option maxRecDepth 100000 in
theorem c_X3_isPlayer (l : Launch) (D : va_G) (cI cC cH : ClassId) (N : Nat) (x0 : Int32) (y : Int32) (h : f_X3_isPlayer N x0 = some y) : CTi l yX3_isPlayer cX3_isPlayer 1 (some .boolean) 0 0 D (tyL cI cC cH) [.int x0] [] [] y := by
  unfold f_X3_isPlayer at h
  refine ctZ (by decide) (Nat.le_of_ble_eq_true rfl) ?_
  intro p e s m args below meth c A Q ls F hret hP hD hS hl
  have hx := F.1
  have hb := F.2.1
  have hown : s.vm.findClass RX3 = some m.cls := F.2.2.2.1
  have hts := F.2.2.2.2.1
  have hN := F.2.2.2.2.2.1
  have hK := F.2.2.2.2.2.2.1
  have hl : lv_has ls 1 [(0, .int x0)] := hl
  refine lv_iload_n hx hb dX3_isPlayer_0 rfl (lv_at hl 0 rfl) ?_
  obtain ⟨q2, hb7, h⟩ := bd h
  have J4 : ∀ t3, q2 = .inr t3 → ∀ (ls : Array Slot) (H : Heap) (locs : List Loc), lv_has ls 1 [] → va_P D vwCl [] H → va_D A [] → va_S A s.heap H locs → W p l e (rmm 0 0) s m args below meth c H locs 0 0 Q (F0 m 9 ls []) := by
    intro t3 e9 ls H locs hl hP hD hS
    rw [e9] at h
    refine lv_iconst (v := 1) hx hb dX3_isPlayer_9 (by decide) ?_
    refine lv_goto (tgt := 14) hx hb dX3_isPlayer_10 (by decide) ?_
    obtain rfl := Option.some.inj h
    exact hret _ _ _ _ _ rfl rfl hP hD hS dX3_isPlayer_14
  have hr5 : ∀ r9, q2 = .inl r9 → r9 = y := by
    intro r9 e9
    rw [e9] at h
    exact Option.some.inj h
  clear h
  have h := hb7
  clear hb7
  refine lv_if_eq (tgt := 9) hx hb dX3_isPlayer_1 (by decide) (fun c1 => ?_) (fun c1 => ?_)
  · have h := itT h c1
    obtain rfl := Option.some.inj h
    exact J4 _ rfl _ _ _ (lv_sub hl [] rfl) hP hD hS
  · have h := itF h c1
    refine lv_iload_n hx hb dX3_isPlayer_4 rfl (lv_at hl 0 rfl) ?_
    refine lv_iconst (v := 1) hx hb dX3_isPlayer_5 (by decide) ?_
    refine lv_icmp_ne (tgt := 13) hx hb dX3_isPlayer_6 (by decide) (fun c6 => ?_) (fun c6 => ?_)
    · have h := itF h c6
      refine lv_iconst (v := 0) hx hb dX3_isPlayer_13 (by decide) ?_
      obtain rfl := Option.some.inj h
      obtain rfl := hr5 _ rfl
      exact hret _ _ _ _ _ rfl rfl hP hD hS dX3_isPlayer_14
    · have h := itT h c6
      obtain rfl := Option.some.inj h
      exact J4 _ rfl _ _ _ (lv_sub hl [] rfl) hP hD hS
end
