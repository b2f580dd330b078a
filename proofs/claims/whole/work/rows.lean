section
-- ===== PART A: goes FIRST, ahead of the names: the tables' words, and 'selects' of the private methods out of them =====
/-- a private method of a class that the tables say can be made, by its rows of tables_1 -/
def lw_okq (q : MethodName × Nat) : Prop := (q.1.cls ≠ "java/lang/invoke/MethodHandle" ∧ q.1.cls ≠ "java/lang/invoke/VarHandle") ∧ Cond.instantiable q.1.cls q.2 ∈ tables_1 ∧ Cond.privateMethod q.1 ∈ tables_1 ∧ Cond.instanceMethod q.1 ∈ tables_1
theorem lw_p0 : lw_okq (⟨"LayeredClaims", "changed", "(I)I"⟩, 8) := ⟨⟨by decide +kernel, by decide +kernel⟩, List.mem_of_getElem? (i := 13) (by decide +kernel), List.mem_of_getElem? (i := 332) (by decide +kernel), List.mem_of_getElem? (i := 333) (by decide +kernel)⟩
theorem lw_p1 : lw_okq (⟨"LayeredClaims$Book", "endOfLayers", "()I"⟩, 19) := ⟨⟨by decide +kernel, by decide +kernel⟩, List.mem_of_getElem? (i := 27) (by decide +kernel), List.mem_of_getElem? (i := 352) (by decide +kernel), List.mem_of_getElem? (i := 353) (by decide +kernel)⟩
theorem lw_p2 : lw_okq (⟨"LayeredClaims$Text", "scanEntry", "(I)Z"⟩, 7) := ⟨⟨by decide +kernel, by decide +kernel⟩, List.mem_of_getElem? (i := 234) (by decide +kernel), List.mem_of_getElem? (i := 441) (by decide +kernel), List.mem_of_getElem? (i := 442) (by decide +kernel)⟩
theorem lw_p3 : lw_okq (⟨"LayeredClaims$Text", "skipSign", "(C)Z"⟩, 7) := ⟨⟨by decide +kernel, by decide +kernel⟩, List.mem_of_getElem? (i := 234) (by decide +kernel), List.mem_of_getElem? (i := 445) (by decide +kernel), List.mem_of_getElem? (i := 446) (by decide +kernel)⟩
theorem lw_p4 : lw_okq (⟨"LayeredClaims$Text", "scanNumber", "([II)Z"⟩, 7) := ⟨⟨by decide +kernel, by decide +kernel⟩, List.mem_of_getElem? (i := 234) (by decide +kernel), List.mem_of_getElem? (i := 449) (by decide +kernel), List.mem_of_getElem? (i := 450) (by decide +kernel)⟩
theorem lw_p5 : lw_okq (⟨"LayeredClaims", "makeEntry", "(I)I"⟩, 8) := ⟨⟨by decide +kernel, by decide +kernel⟩, List.mem_of_getElem? (i := 13) (by decide +kernel), List.mem_of_getElem? (i := 457) (by decide +kernel), List.mem_of_getElem? (i := 458) (by decide +kernel)⟩
theorem lw_p6 : lw_okq (⟨"LayeredClaims$Year", "orderEvents", "()V"⟩, 16) := ⟨⟨by decide +kernel, by decide +kernel⟩, List.mem_of_getElem? (i := 21) (by decide +kernel), List.mem_of_getElem? (i := 491) (by decide +kernel), List.mem_of_getElem? (i := 492) (by decide +kernel)⟩
theorem lw_p7 : lw_okq (⟨"LayeredClaims$Year", "sumLosses", "()V"⟩, 16) := ⟨⟨by decide +kernel, by decide +kernel⟩, List.mem_of_getElem? (i := 21) (by decide +kernel), List.mem_of_getElem? (i := 495) (by decide +kernel), List.mem_of_getElem? (i := 496) (by decide +kernel)⟩
theorem lw_p8 : lw_okq (⟨"LayeredClaims$Year", "factorOfEvent", "(I)F"⟩, 16) := ⟨⟨by decide +kernel, by decide +kernel⟩, List.mem_of_getElem? (i := 21) (by decide +kernel), List.mem_of_getElem? (i := 499) (by decide +kernel), List.mem_of_getElem? (i := 500) (by decide +kernel)⟩
theorem lw_p9 : lw_okq (⟨"LayeredClaims$Year", "capacityOfLayer", "(I)I"⟩, 16) := ⟨⟨by decide +kernel, by decide +kernel⟩, List.mem_of_getElem? (i := 21) (by decide +kernel), List.mem_of_getElem? (i := 504) (by decide +kernel), List.mem_of_getElem? (i := 505) (by decide +kernel)⟩
theorem lw_p10 : lw_okq (⟨"LayeredClaims$Year", "limitLosses", "(I)V"⟩, 16) := ⟨⟨by decide +kernel, by decide +kernel⟩, List.mem_of_getElem? (i := 21) (by decide +kernel), List.mem_of_getElem? (i := 508) (by decide +kernel), List.mem_of_getElem? (i := 509) (by decide +kernel)⟩
theorem lw_p11 : lw_okq (⟨"LayeredClaims$Year", "deductFromGroup", "(II)V"⟩, 16) := ⟨⟨by decide +kernel, by decide +kernel⟩, List.mem_of_getElem? (i := 21) (by decide +kernel), List.mem_of_getElem? (i := 513) (by decide +kernel), List.mem_of_getElem? (i := 514) (by decide +kernel)⟩
theorem lw_p12 : lw_okq (⟨"LayeredClaims$Sharing", "greatestRemainder", "(I)I"⟩, 3) := ⟨⟨by decide +kernel, by decide +kernel⟩, List.mem_of_getElem? (i := 131) (by decide +kernel), List.mem_of_getElem? (i := 527) (by decide +kernel), List.mem_of_getElem? (i := 528) (by decide +kernel)⟩
theorem lw_p13 : lw_okq (⟨"LayeredClaims$Year", "payFromCovers", "(I)V"⟩, 16) := ⟨⟨by decide +kernel, by decide +kernel⟩, List.mem_of_getElem? (i := 21) (by decide +kernel), List.mem_of_getElem? (i := 532) (by decide +kernel), List.mem_of_getElem? (i := 533) (by decide +kernel)⟩
theorem lw_p14 : lw_okq (⟨"LayeredClaims$Year", "dueFromCover", "(II)I"⟩, 16) := ⟨⟨by decide +kernel, by decide +kernel⟩, List.mem_of_getElem? (i := 21) (by decide +kernel), List.mem_of_getElem? (i := 536) (by decide +kernel), List.mem_of_getElem? (i := 537) (by decide +kernel)⟩
theorem lw_p15 : lw_okq (⟨"LayeredClaims$Year", "bearBurden", "(I)V"⟩, 16) := ⟨⟨by decide +kernel, by decide +kernel⟩, List.mem_of_getElem? (i := 21) (by decide +kernel), List.mem_of_getElem? (i := 540) (by decide +kernel), List.mem_of_getElem? (i := 541) (by decide +kernel)⟩
def lw_privs_1 : List (MethodName × Nat) := [(⟨"LayeredClaims", "changed", "(I)I"⟩, 8), (⟨"LayeredClaims$Book", "endOfLayers", "()I"⟩, 19), (⟨"LayeredClaims$Text", "scanEntry", "(I)Z"⟩, 7), (⟨"LayeredClaims$Text", "skipSign", "(C)Z"⟩, 7), (⟨"LayeredClaims$Text", "scanNumber", "([II)Z"⟩, 7), (⟨"LayeredClaims", "makeEntry", "(I)I"⟩, 8), (⟨"LayeredClaims$Year", "orderEvents", "()V"⟩, 16), (⟨"LayeredClaims$Year", "sumLosses", "()V"⟩, 16), (⟨"LayeredClaims$Year", "factorOfEvent", "(I)F"⟩, 16), (⟨"LayeredClaims$Year", "capacityOfLayer", "(I)I"⟩, 16), (⟨"LayeredClaims$Year", "limitLosses", "(I)V"⟩, 16), (⟨"LayeredClaims$Year", "deductFromGroup", "(II)V"⟩, 16), (⟨"LayeredClaims$Sharing", "greatestRemainder", "(I)I"⟩, 3), (⟨"LayeredClaims$Year", "payFromCovers", "(I)V"⟩, 16), (⟨"LayeredClaims$Year", "dueFromCover", "(II)I"⟩, 16), (⟨"LayeredClaims$Year", "bearBurden", "(I)V"⟩, 16)]
theorem lw_r1 : ∀ q ∈ lw_privs_1, lw_okq q := List.forall_mem_cons.mpr ⟨lw_p0, List.forall_mem_cons.mpr ⟨lw_p1, List.forall_mem_cons.mpr ⟨lw_p2, List.forall_mem_cons.mpr ⟨lw_p3, List.forall_mem_cons.mpr ⟨lw_p4, List.forall_mem_cons.mpr ⟨lw_p5, List.forall_mem_cons.mpr ⟨lw_p6, List.forall_mem_cons.mpr ⟨lw_p7, List.forall_mem_cons.mpr ⟨lw_p8, List.forall_mem_cons.mpr ⟨lw_p9, List.forall_mem_cons.mpr ⟨lw_p10, List.forall_mem_cons.mpr ⟨lw_p11, List.forall_mem_cons.mpr ⟨lw_p12, List.forall_mem_cons.mpr ⟨lw_p13, List.forall_mem_cons.mpr ⟨lw_p14, List.forall_mem_cons.mpr ⟨lw_p15, fun _ h => absurd h List.not_mem_nil⟩⟩⟩⟩⟩⟩⟩⟩⟩⟩⟩⟩⟩⟩⟩⟩
theorem lw_p16 : lw_okq (⟨"LayeredClaims$Year", "isClaimOf", "(III)Z"⟩, 16) := ⟨⟨by decide +kernel, by decide +kernel⟩, List.mem_of_getElem? (i := 21) (by decide +kernel), List.mem_of_getElem? (i := 607) (by decide +kernel), List.mem_of_getElem? (i := 608) (by decide +kernel)⟩
theorem lw_p17 : lw_okq (⟨"LayeredClaims", "answerOf", "([[III)I"⟩, 8) := ⟨⟨by decide +kernel, by decide +kernel⟩, List.mem_of_getElem? (i := 13) (by decide +kernel), List.mem_of_getElem? (i := 619) (by decide +kernel), List.mem_of_getElem? (i := 620) (by decide +kernel)⟩
theorem lw_p18 : lw_okq (⟨"LayeredClaimsModel", "keeps", "()V"⟩, 15) := ⟨⟨by decide +kernel, by decide +kernel⟩, List.mem_of_getElem? (i := 797) (by decide +kernel), List.mem_of_getElem? (i := 853) (by decide +kernel), List.mem_of_getElem? (i := 854) (by decide +kernel)⟩
theorem lw_p19 : lw_okq (⟨"LayeredClaimsModel", "laysCover", "(IIII)I"⟩, 15) := ⟨⟨by decide +kernel, by decide +kernel⟩, List.mem_of_getElem? (i := 797) (by decide +kernel), List.mem_of_getElem? (i := 860) (by decide +kernel), List.mem_of_getElem? (i := 861) (by decide +kernel)⟩
theorem lw_p20 : lw_okq (⟨"LayeredClaimsModel", "puts", "(IIIIII)I"⟩, 15) := ⟨⟨by decide +kernel, by decide +kernel⟩, List.mem_of_getElem? (i := 797) (by decide +kernel), List.mem_of_getElem? (i := 871) (by decide +kernel), List.mem_of_getElem? (i := 872) (by decide +kernel)⟩
theorem lw_p21 : lw_okq (⟨"LayeredClaimsModel", "made", "(I)I"⟩, 15) := ⟨⟨by decide +kernel, by decide +kernel⟩, List.mem_of_getElem? (i := 797) (by decide +kernel), List.mem_of_getElem? (i := 875) (by decide +kernel), List.mem_of_getElem? (i := 876) (by decide +kernel)⟩
theorem lw_p22 : lw_okq (⟨"LayeredClaimsModel", "changes", "()V"⟩, 15) := ⟨⟨by decide +kernel, by decide +kernel⟩, List.mem_of_getElem? (i := 797) (by decide +kernel), List.mem_of_getElem? (i := 879) (by decide +kernel), List.mem_of_getElem? (i := 880) (by decide +kernel)⟩
theorem lw_p23 : lw_okq (⟨"LayeredClaimsModel", "laysLayer", "(IIII)I"⟩, 15) := ⟨⟨by decide +kernel, by decide +kernel⟩, List.mem_of_getElem? (i := 797) (by decide +kernel), List.mem_of_getElem? (i := 887) (by decide +kernel), List.mem_of_getElem? (i := 888) (by decide +kernel)⟩
theorem lw_p24 : lw_okq (⟨"LayeredClaimsModel", "laysEvent", "(I)I"⟩, 15) := ⟨⟨by decide +kernel, by decide +kernel⟩, List.mem_of_getElem? (i := 797) (by decide +kernel), List.mem_of_getElem? (i := 896) (by decide +kernel), List.mem_of_getElem? (i := 897) (by decide +kernel)⟩
theorem lw_p25 : lw_okq (⟨"LayeredClaimsModel", "laysClaim", "(III)I"⟩, 15) := ⟨⟨by decide +kernel, by decide +kernel⟩, List.mem_of_getElem? (i := 797) (by decide +kernel), List.mem_of_getElem? (i := 904) (by decide +kernel), List.mem_of_getElem? (i := 905) (by decide +kernel)⟩
theorem lw_p26 : lw_okq (⟨"LayeredClaimsModel", "isEvent", "(I)Z"⟩, 15) := ⟨⟨by decide +kernel, by decide +kernel⟩, List.mem_of_getElem? (i := 797) (by decide +kernel), List.mem_of_getElem? (i := 908) (by decide +kernel), List.mem_of_getElem? (i := 909) (by decide +kernel)⟩
theorem lw_p27 : lw_okq (⟨"LayeredClaimsModel", "isCover", "(I)Z"⟩, 15) := ⟨⟨by decide +kernel, by decide +kernel⟩, List.mem_of_getElem? (i := 797) (by decide +kernel), List.mem_of_getElem? (i := 912) (by decide +kernel), List.mem_of_getElem? (i := 913) (by decide +kernel)⟩
theorem lw_p28 : lw_okq (⟨"LayeredClaimsModel", "isClaim", "(I)Z"⟩, 15) := ⟨⟨by decide +kernel, by decide +kernel⟩, List.mem_of_getElem? (i := 797) (by decide +kernel), List.mem_of_getElem? (i := 920) (by decide +kernel), List.mem_of_getElem? (i := 921) (by decide +kernel)⟩
theorem lw_p29 : lw_okq (⟨"LayeredClaimsModel", "laysRecovery", "(II)I"⟩, 15) := ⟨⟨by decide +kernel, by decide +kernel⟩, List.mem_of_getElem? (i := 797) (by decide +kernel), List.mem_of_getElem? (i := 940) (by decide +kernel), List.mem_of_getElem? (i := 941) (by decide +kernel)⟩
theorem lw_p30 : lw_okq (⟨"LayeredClaimsModel", "isFaulty", "()Z"⟩, 15) := ⟨⟨by decide +kernel, by decide +kernel⟩, List.mem_of_getElem? (i := 797) (by decide +kernel), List.mem_of_getElem? (i := 952) (by decide +kernel), List.mem_of_getElem? (i := 953) (by decide +kernel)⟩
theorem lw_p31 : lw_okq (⟨"LayeredClaimsModel", "entry", "()I"⟩, 15) := ⟨⟨by decide +kernel, by decide +kernel⟩, List.mem_of_getElem? (i := 797) (by decide +kernel), List.mem_of_getElem? (i := 956) (by decide +kernel), List.mem_of_getElem? (i := 957) (by decide +kernel)⟩
def lw_privs_2 : List (MethodName × Nat) := [(⟨"LayeredClaims$Year", "isClaimOf", "(III)Z"⟩, 16), (⟨"LayeredClaims", "answerOf", "([[III)I"⟩, 8), (⟨"LayeredClaimsModel", "keeps", "()V"⟩, 15), (⟨"LayeredClaimsModel", "laysCover", "(IIII)I"⟩, 15), (⟨"LayeredClaimsModel", "puts", "(IIIIII)I"⟩, 15), (⟨"LayeredClaimsModel", "made", "(I)I"⟩, 15), (⟨"LayeredClaimsModel", "changes", "()V"⟩, 15), (⟨"LayeredClaimsModel", "laysLayer", "(IIII)I"⟩, 15), (⟨"LayeredClaimsModel", "laysEvent", "(I)I"⟩, 15), (⟨"LayeredClaimsModel", "laysClaim", "(III)I"⟩, 15), (⟨"LayeredClaimsModel", "isEvent", "(I)Z"⟩, 15), (⟨"LayeredClaimsModel", "isCover", "(I)Z"⟩, 15), (⟨"LayeredClaimsModel", "isClaim", "(I)Z"⟩, 15), (⟨"LayeredClaimsModel", "laysRecovery", "(II)I"⟩, 15), (⟨"LayeredClaimsModel", "isFaulty", "()Z"⟩, 15), (⟨"LayeredClaimsModel", "entry", "()I"⟩, 15)]
theorem lw_r2 : ∀ q ∈ lw_privs_2, lw_okq q := List.forall_mem_cons.mpr ⟨lw_p16, List.forall_mem_cons.mpr ⟨lw_p17, List.forall_mem_cons.mpr ⟨lw_p18, List.forall_mem_cons.mpr ⟨lw_p19, List.forall_mem_cons.mpr ⟨lw_p20, List.forall_mem_cons.mpr ⟨lw_p21, List.forall_mem_cons.mpr ⟨lw_p22, List.forall_mem_cons.mpr ⟨lw_p23, List.forall_mem_cons.mpr ⟨lw_p24, List.forall_mem_cons.mpr ⟨lw_p25, List.forall_mem_cons.mpr ⟨lw_p26, List.forall_mem_cons.mpr ⟨lw_p27, List.forall_mem_cons.mpr ⟨lw_p28, List.forall_mem_cons.mpr ⟨lw_p29, List.forall_mem_cons.mpr ⟨lw_p30, List.forall_mem_cons.mpr ⟨lw_p31, fun _ h => absurd h List.not_mem_nil⟩⟩⟩⟩⟩⟩⟩⟩⟩⟩⟩⟩⟩⟩⟩⟩
theorem lw_p32 : lw_okq (⟨"LayeredClaimsModel", "sign", "()I"⟩, 15) := ⟨⟨by decide +kernel, by decide +kernel⟩, List.mem_of_getElem? (i := 797) (by decide +kernel), List.mem_of_getElem? (i := 960) (by decide +kernel), List.mem_of_getElem? (i := 961) (by decide +kernel)⟩
theorem lw_p33 : lw_okq (⟨"LayeredClaimsModel", "number", "()I"⟩, 15) := ⟨⟨by decide +kernel, by decide +kernel⟩, List.mem_of_getElem? (i := 797) (by decide +kernel), List.mem_of_getElem? (i := 964) (by decide +kernel), List.mem_of_getElem? (i := 965) (by decide +kernel)⟩
theorem lw_p34 : lw_okq (⟨"LayeredClaimsModel", "takes", "(I)V"⟩, 15) := ⟨⟨by decide +kernel, by decide +kernel⟩, List.mem_of_getElem? (i := 797) (by decide +kernel), List.mem_of_getElem? (i := 968) (by decide +kernel), List.mem_of_getElem? (i := 969) (by decide +kernel)⟩
theorem lw_p35 : lw_okq (⟨"LayeredClaimsModel", "paidInAll", "(I)I"⟩, 15) := ⟨⟨by decide +kernel, by decide +kernel⟩, List.mem_of_getElem? (i := 797) (by decide +kernel), List.mem_of_getElem? (i := 988) (by decide +kernel), List.mem_of_getElem? (i := 989) (by decide +kernel)⟩
theorem lw_p36 : lw_okq (⟨"LayeredClaimsModel", "leftAt", "(II)I"⟩, 15) := ⟨⟨by decide +kernel, by decide +kernel⟩, List.mem_of_getElem? (i := 797) (by decide +kernel), List.mem_of_getElem? (i := 992) (by decide +kernel), List.mem_of_getElem? (i := 993) (by decide +kernel)⟩
theorem lw_p37 : lw_okq (⟨"LayeredClaimsModel", "eventOn", "(I)I"⟩, 15) := ⟨⟨by decide +kernel, by decide +kernel⟩, List.mem_of_getElem? (i := 797) (by decide +kernel), List.mem_of_getElem? (i := 996) (by decide +kernel), List.mem_of_getElem? (i := 997) (by decide +kernel)⟩
theorem lw_p38 : lw_okq (⟨"LayeredClaimsModel", "positionOf", "(I)I"⟩, 15) := ⟨⟨by decide +kernel, by decide +kernel⟩, List.mem_of_getElem? (i := 797) (by decide +kernel), List.mem_of_getElem? (i := 1000) (by decide +kernel), List.mem_of_getElem? (i := 1001) (by decide +kernel)⟩
theorem lw_p39 : lw_okq (⟨"LayeredClaimsModel", "isBefore", "(II)Z"⟩, 15) := ⟨⟨by decide +kernel, by decide +kernel⟩, List.mem_of_getElem? (i := 797) (by decide +kernel), List.mem_of_getElem? (i := 1004) (by decide +kernel), List.mem_of_getElem? (i := 1005) (by decide +kernel)⟩
theorem lw_p40 : lw_okq (⟨"LayeredClaimsModel", "netOf", "(II)I"⟩, 15) := ⟨⟨by decide +kernel, by decide +kernel⟩, List.mem_of_getElem? (i := 797) (by decide +kernel), List.mem_of_getElem? (i := 1008) (by decide +kernel), List.mem_of_getElem? (i := 1009) (by decide +kernel)⟩
theorem lw_p41 : lw_okq (⟨"LayeredClaimsModel", "grossOf", "(II)I"⟩, 15) := ⟨⟨by decide +kernel, by decide +kernel⟩, List.mem_of_getElem? (i := 797) (by decide +kernel), List.mem_of_getElem? (i := 1012) (by decide +kernel), List.mem_of_getElem? (i := 1013) (by decide +kernel)⟩
theorem lw_p42 : lw_okq (⟨"LayeredClaimsModel", "lossesOf", "(II)I"⟩, 15) := ⟨⟨by decide +kernel, by decide +kernel⟩, List.mem_of_getElem? (i := 797) (by decide +kernel), List.mem_of_getElem? (i := 1016) (by decide +kernel), List.mem_of_getElem? (i := 1017) (by decide +kernel)⟩
theorem lw_p43 : lw_okq (⟨"LayeredClaimsModel", "isOf", "(III)Z"⟩, 15) := ⟨⟨by decide +kernel, by decide +kernel⟩, List.mem_of_getElem? (i := 797) (by decide +kernel), List.mem_of_getElem? (i := 1020) (by decide +kernel), List.mem_of_getElem? (i := 1021) (by decide +kernel)⟩
theorem lw_p44 : lw_okq (⟨"LayeredClaimsModel", "lossOf", "(I)I"⟩, 15) := ⟨⟨by decide +kernel, by decide +kernel⟩, List.mem_of_getElem? (i := 797) (by decide +kernel), List.mem_of_getElem? (i := 1024) (by decide +kernel), List.mem_of_getElem? (i := 1025) (by decide +kernel)⟩
theorem lw_p45 : lw_okq (⟨"LayeredClaimsModel", "deductedOf", "(II)I"⟩, 15) := ⟨⟨by decide +kernel, by decide +kernel⟩, List.mem_of_getElem? (i := 797) (by decide +kernel), List.mem_of_getElem? (i := 1030) (by decide +kernel), List.mem_of_getElem? (i := 1031) (by decide +kernel)⟩
theorem lw_p46 : lw_okq (⟨"LayeredClaimsModel", "shareOf", "(III)I"⟩, 15) := ⟨⟨by decide +kernel, by decide +kernel⟩, List.mem_of_getElem? (i := 797) (by decide +kernel), List.mem_of_getElem? (i := 1034) (by decide +kernel), List.mem_of_getElem? (i := 1035) (by decide +kernel)⟩
theorem lw_p47 : lw_okq (⟨"LayeredClaimsModel", "isLayer", "(I)Z"⟩, 15) := ⟨⟨by decide +kernel, by decide +kernel⟩, List.mem_of_getElem? (i := 797) (by decide +kernel), List.mem_of_getElem? (i := 1042) (by decide +kernel), List.mem_of_getElem? (i := 1043) (by decide +kernel)⟩
def lw_privs_3 : List (MethodName × Nat) := [(⟨"LayeredClaimsModel", "sign", "()I"⟩, 15), (⟨"LayeredClaimsModel", "number", "()I"⟩, 15), (⟨"LayeredClaimsModel", "takes", "(I)V"⟩, 15), (⟨"LayeredClaimsModel", "paidInAll", "(I)I"⟩, 15), (⟨"LayeredClaimsModel", "leftAt", "(II)I"⟩, 15), (⟨"LayeredClaimsModel", "eventOn", "(I)I"⟩, 15), (⟨"LayeredClaimsModel", "positionOf", "(I)I"⟩, 15), (⟨"LayeredClaimsModel", "isBefore", "(II)Z"⟩, 15), (⟨"LayeredClaimsModel", "netOf", "(II)I"⟩, 15), (⟨"LayeredClaimsModel", "grossOf", "(II)I"⟩, 15), (⟨"LayeredClaimsModel", "lossesOf", "(II)I"⟩, 15), (⟨"LayeredClaimsModel", "isOf", "(III)Z"⟩, 15), (⟨"LayeredClaimsModel", "lossOf", "(I)I"⟩, 15), (⟨"LayeredClaimsModel", "deductedOf", "(II)I"⟩, 15), (⟨"LayeredClaimsModel", "shareOf", "(III)I"⟩, 15), (⟨"LayeredClaimsModel", "isLayer", "(I)Z"⟩, 15)]
theorem lw_r3 : ∀ q ∈ lw_privs_3, lw_okq q := List.forall_mem_cons.mpr ⟨lw_p32, List.forall_mem_cons.mpr ⟨lw_p33, List.forall_mem_cons.mpr ⟨lw_p34, List.forall_mem_cons.mpr ⟨lw_p35, List.forall_mem_cons.mpr ⟨lw_p36, List.forall_mem_cons.mpr ⟨lw_p37, List.forall_mem_cons.mpr ⟨lw_p38, List.forall_mem_cons.mpr ⟨lw_p39, List.forall_mem_cons.mpr ⟨lw_p40, List.forall_mem_cons.mpr ⟨lw_p41, List.forall_mem_cons.mpr ⟨lw_p42, List.forall_mem_cons.mpr ⟨lw_p43, List.forall_mem_cons.mpr ⟨lw_p44, List.forall_mem_cons.mpr ⟨lw_p45, List.forall_mem_cons.mpr ⟨lw_p46, List.forall_mem_cons.mpr ⟨lw_p47, fun _ h => absurd h List.not_mem_nil⟩⟩⟩⟩⟩⟩⟩⟩⟩⟩⟩⟩⟩⟩⟩⟩
theorem lw_p48 : lw_okq (⟨"LayeredClaimsModel", "borneInAll", "(I)I"⟩, 15) := ⟨⟨by decide +kernel, by decide +kernel⟩, List.mem_of_getElem? (i := 797) (by decide +kernel), List.mem_of_getElem? (i := 1046) (by decide +kernel), List.mem_of_getElem? (i := 1047) (by decide +kernel)⟩
theorem lw_p49 : lw_okq (⟨"LayeredClaimsModel", "capacityOf", "(I)I"⟩, 15) := ⟨⟨by decide +kernel, by decide +kernel⟩, List.mem_of_getElem? (i := 797) (by decide +kernel), List.mem_of_getElem? (i := 1050) (by decide +kernel), List.mem_of_getElem? (i := 1051) (by decide +kernel)⟩
theorem lw_p50 : lw_okq (⟨"LayeredClaimsModel", "capacityAt", "(II)I"⟩, 15) := ⟨⟨by decide +kernel, by decide +kernel⟩, List.mem_of_getElem? (i := 797) (by decide +kernel), List.mem_of_getElem? (i := 1054) (by decide +kernel), List.mem_of_getElem? (i := 1055) (by decide +kernel)⟩
theorem lw_p51 : lw_okq (⟨"LayeredClaimsModel", "wantOf", "(II)I"⟩, 15) := ⟨⟨by decide +kernel, by decide +kernel⟩, List.mem_of_getElem? (i := 797) (by decide +kernel), List.mem_of_getElem? (i := 1058) (by decide +kernel), List.mem_of_getElem? (i := 1059) (by decide +kernel)⟩
theorem lw_p52 : lw_okq (⟨"LayeredClaimsModel", "burdenOf", "(I)I"⟩, 15) := ⟨⟨by decide +kernel, by decide +kernel⟩, List.mem_of_getElem? (i := 797) (by decide +kernel), List.mem_of_getElem? (i := 1062) (by decide +kernel), List.mem_of_getElem? (i := 1063) (by decide +kernel)⟩
theorem lw_p53 : lw_okq (⟨"LayeredClaimsModel", "paidByAll", "(I)I"⟩, 15) := ⟨⟨by decide +kernel, by decide +kernel⟩, List.mem_of_getElem? (i := 797) (by decide +kernel), List.mem_of_getElem? (i := 1066) (by decide +kernel), List.mem_of_getElem? (i := 1067) (by decide +kernel)⟩
theorem lw_p54 : lw_okq (⟨"LayeredClaimsModel", "paidOf", "(II)I"⟩, 15) := ⟨⟨by decide +kernel, by decide +kernel⟩, List.mem_of_getElem? (i := 797) (by decide +kernel), List.mem_of_getElem? (i := 1070) (by decide +kernel), List.mem_of_getElem? (i := 1071) (by decide +kernel)⟩
theorem lw_p55 : lw_okq (⟨"LayeredClaimsModel", "reinstated", "(I)I"⟩, 15) := ⟨⟨by decide +kernel, by decide +kernel⟩, List.mem_of_getElem? (i := 797) (by decide +kernel), List.mem_of_getElem? (i := 1075) (by decide +kernel), List.mem_of_getElem? (i := 1076) (by decide +kernel)⟩
theorem lw_p56 : lw_okq (⟨"LayeredClaimsModel", "reinstatementPremium", "(I)I"⟩, 15) := ⟨⟨by decide +kernel, by decide +kernel⟩, List.mem_of_getElem? (i := 797) (by decide +kernel), List.mem_of_getElem? (i := 1079) (by decide +kernel), List.mem_of_getElem? (i := 1080) (by decide +kernel)⟩
theorem lw_p57 : lw_okq (⟨"LayeredClaimsModel", "manyClaims", "(I)I"⟩, 15) := ⟨⟨by decide +kernel, by decide +kernel⟩, List.mem_of_getElem? (i := 797) (by decide +kernel), List.mem_of_getElem? (i := 1091) (by decide +kernel), List.mem_of_getElem? (i := 1092) (by decide +kernel)⟩
theorem lw_p58 : lw_okq (⟨"LayeredClaimsModel", "lossesIn", "(I)I"⟩, 15) := ⟨⟨by decide +kernel, by decide +kernel⟩, List.mem_of_getElem? (i := 797) (by decide +kernel), List.mem_of_getElem? (i := 1095) (by decide +kernel), List.mem_of_getElem? (i := 1096) (by decide +kernel)⟩
theorem lw_p59 : lw_okq (⟨"LayeredClaimsModel", "retainedOf", "(I)I"⟩, 15) := ⟨⟨by decide +kernel, by decide +kernel⟩, List.mem_of_getElem? (i := 797) (by decide +kernel), List.mem_of_getElem? (i := 1099) (by decide +kernel), List.mem_of_getElem? (i := 1100) (by decide +kernel)⟩
theorem lw_p60 : lw_okq (⟨"LayeredClaimsModel", "borneOf", "(II)I"⟩, 15) := ⟨⟨by decide +kernel, by decide +kernel⟩, List.mem_of_getElem? (i := 797) (by decide +kernel), List.mem_of_getElem? (i := 1103) (by decide +kernel), List.mem_of_getElem? (i := 1104) (by decide +kernel)⟩
theorem lw_p61 : lw_okq (⟨"LayeredClaimsModel", "paidFor", "(I)I"⟩, 15) := ⟨⟨by decide +kernel, by decide +kernel⟩, List.mem_of_getElem? (i := 797) (by decide +kernel), List.mem_of_getElem? (i := 1115) (by decide +kernel), List.mem_of_getElem? (i := 1116) (by decide +kernel)⟩
theorem lw_p62 : lw_okq (⟨"LayeredClaimsModel", "reasonOf", "(I)I"⟩, 15) := ⟨⟨by decide +kernel, by decide +kernel⟩, List.mem_of_getElem? (i := 797) (by decide +kernel), List.mem_of_getElem? (i := 1119) (by decide +kernel), List.mem_of_getElem? (i := 1120) (by decide +kernel)⟩
theorem lw_p63 : lw_okq (⟨"LayeredClaimsModel", "areThere", "(II)Z"⟩, 15) := ⟨⟨by decide +kernel, by decide +kernel⟩, List.mem_of_getElem? (i := 797) (by decide +kernel), List.mem_of_getElem? (i := 1127) (by decide +kernel), List.mem_of_getElem? (i := 1128) (by decide +kernel)⟩
def lw_privs_4 : List (MethodName × Nat) := [(⟨"LayeredClaimsModel", "borneInAll", "(I)I"⟩, 15), (⟨"LayeredClaimsModel", "capacityOf", "(I)I"⟩, 15), (⟨"LayeredClaimsModel", "capacityAt", "(II)I"⟩, 15), (⟨"LayeredClaimsModel", "wantOf", "(II)I"⟩, 15), (⟨"LayeredClaimsModel", "burdenOf", "(I)I"⟩, 15), (⟨"LayeredClaimsModel", "paidByAll", "(I)I"⟩, 15), (⟨"LayeredClaimsModel", "paidOf", "(II)I"⟩, 15), (⟨"LayeredClaimsModel", "reinstated", "(I)I"⟩, 15), (⟨"LayeredClaimsModel", "reinstatementPremium", "(I)I"⟩, 15), (⟨"LayeredClaimsModel", "manyClaims", "(I)I"⟩, 15), (⟨"LayeredClaimsModel", "lossesIn", "(I)I"⟩, 15), (⟨"LayeredClaimsModel", "retainedOf", "(I)I"⟩, 15), (⟨"LayeredClaimsModel", "borneOf", "(II)I"⟩, 15), (⟨"LayeredClaimsModel", "paidFor", "(I)I"⟩, 15), (⟨"LayeredClaimsModel", "reasonOf", "(I)I"⟩, 15), (⟨"LayeredClaimsModel", "areThere", "(II)Z"⟩, 15)]
theorem lw_r4 : ∀ q ∈ lw_privs_4, lw_okq q := List.forall_mem_cons.mpr ⟨lw_p48, List.forall_mem_cons.mpr ⟨lw_p49, List.forall_mem_cons.mpr ⟨lw_p50, List.forall_mem_cons.mpr ⟨lw_p51, List.forall_mem_cons.mpr ⟨lw_p52, List.forall_mem_cons.mpr ⟨lw_p53, List.forall_mem_cons.mpr ⟨lw_p54, List.forall_mem_cons.mpr ⟨lw_p55, List.forall_mem_cons.mpr ⟨lw_p56, List.forall_mem_cons.mpr ⟨lw_p57, List.forall_mem_cons.mpr ⟨lw_p58, List.forall_mem_cons.mpr ⟨lw_p59, List.forall_mem_cons.mpr ⟨lw_p60, List.forall_mem_cons.mpr ⟨lw_p61, List.forall_mem_cons.mpr ⟨lw_p62, List.forall_mem_cons.mpr ⟨lw_p63, fun _ h => absurd h List.not_mem_nil⟩⟩⟩⟩⟩⟩⟩⟩⟩⟩⟩⟩⟩⟩⟩⟩
theorem lw_p64 : lw_okq (⟨"LayeredClaimsModel", "overEvents", "(I)I"⟩, 15) := ⟨⟨by decide +kernel, by decide +kernel⟩, List.mem_of_getElem? (i := 797) (by decide +kernel), List.mem_of_getElem? (i := 1163) (by decide +kernel), List.mem_of_getElem? (i := 1164) (by decide +kernel)⟩
theorem lw_p65 : lw_okq (⟨"LayeredClaimsModel", "allPaid", "()I"⟩, 15) := ⟨⟨by decide +kernel, by decide +kernel⟩, List.mem_of_getElem? (i := 797) (by decide +kernel), List.mem_of_getElem? (i := 1167) (by decide +kernel), List.mem_of_getElem? (i := 1168) (by decide +kernel)⟩
theorem lw_p66 : lw_okq (⟨"LayeredClaimsModel", "allDeducted", "()I"⟩, 15) := ⟨⟨by decide +kernel, by decide +kernel⟩, List.mem_of_getElem? (i := 797) (by decide +kernel), List.mem_of_getElem? (i := 1171) (by decide +kernel), List.mem_of_getElem? (i := 1172) (by decide +kernel)⟩
theorem lw_p67 : lw_okq (⟨"LayeredClaimsModel", "allBorne", "()I"⟩, 15) := ⟨⟨by decide +kernel, by decide +kernel⟩, List.mem_of_getElem? (i := 797) (by decide +kernel), List.mem_of_getElem? (i := 1175) (by decide +kernel), List.mem_of_getElem? (i := 1176) (by decide +kernel)⟩
theorem lw_p68 : lw_okq (⟨"LayeredClaimsModel", "premiums", "(II)I"⟩, 15) := ⟨⟨by decide +kernel, by decide +kernel⟩, List.mem_of_getElem? (i := 797) (by decide +kernel), List.mem_of_getElem? (i := 1179) (by decide +kernel), List.mem_of_getElem? (i := 1180) (by decide +kernel)⟩
theorem lw_p69 : lw_okq (⟨"LayeredClaimsModel", "layerPremiums", "()I"⟩, 15) := ⟨⟨by decide +kernel, by decide +kernel⟩, List.mem_of_getElem? (i := 797) (by decide +kernel), List.mem_of_getElem? (i := 1183) (by decide +kernel), List.mem_of_getElem? (i := 1184) (by decide +kernel)⟩
def lw_privs_5 : List (MethodName × Nat) := [(⟨"LayeredClaimsModel", "overEvents", "(I)I"⟩, 15), (⟨"LayeredClaimsModel", "allPaid", "()I"⟩, 15), (⟨"LayeredClaimsModel", "allDeducted", "()I"⟩, 15), (⟨"LayeredClaimsModel", "allBorne", "()I"⟩, 15), (⟨"LayeredClaimsModel", "premiums", "(II)I"⟩, 15), (⟨"LayeredClaimsModel", "layerPremiums", "()I"⟩, 15)]
theorem lw_r5 : ∀ q ∈ lw_privs_5, lw_okq q := List.forall_mem_cons.mpr ⟨lw_p64, List.forall_mem_cons.mpr ⟨lw_p65, List.forall_mem_cons.mpr ⟨lw_p66, List.forall_mem_cons.mpr ⟨lw_p67, List.forall_mem_cons.mpr ⟨lw_p68, List.forall_mem_cons.mpr ⟨lw_p69, fun _ h => absurd h List.not_mem_nil⟩⟩⟩⟩⟩⟩
def lw_privs : List (MethodName × Nat) := lw_privs_1 ++ (lw_privs_2 ++ (lw_privs_3 ++ (lw_privs_4 ++ (lw_privs_5))))
def lw_tbl : List Cond := k2_sels lw_privs ++ tables_1
theorem lw_privs_ok : ∀ q ∈ lw_privs, lw_okq q := by
  show ∀ q ∈ lw_privs_1 ++ (lw_privs_2 ++ (lw_privs_3 ++ (lw_privs_4 ++ (lw_privs_5)))), lw_okq q
  exact List.forall_mem_append.mpr ⟨lw_r1, List.forall_mem_append.mpr ⟨lw_r2, List.forall_mem_append.mpr ⟨lw_r3, List.forall_mem_append.mpr ⟨lw_r4, lw_r5⟩⟩⟩⟩
/-- the streams that the claim lets the run draw from -/
abbrev lw_cs : List Choice := [Jvm.Choice.named "NaN.bits"]
theorem lw_bits : nanBits ∈ lw_cs := by first | decide | exact List.mem_cons_self | simp [lw_cs, nanBits]
/-! ===== BEGIN printed: names, fields, word lists, decode rows ===== -/
def RX0 : String := "LayeredClaims$Book"
def TX0 : u_T := fun k => match k with
  | 0 => ("LayeredClaims$Book", "covers", "I", false)
  | 1 => ("LayeredClaims$Book", "eventLimits", "[I", true)
  | 2 => ("LayeredClaims$Book", "yearLimits", "[I", true)
  | 3 => ("LayeredClaims$Book", "coverPremiums", "[I", true)
  | 4 => ("LayeredClaims$Book", "coverGroups", "[I", true)
  | 5 => ("LayeredClaims$Book", "layers", "I", false)
  | 6 => ("LayeredClaims$Book", "attachments", "[I", true)
  | 7 => ("LayeredClaims$Book", "layerLimits", "[I", true)
  | 8 => ("LayeredClaims$Book", "layerPremiums", "[I", true)
  | 9 => ("LayeredClaims$Book", "reinstatements", "[I", true)
  | 10 => ("LayeredClaims$Book", "deductibles", "[I", true)
  | 11 => ("LayeredClaims$Book", "rate", "I", false)
  | 12 => ("LayeredClaims$Book", "events", "I", false)
  | 13 => ("LayeredClaims$Book", "days", "[I", true)
  | 14 => ("LayeredClaims$Book", "recoveries", "[I", true)
  | 15 => ("LayeredClaims$Book", "claims", "I", false)
  | 16 => ("LayeredClaims$Book", "claimEvents", "[I", true)
  | 17 => ("LayeredClaims$Book", "claimCovers", "[I", true)
  | _ => ("LayeredClaims$Book", "claimAmounts", "[I", true)
def tyX0 : Nat → FieldType := fun k => match k with
  | 0 => .int
  | 1 => .array .int
  | 2 => .array .int
  | 3 => .array .int
  | 4 => .array .int
  | 5 => .int
  | 6 => .array .int
  | 7 => .array .int
  | 8 => .array .int
  | 9 => .array .int
  | 10 => .array .int
  | 11 => .int
  | 12 => .int
  | 13 => .array .int
  | 14 => .array .int
  | 15 => .int
  | 16 => .array .int
  | 17 => .array .int
  | _ => .array .int
abbrev wsX00 : List Cond := u_ws RX0 TX0 19
theorem nmX0 : ∀ a, a < 19 → ∀ b, b < 19 → a ≠ b → (TX0 a).2.1 ≠ (TX0 b).2.1 := by decide +kernel
theorem tyX0_ok : ∀ k, k < 19 → parseFieldDescriptor (TX0 k).2.2.1 = some (tyX0 k) := by decide +kernel
abbrev cX0_init : ByteArray := prog_2_method_1_code
def yX0_init : MethodName := ⟨RX0, "<init>", "()V"⟩
abbrev cX0_hasCover : ByteArray := prog_2_method_2_code
def yX0_hasCover : MethodName := ⟨RX0, "hasCover", "(I)Z"⟩
abbrev cX0_hasLayer : ByteArray := prog_2_method_3_code
def yX0_hasLayer : MethodName := ⟨RX0, "hasLayer", "(I)Z"⟩
abbrev cX0_hasEvent : ByteArray := prog_2_method_4_code
def yX0_hasEvent : MethodName := ⟨RX0, "hasEvent", "(I)Z"⟩
abbrev cX0_hasClaim : ByteArray := prog_2_method_5_code
def yX0_hasClaim : MethodName := ⟨RX0, "hasClaim", "(I)Z"⟩
abbrev cX0_insertCover : ByteArray := prog_2_method_6_code
def yX0_insertCover : MethodName := ⟨RX0, "insertCover", "(IIII)I"⟩
abbrev cX0_insertLayer : ByteArray := prog_2_method_7_code
def yX0_insertLayer : MethodName := ⟨RX0, "insertLayer", "(IIII)I"⟩
abbrev cX0_endOfLayers : ByteArray := prog_2_method_8_code
def yX0_endOfLayers : MethodName := ⟨RX0, "endOfLayers", "()I"⟩
abbrev cX0_insertEvent : ByteArray := prog_2_method_9_code
def yX0_insertEvent : MethodName := ⟨RX0, "insertEvent", "(I)I"⟩
abbrev cX0_insertClaim : ByteArray := prog_2_method_10_code
def yX0_insertClaim : MethodName := ⟨RX0, "insertClaim", "(III)I"⟩
abbrev cX0_dropClaim : ByteArray := prog_2_method_11_code
def yX0_dropClaim : MethodName := ⟨RX0, "dropClaim", "(I)I"⟩
abbrev cX0_changeDay : ByteArray := prog_2_method_12_code
def yX0_changeDay : MethodName := ⟨RX0, "changeDay", "(II)I"⟩
abbrev cX0_changeDeductible : ByteArray := prog_2_method_13_code
def yX0_changeDeductible : MethodName := ⟨RX0, "changeDeductible", "(II)I"⟩
abbrev cX0_changeRate : ByteArray := prog_2_method_14_code
def yX0_changeRate : MethodName := ⟨RX0, "changeRate", "(I)I"⟩
abbrev cX0_changeRecovery : ByteArray := prog_2_method_15_code
def yX0_changeRecovery : MethodName := ⟨RX0, "changeRecovery", "(II)I"⟩
abbrev cX0_claimsOfEvent : ByteArray := prog_2_method_16_code
def yX0_claimsOfEvent : MethodName := ⟨RX0, "claimsOfEvent", "(I)I"⟩
abbrev cX0_sumOfCoverPremiums : ByteArray := prog_2_method_17_code
def yX0_sumOfCoverPremiums : MethodName := ⟨RX0, "sumOfCoverPremiums", "()I"⟩
abbrev cX0_writeCover : ByteArray := prog_2_method_18_code
def yX0_writeCover : MethodName := ⟨RX0, "writeCover", "(I[I)V"⟩
abbrev cX0_writeLayer : ByteArray := prog_2_method_19_code
def yX0_writeLayer : MethodName := ⟨RX0, "writeLayer", "(I[I)V"⟩
abbrev cX0_copyFrom : ByteArray := prog_2_method_20_code
def yX0_copyFrom : MethodName := ⟨RX0, "copyFrom", "(LLayeredClaims$Book;)V"⟩
def RX1 : String := "LayeredClaims$History"
def TX1 : u_T := fun k => match k with
  | 0 => ("LayeredClaims$History", "ring", "[LLayeredClaims$Book;", true)
  | 1 => ("LayeredClaims$History", "markAt", "I", false)
  | _ => ("LayeredClaims$History", "kept", "I", false)
def tyX1 : Nat → FieldType := fun k => match k with
  | 0 => .array (.object "LayeredClaims$Book")
  | 1 => .int
  | _ => .int
abbrev wsX10 : List Cond := u_ws RX1 TX1 3
theorem nmX1 : ∀ a, a < 3 → ∀ b, b < 3 → a ≠ b → (TX1 a).2.1 ≠ (TX1 b).2.1 := by decide +kernel
theorem tyX1_ok : ∀ k, k < 3 → parseFieldDescriptor (TX1 k).2.2.1 = some (tyX1 k) := by decide +kernel
abbrev cX1_init : ByteArray := prog_3_method_1_code
def yX1_init : MethodName := ⟨RX1, "<init>", "()V"⟩
abbrev cX1_mark : ByteArray := prog_3_method_2_code
def yX1_mark : MethodName := ⟨RX1, "mark", "(LLayeredClaims$Book;)V"⟩
abbrev cX1_keepMark : ByteArray := prog_3_method_3_code
def yX1_keepMark : MethodName := ⟨RX1, "keepMark", "()V"⟩
abbrev cX1_returnToMark : ByteArray := prog_3_method_4_code
def yX1_returnToMark : MethodName := ⟨RX1, "returnToMark", "(LLayeredClaims$Book;)V"⟩
abbrev cX1_goBack : ByteArray := prog_3_method_5_code
def yX1_goBack : MethodName := ⟨RX1, "goBack", "(LLayeredClaims$Book;)I"⟩
abbrev cX1_forget : ByteArray := prog_3_method_6_code
def yX1_forget : MethodName := ⟨RX1, "forget", "()V"⟩
def RX2 : String := "LayeredClaims$Sharing"
def TX2 : u_T := fun k => match k with
  | 0 => ("LayeredClaims$Sharing", "weights", "[I", true)
  | 1 => ("LayeredClaims$Sharing", "parts", "[I", true)
  | _ => ("LayeredClaims$Sharing", "remainders", "[J", true)
def tyX2 : Nat → FieldType := fun k => match k with
  | 0 => .array .int
  | 1 => .array .int
  | _ => .array .long
abbrev wsX20 : List Cond := u_ws RX2 TX2 3
theorem nmX2 : ∀ a, a < 3 → ∀ b, b < 3 → a ≠ b → (TX2 a).2.1 ≠ (TX2 b).2.1 := by decide +kernel
theorem tyX2_ok : ∀ k, k < 3 → parseFieldDescriptor (TX2 k).2.2.1 = some (tyX2 k) := by decide +kernel
abbrev cX2_init : ByteArray := prog_4_method_1_code
def yX2_init : MethodName := ⟨RX2, "<init>", "()V"⟩
abbrev cX2_shareOut : ByteArray := prog_4_method_2_code
def yX2_shareOut : MethodName := ⟨RX2, "shareOut", "(II)V"⟩
abbrev cX2_greatestRemainder : ByteArray := prog_4_method_3_code
def yX2_greatestRemainder : MethodName := ⟨RX2, "greatestRemainder", "(I)I"⟩
def RX3 : String := "LayeredClaims$Text"
def TX3 : u_T := fun k => match k with
  | 0 => ("LayeredClaims$Text", "signs", "[C", true)
  | 1 => ("LayeredClaims$Text", "length", "I", false)
  | 2 => ("LayeredClaims$Text", "at", "I", false)
  | 3 => ("LayeredClaims$Text", "entries", "I", false)
  | 4 => ("LayeredClaims$Text", "kinds", "[C", true)
  | 5 => ("LayeredClaims$Text", "starts", "[I", true)
  | _ => ("LayeredClaims$Text", "numbers", "[[I", true)
def tyX3 : Nat → FieldType := fun k => match k with
  | 0 => .array .char
  | 1 => .int
  | 2 => .int
  | 3 => .int
  | 4 => .array .char
  | 5 => .array .int
  | _ => .array (.array .int)
abbrev wsX30 : List Cond := u_ws RX3 TX3 7
theorem nmX3 : ∀ a, a < 7 → ∀ b, b < 7 → a ≠ b → (TX3 a).2.1 ≠ (TX3 b).2.1 := by decide +kernel
theorem tyX3_ok : ∀ k, k < 7 → parseFieldDescriptor (TX3 k).2.2.1 = some (tyX3 k) := by decide +kernel
abbrev cX3_init : ByteArray := prog_5_method_1_code
def yX3_init : MethodName := ⟨RX3, "<init>", "()V"⟩
abbrev cX3_extend : ByteArray := prog_5_method_2_code
def yX3_extend : MethodName := ⟨RX3, "extend", "(I)I"⟩
abbrev cX3_clear : ByteArray := prog_5_method_3_code
def yX3_clear : MethodName := ⟨RX3, "clear", "()V"⟩
abbrev cX3_scan : ByteArray := prog_5_method_4_code
def yX3_scan : MethodName := ⟨RX3, "scan", "()Z"⟩
abbrev cX3_scanEntry : ByteArray := prog_5_method_5_code
def yX3_scanEntry : MethodName := ⟨RX3, "scanEntry", "(I)Z"⟩
abbrev cX3_skipSign : ByteArray := prog_5_method_6_code
def yX3_skipSign : MethodName := ⟨RX3, "skipSign", "(C)Z"⟩
abbrev cX3_scanNumber : ByteArray := prog_5_method_7_code
def yX3_scanNumber : MethodName := ⟨RX3, "scanNumber", "([II)Z"⟩
def RX4 : String := "LayeredClaims$Trays"
def TX4 : u_T := fun k => match k with
  | 0 => ("LayeredClaims$Trays", "kinds", "[I", true)
  | _ => ("LayeredClaims$Trays", "rows", "[[I", true)
def tyX4 : Nat → FieldType := fun k => match k with
  | 0 => .array .int
  | _ => .array (.array .int)
abbrev wsX40 : List Cond := u_ws RX4 TX4 2
theorem nmX4 : ∀ a, a < 2 → ∀ b, b < 2 → a ≠ b → (TX4 a).2.1 ≠ (TX4 b).2.1 := by decide +kernel
theorem tyX4_ok : ∀ k, k < 2 → parseFieldDescriptor (TX4 k).2.2.1 = some (tyX4 k) := by decide +kernel
abbrev cX4_init : ByteArray := prog_6_method_1_code
def yX4_init : MethodName := ⟨RX4, "<init>", "()V"⟩
abbrev cX4_hasPlace : ByteArray := prog_6_method_2_code
def yX4_hasPlace : MethodName := ⟨RX4, "hasPlace", "(II)Z"⟩
abbrev cX4_takesKind : ByteArray := prog_6_method_3_code
def yX4_takesKind : MethodName := ⟨RX4, "takesKind", "(II)Z"⟩
abbrev cX4_fill : ByteArray := prog_6_method_4_code
def yX4_fill : MethodName := ⟨RX4, "fill", "(III)[I"⟩
abbrev cX4_rowAt : ByteArray := prog_6_method_5_code
def yX4_rowAt : MethodName := ⟨RX4, "rowAt", "(II)[I"⟩
abbrev cX4_kindAt : ByteArray := prog_6_method_6_code
def yX4_kindAt : MethodName := ⟨RX4, "kindAt", "(II)I"⟩
abbrev cX4_filledPlaces : ByteArray := prog_6_method_7_code
def yX4_filledPlaces : MethodName := ⟨RX4, "filledPlaces", "(I)I"⟩
def RX5 : String := "LayeredClaims$Year"
def TX5 : u_T := fun k => match k with
  | 0 => ("LayeredClaims$Year", "book", "LLayeredClaims$Book;", true)
  | 1 => ("LayeredClaims$Year", "order", "[I", true)
  | 2 => ("LayeredClaims$Year", "positions", "[I", true)
  | 3 => ("LayeredClaims$Year", "losses", "[I", true)
  | 4 => ("LayeredClaims$Year", "lossSums", "[[I", true)
  | 5 => ("LayeredClaims$Year", "grossLosses", "[[I", true)
  | 6 => ("LayeredClaims$Year", "deductions", "[[I", true)
  | 7 => ("LayeredClaims$Year", "leftsBefore", "[[I", true)
  | 8 => ("LayeredClaims$Year", "payments", "[[I", true)
  | 9 => ("LayeredClaims$Year", "yearLefts", "[I", true)
  | 10 => ("LayeredClaims$Year", "burdens", "[I", true)
  | 11 => ("LayeredClaims$Year", "burdenParts", "[[I", true)
  | 12 => ("LayeredClaims$Year", "capacityLefts", "[I", true)
  | 13 => ("LayeredClaims$Year", "retained", "[I", true)
  | 14 => ("LayeredClaims$Year", "claimPayments", "[I", true)
  | _ => ("LayeredClaims$Year", "sharing", "LLayeredClaims$Sharing;", true)
def tyX5 : Nat → FieldType := fun k => match k with
  | 0 => .object "LayeredClaims$Book"
  | 1 => .array .int
  | 2 => .array .int
  | 3 => .array .int
  | 4 => .array (.array .int)
  | 5 => .array (.array .int)
  | 6 => .array (.array .int)
  | 7 => .array (.array .int)
  | 8 => .array (.array .int)
  | 9 => .array .int
  | 10 => .array .int
  | 11 => .array (.array .int)
  | 12 => .array .int
  | 13 => .array .int
  | 14 => .array .int
  | _ => .object "LayeredClaims$Sharing"
abbrev wsX50 : List Cond := u_ws RX5 TX5 16
theorem nmX5 : ∀ a, a < 16 → ∀ b, b < 16 → a ≠ b → (TX5 a).2.1 ≠ (TX5 b).2.1 := by decide +kernel
theorem tyX5_ok : ∀ k, k < 16 → parseFieldDescriptor (TX5 k).2.2.1 = some (tyX5 k) := by decide +kernel
abbrev cX5_init : ByteArray := prog_7_method_1_code
def yX5_init : MethodName := ⟨RX5, "<init>", "()V"⟩
abbrev cX5_reckon : ByteArray := prog_7_method_2_code
def yX5_reckon : MethodName := ⟨RX5, "reckon", "()V"⟩
abbrev cX5_orderEvents : ByteArray := prog_7_method_3_code
def yX5_orderEvents : MethodName := ⟨RX5, "orderEvents", "()V"⟩
abbrev cX5_sumLosses : ByteArray := prog_7_method_4_code
def yX5_sumLosses : MethodName := ⟨RX5, "sumLosses", "()V"⟩
abbrev cX5_factorOfEvent : ByteArray := prog_7_method_5_code
def yX5_factorOfEvent : MethodName := ⟨RX5, "factorOfEvent", "(I)F"⟩
abbrev cX5_limitLosses : ByteArray := prog_7_method_6_code
def yX5_limitLosses : MethodName := ⟨RX5, "limitLosses", "(I)V"⟩
abbrev cX5_deductFromGroup : ByteArray := prog_7_method_7_code
def yX5_deductFromGroup : MethodName := ⟨RX5, "deductFromGroup", "(II)V"⟩
abbrev cX5_payFromCovers : ByteArray := prog_7_method_8_code
def yX5_payFromCovers : MethodName := ⟨RX5, "payFromCovers", "(I)V"⟩
abbrev cX5_dueFromCover : ByteArray := prog_7_method_9_code
def yX5_dueFromCover : MethodName := ⟨RX5, "dueFromCover", "(II)I"⟩
abbrev cX5_bearBurden : ByteArray := prog_7_method_10_code
def yX5_bearBurden : MethodName := ⟨RX5, "bearBurden", "(I)V"⟩
abbrev cX5_payClaims : ByteArray := prog_7_method_11_code
def yX5_payClaims : MethodName := ⟨RX5, "payClaims", "(II)V"⟩
abbrev cX5_isClaimOf : ByteArray := prog_7_method_12_code
def yX5_isClaimOf : MethodName := ⟨RX5, "isClaimOf", "(III)Z"⟩
abbrev cX5_reasonOfClaim : ByteArray := prog_7_method_13_code
def yX5_reasonOfClaim : MethodName := ⟨RX5, "reasonOfClaim", "(I)I"⟩
abbrev cX5_partOfBurden : ByteArray := prog_7_method_14_code
def yX5_partOfBurden : MethodName := ⟨RX5, "partOfBurden", "(II)I"⟩
abbrev cX5_lossOfEvent : ByteArray := prog_7_method_15_code
def yX5_lossOfEvent : MethodName := ⟨RX5, "lossOfEvent", "(I)I"⟩
abbrev cX5_paidForEvent : ByteArray := prog_7_method_16_code
def yX5_paidForEvent : MethodName := ⟨RX5, "paidForEvent", "(I)I"⟩
abbrev cX5_claimedFromCover : ByteArray := prog_7_method_17_code
def yX5_claimedFromCover : MethodName := ⟨RX5, "claimedFromCover", "(I)I"⟩
abbrev cX5_capacityOfLayer : ByteArray := prog_7_method_18_code
def yX5_capacityOfLayer : MethodName := ⟨RX5, "capacityOfLayer", "(I)I"⟩
abbrev cX5_borneByLayer : ByteArray := prog_7_method_19_code
def yX5_borneByLayer : MethodName := ⟨RX5, "borneByLayer", "(I)I"⟩
abbrev cX5_reinstatedAmount : ByteArray := prog_7_method_20_code
def yX5_reinstatedAmount : MethodName := ⟨RX5, "reinstatedAmount", "(I)I"⟩
abbrev cX5_reinstatementPremium : ByteArray := prog_7_method_21_code
def yX5_reinstatementPremium : MethodName := ⟨RX5, "reinstatementPremium", "(I)I"⟩
abbrev cX5_sumOfLosses : ByteArray := prog_7_method_22_code
def yX5_sumOfLosses : MethodName := ⟨RX5, "sumOfLosses", "()I"⟩
abbrev cX5_sumOfPayments : ByteArray := prog_7_method_23_code
def yX5_sumOfPayments : MethodName := ⟨RX5, "sumOfPayments", "()I"⟩
abbrev cX5_sumOfDeductions : ByteArray := prog_7_method_24_code
def yX5_sumOfDeductions : MethodName := ⟨RX5, "sumOfDeductions", "()I"⟩
abbrev cX5_sumOfBurdens : ByteArray := prog_7_method_25_code
def yX5_sumOfBurdens : MethodName := ⟨RX5, "sumOfBurdens", "()I"⟩
abbrev cX5_sumOfBorne : ByteArray := prog_7_method_26_code
def yX5_sumOfBorne : MethodName := ⟨RX5, "sumOfBorne", "()I"⟩
abbrev cX5_sumOfRetained : ByteArray := prog_7_method_27_code
def yX5_sumOfRetained : MethodName := ⟨RX5, "sumOfRetained", "()I"⟩
abbrev cX5_costOfLayers : ByteArray := prog_7_method_28_code
def yX5_costOfLayers : MethodName := ⟨RX5, "costOfLayers", "()I"⟩
abbrev cX5_sumOfClaimPayments : ByteArray := prog_7_method_29_code
def yX5_sumOfClaimPayments : MethodName := ⟨RX5, "sumOfClaimPayments", "()I"⟩
abbrev cX5_sumOfLayersOneByOne : ByteArray := prog_7_method_30_code
def yX5_sumOfLayersOneByOne : MethodName := ⟨RX5, "sumOfLayersOneByOne", "()I"⟩
def RX6 : String := "LayeredClaims"
def TX6 : u_T := fun k => match k with
  | 0 => ("LayeredClaims", "year", "LLayeredClaims$Year;", true)
  | 1 => ("LayeredClaims", "book", "LLayeredClaims$Book;", true)
  | 2 => ("LayeredClaims", "savedBook", "LLayeredClaims$Book;", true)
  | 3 => ("LayeredClaims", "history", "LLayeredClaims$History;", true)
  | 4 => ("LayeredClaims", "text", "LLayeredClaims$Text;", true)
  | 5 => ("LayeredClaims", "trays", "LLayeredClaims$Trays;", true)
  | 6 => ("LayeredClaims", "hasSaved", "Z", false)
  | _ => ("LayeredClaims", "latestFault", "I", false)
def tyX6 : Nat → FieldType := fun k => match k with
  | 0 => .object "LayeredClaims$Year"
  | 1 => .object "LayeredClaims$Book"
  | 2 => .object "LayeredClaims$Book"
  | 3 => .object "LayeredClaims$History"
  | 4 => .object "LayeredClaims$Text"
  | 5 => .object "LayeredClaims$Trays"
  | 6 => .boolean
  | _ => .int
abbrev wsX60 : List Cond := u_ws RX6 TX6 8
theorem nmX6 : ∀ a, a < 8 → ∀ b, b < 8 → a ≠ b → (TX6 a).2.1 ≠ (TX6 b).2.1 := by decide +kernel
theorem tyX6_ok : ∀ k, k < 8 → parseFieldDescriptor (TX6 k).2.2.1 = some (tyX6 k) := by decide +kernel
abbrev cX6_init : ByteArray := prog_1_method_1_code
def yX6_init : MethodName := ⟨RX6, "<init>", "()V"⟩
abbrev cX6_addCover : ByteArray := prog_1_method_2_code
def yX6_addCover : MethodName := ⟨RX6, "addCover", "(IIII)I"⟩
abbrev cX6_addLayer : ByteArray := prog_1_method_3_code
def yX6_addLayer : MethodName := ⟨RX6, "addLayer", "(IIII)I"⟩
abbrev cX6_addEvent : ByteArray := prog_1_method_4_code
def yX6_addEvent : MethodName := ⟨RX6, "addEvent", "(I)I"⟩
abbrev cX6_addClaim : ByteArray := prog_1_method_5_code
def yX6_addClaim : MethodName := ⟨RX6, "addClaim", "(III)I"⟩
abbrev cX6_removeClaim : ByteArray := prog_1_method_6_code
def yX6_removeClaim : MethodName := ⟨RX6, "removeClaim", "(I)I"⟩
abbrev cX6_setDay : ByteArray := prog_1_method_7_code
def yX6_setDay : MethodName := ⟨RX6, "setDay", "(II)I"⟩
abbrev cX6_setDeductible : ByteArray := prog_1_method_8_code
def yX6_setDeductible : MethodName := ⟨RX6, "setDeductible", "(II)I"⟩
abbrev cX6_setIndex : ByteArray := prog_1_method_9_code
def yX6_setIndex : MethodName := ⟨RX6, "setIndex", "(I)I"⟩
abbrev cX6_setRecovery : ByteArray := prog_1_method_10_code
def yX6_setRecovery : MethodName := ⟨RX6, "setRecovery", "(II)I"⟩
abbrev cX6_append : ByteArray := prog_1_method_11_code
def yX6_append : MethodName := ⟨RX6, "append", "(I)I"⟩
abbrev cX6_read : ByteArray := prog_1_method_12_code
def yX6_read : MethodName := ⟨RX6, "read", "()I"⟩
abbrev cX6_faultPosition : ByteArray := prog_1_method_13_code
def yX6_faultPosition : MethodName := ⟨RX6, "faultPosition", "()I"⟩
abbrev cX6_undo : ByteArray := prog_1_method_14_code
def yX6_undo : MethodName := ⟨RX6, "undo", "()I"⟩
abbrev cX6_count : ByteArray := prog_1_method_15_code
def yX6_count : MethodName := ⟨RX6, "count", "(I)I"⟩
abbrev cX6_cover : ByteArray := prog_1_method_16_code
def yX6_cover : MethodName := ⟨RX6, "cover", "(II)I"⟩
abbrev cX6_layer : ByteArray := prog_1_method_17_code
def yX6_layer : MethodName := ⟨RX6, "layer", "(II)I"⟩
abbrev cX6_deductible : ByteArray := prog_1_method_18_code
def yX6_deductible : MethodName := ⟨RX6, "deductible", "(I)I"⟩
abbrev cX6_event : ByteArray := prog_1_method_19_code
def yX6_event : MethodName := ⟨RX6, "event", "(II)I"⟩
abbrev cX6_eventAt : ByteArray := prog_1_method_20_code
def yX6_eventAt : MethodName := ⟨RX6, "eventAt", "(I)I"⟩
abbrev cX6_claim : ByteArray := prog_1_method_21_code
def yX6_claim : MethodName := ⟨RX6, "claim", "(II)I"⟩
abbrev cX6_gross : ByteArray := prog_1_method_22_code
def yX6_gross : MethodName := ⟨RX6, "gross", "(II)I"⟩
abbrev cX6_deducted : ByteArray := prog_1_method_23_code
def yX6_deducted : MethodName := ⟨RX6, "deducted", "(II)I"⟩
abbrev cX6_paid : ByteArray := prog_1_method_24_code
def yX6_paid : MethodName := ⟨RX6, "paid", "(II)I"⟩
abbrev cX6_leftBefore : ByteArray := prog_1_method_25_code
def yX6_leftBefore : MethodName := ⟨RX6, "leftBefore", "(II)I"⟩
abbrev cX6_borne : ByteArray := prog_1_method_26_code
def yX6_borne : MethodName := ⟨RX6, "borne", "(II)I"⟩
abbrev cX6_returned : ByteArray := prog_1_method_27_code
def yX6_returned : MethodName := ⟨RX6, "returned", "(II)I"⟩
abbrev cX6_place : ByteArray := prog_1_method_28_code
def yX6_place : MethodName := ⟨RX6, "place", "(I)I"⟩
abbrev cX6_worst : ByteArray := prog_1_method_29_code
def yX6_worst : MethodName := ⟨RX6, "worst", "()I"⟩
abbrev cX6_account : ByteArray := prog_1_method_30_code
def yX6_account : MethodName := ⟨RX6, "account", "(I)I"⟩
abbrev cX6_result : ByteArray := prog_1_method_31_code
def yX6_result : MethodName := ⟨RX6, "result", "()I"⟩
abbrev cX6_ratioBits : ByteArray := prog_1_method_32_code
def yX6_ratioBits : MethodName := ⟨RX6, "ratioBits", "()I"⟩
abbrev cX6_isBalanced : ByteArray := prog_1_method_33_code
def yX6_isBalanced : MethodName := ⟨RX6, "isBalanced", "()I"⟩
abbrev cX6_paidIf : ByteArray := prog_1_method_34_code
def yX6_paidIf : MethodName := ⟨RX6, "paidIf", "(II)I"⟩
abbrev cX6_leastLimit : ByteArray := prog_1_method_35_code
def yX6_leastLimit : MethodName := ⟨RX6, "leastLimit", "(I)I"⟩
abbrev cX6_file : ByteArray := prog_1_method_36_code
def yX6_file : MethodName := ⟨RX6, "file", "(IIII)I"⟩
abbrev cX6_use : ByteArray := prog_1_method_37_code
def yX6_use : MethodName := ⟨RX6, "use", "(II)I"⟩
abbrev cX6_filed : ByteArray := prog_1_method_38_code
def yX6_filed : MethodName := ⟨RX6, "filed", "(II)I"⟩
abbrev cX6_save : ByteArray := prog_1_method_39_code
def yX6_save : MethodName := ⟨RX6, "save", "()I"⟩
abbrev cX6_restore : ByteArray := prog_1_method_40_code
def yX6_restore : MethodName := ⟨RX6, "restore", "()I"⟩
abbrev cX6_changed : ByteArray := prog_1_method_41_code
def yX6_changed : MethodName := ⟨RX6, "changed", "(I)I"⟩
abbrev cX6_makeEntry : ByteArray := prog_1_method_42_code
def yX6_makeEntry : MethodName := ⟨RX6, "makeEntry", "(I)I"⟩
abbrev cX6_answerOf : ByteArray := prog_1_method_43_code
def yX6_answerOf : MethodName := ⟨RX6, "answerOf", "([[III)I"⟩
abbrev cX6_isWithin : ByteArray := prog_1_method_44_code
def yX6_isWithin : MethodName := ⟨RX6, "isWithin", "(III)Z"⟩
abbrev cX6_quotient : ByteArray := prog_1_method_45_code
def yX6_quotient : MethodName := ⟨RX6, "quotient", "(JJ)I"⟩
abbrev cX6_sumOf : ByteArray := prog_1_method_46_code
def yX6_sumOf : MethodName := ⟨RX6, "sumOf", "([II)I"⟩
abbrev cX6_bitsOfFloat : ByteArray := prog_1_method_47_code
def yX6_bitsOfFloat : MethodName := ⟨RX6, "bitsOfFloat", "(F)I"⟩
def RX7 : String := "LayeredClaimsModel"
def TX7 : u_T := fun k => match k with
  | 0 => ("LayeredClaimsModel", "now", "[I", true)
  | 1 => ("LayeredClaimsModel", "changes", "[I", true)
  | 2 => ("LayeredClaimsModel", "saved", "[I", true)
  | 3 => ("LayeredClaimsModel", "before", "[I", true)
  | 4 => ("LayeredClaimsModel", "changed", "I", false)
  | 5 => ("LayeredClaimsModel", "isSaved", "Z", false)
  | 6 => ("LayeredClaimsModel", "text", "[I", true)
  | 7 => ("LayeredClaimsModel", "length", "I", false)
  | 8 => ("LayeredClaimsModel", "at", "I", false)
  | 9 => ("LayeredClaimsModel", "fault", "I", false)
  | 10 => ("LayeredClaimsModel", "isWrong", "Z", false)
  | 11 => ("LayeredClaimsModel", "numbers", "[I", true)
  | 12 => ("LayeredClaimsModel", "weights", "[I", true)
  | 13 => ("LayeredClaimsModel", "kinds", "[I", true)
  | _ => ("LayeredClaimsModel", "rows", "[I", true)
def tyX7 : Nat → FieldType := fun k => match k with
  | 0 => .array .int
  | 1 => .array .int
  | 2 => .array .int
  | 3 => .array .int
  | 4 => .int
  | 5 => .boolean
  | 6 => .array .int
  | 7 => .int
  | 8 => .int
  | 9 => .int
  | 10 => .boolean
  | 11 => .array .int
  | 12 => .array .int
  | 13 => .array .int
  | _ => .array .int
abbrev wsX70 : List Cond := u_ws RX7 TX7 15
theorem nmX7 : ∀ a, a < 15 → ∀ b, b < 15 → a ≠ b → (TX7 a).2.1 ≠ (TX7 b).2.1 := by decide +kernel
theorem tyX7_ok : ∀ k, k < 15 → parseFieldDescriptor (TX7 k).2.2.1 = some (tyX7 k) := by decide +kernel
abbrev cX7_init : ByteArray := prog_9_method_1_code
def yX7_init : MethodName := ⟨RX7, "<init>", "()V"⟩
abbrev cX7_in : ByteArray := prog_9_method_2_code
def yX7_in : MethodName := ⟨RX7, "in", "(III)Z"⟩
abbrev cX7_copies : ByteArray := prog_9_method_3_code
def yX7_copies : MethodName := ⟨RX7, "copies", "([II[II)V"⟩
abbrev cX7_keeps : ByteArray := prog_9_method_4_code
def yX7_keeps : MethodName := ⟨RX7, "keeps", "()V"⟩
abbrev cX7_changes : ByteArray := prog_9_method_5_code
def yX7_changes : MethodName := ⟨RX7, "changes", "()V"⟩
abbrev cX7_isCover : ByteArray := prog_9_method_6_code
def yX7_isCover : MethodName := ⟨RX7, "isCover", "(I)Z"⟩
abbrev cX7_isLayer : ByteArray := prog_9_method_7_code
def yX7_isLayer : MethodName := ⟨RX7, "isLayer", "(I)Z"⟩
abbrev cX7_isEvent : ByteArray := prog_9_method_8_code
def yX7_isEvent : MethodName := ⟨RX7, "isEvent", "(I)Z"⟩
abbrev cX7_isClaim : ByteArray := prog_9_method_9_code
def yX7_isClaim : MethodName := ⟨RX7, "isClaim", "(I)Z"⟩
abbrev cX7_isGroup : ByteArray := prog_9_method_10_code
def yX7_isGroup : MethodName := ⟨RX7, "isGroup", "(I)Z"⟩
abbrev cX7_laysCover : ByteArray := prog_9_method_11_code
def yX7_laysCover : MethodName := ⟨RX7, "laysCover", "(IIII)I"⟩
abbrev cX7_puts : ByteArray := prog_9_method_12_code
def yX7_puts : MethodName := ⟨RX7, "puts", "(IIIIII)I"⟩
abbrev cX7_laysLayer : ByteArray := prog_9_method_13_code
def yX7_laysLayer : MethodName := ⟨RX7, "laysLayer", "(IIII)I"⟩
abbrev cX7_laysEvent : ByteArray := prog_9_method_14_code
def yX7_laysEvent : MethodName := ⟨RX7, "laysEvent", "(I)I"⟩
abbrev cX7_laysClaim : ByteArray := prog_9_method_15_code
def yX7_laysClaim : MethodName := ⟨RX7, "laysClaim", "(III)I"⟩
abbrev cX7_laysRecovery : ByteArray := prog_9_method_16_code
def yX7_laysRecovery : MethodName := ⟨RX7, "laysRecovery", "(II)I"⟩
abbrev cX7_made : ByteArray := prog_9_method_17_code
def yX7_made : MethodName := ⟨RX7, "made", "(I)I"⟩
abbrev cX7_addCover : ByteArray := prog_9_method_18_code
def yX7_addCover : MethodName := ⟨RX7, "addCover", "(IIII)I"⟩
abbrev cX7_addLayer : ByteArray := prog_9_method_19_code
def yX7_addLayer : MethodName := ⟨RX7, "addLayer", "(IIII)I"⟩
abbrev cX7_addEvent : ByteArray := prog_9_method_20_code
def yX7_addEvent : MethodName := ⟨RX7, "addEvent", "(I)I"⟩
abbrev cX7_addClaim : ByteArray := prog_9_method_21_code
def yX7_addClaim : MethodName := ⟨RX7, "addClaim", "(III)I"⟩
abbrev cX7_removeClaim : ByteArray := prog_9_method_22_code
def yX7_removeClaim : MethodName := ⟨RX7, "removeClaim", "(I)I"⟩
abbrev cX7_setDay : ByteArray := prog_9_method_23_code
def yX7_setDay : MethodName := ⟨RX7, "setDay", "(II)I"⟩
abbrev cX7_setDeductible : ByteArray := prog_9_method_24_code
def yX7_setDeductible : MethodName := ⟨RX7, "setDeductible", "(II)I"⟩
abbrev cX7_setIndex : ByteArray := prog_9_method_25_code
def yX7_setIndex : MethodName := ⟨RX7, "setIndex", "(I)I"⟩
abbrev cX7_setRecovery : ByteArray := prog_9_method_26_code
def yX7_setRecovery : MethodName := ⟨RX7, "setRecovery", "(II)I"⟩
abbrev cX7_append : ByteArray := prog_9_method_27_code
def yX7_append : MethodName := ⟨RX7, "append", "(I)I"⟩
abbrev cX7_sign : ByteArray := prog_9_method_28_code
def yX7_sign : MethodName := ⟨RX7, "sign", "()I"⟩
abbrev cX7_takes : ByteArray := prog_9_method_29_code
def yX7_takes : MethodName := ⟨RX7, "takes", "(I)V"⟩
abbrev cX7_number : ByteArray := prog_9_method_30_code
def yX7_number : MethodName := ⟨RX7, "number", "()I"⟩
abbrev cX7_entry : ByteArray := prog_9_method_31_code
def yX7_entry : MethodName := ⟨RX7, "entry", "()I"⟩
abbrev cX7_isFaulty : ByteArray := prog_9_method_32_code
def yX7_isFaulty : MethodName := ⟨RX7, "isFaulty", "()Z"⟩
abbrev cX7_read : ByteArray := prog_9_method_33_code
def yX7_read : MethodName := ⟨RX7, "read", "()I"⟩
abbrev cX7_faultPosition : ByteArray := prog_9_method_34_code
def yX7_faultPosition : MethodName := ⟨RX7, "faultPosition", "()I"⟩
abbrev cX7_undo : ByteArray := prog_9_method_35_code
def yX7_undo : MethodName := ⟨RX7, "undo", "()I"⟩
abbrev cX7_count : ByteArray := prog_9_method_36_code
def yX7_count : MethodName := ⟨RX7, "count", "(I)I"⟩
abbrev cX7_isBefore : ByteArray := prog_9_method_37_code
def yX7_isBefore : MethodName := ⟨RX7, "isBefore", "(II)Z"⟩
abbrev cX7_positionOf : ByteArray := prog_9_method_38_code
def yX7_positionOf : MethodName := ⟨RX7, "positionOf", "(I)I"⟩
abbrev cX7_eventOn : ByteArray := prog_9_method_39_code
def yX7_eventOn : MethodName := ⟨RX7, "eventOn", "(I)I"⟩
abbrev cX7_lossOf : ByteArray := prog_9_method_40_code
def yX7_lossOf : MethodName := ⟨RX7, "lossOf", "(I)I"⟩
abbrev cX7_isOf : ByteArray := prog_9_method_41_code
def yX7_isOf : MethodName := ⟨RX7, "isOf", "(III)Z"⟩
abbrev cX7_lossesOf : ByteArray := prog_9_method_42_code
def yX7_lossesOf : MethodName := ⟨RX7, "lossesOf", "(II)I"⟩
abbrev cX7_grossOf : ByteArray := prog_9_method_43_code
def yX7_grossOf : MethodName := ⟨RX7, "grossOf", "(II)I"⟩
abbrev cX7_shareOf : ByteArray := prog_9_method_44_code
def yX7_shareOf : MethodName := ⟨RX7, "shareOf", "(III)I"⟩
abbrev cX7_deductedOf : ByteArray := prog_9_method_45_code
def yX7_deductedOf : MethodName := ⟨RX7, "deductedOf", "(II)I"⟩
abbrev cX7_netOf : ByteArray := prog_9_method_46_code
def yX7_netOf : MethodName := ⟨RX7, "netOf", "(II)I"⟩
abbrev cX7_leftAt : ByteArray := prog_9_method_47_code
def yX7_leftAt : MethodName := ⟨RX7, "leftAt", "(II)I"⟩
abbrev cX7_paidOf : ByteArray := prog_9_method_48_code
def yX7_paidOf : MethodName := ⟨RX7, "paidOf", "(II)I"⟩
abbrev cX7_paidFor : ByteArray := prog_9_method_49_code
def yX7_paidFor : MethodName := ⟨RX7, "paidFor", "(I)I"⟩
abbrev cX7_paidByAll : ByteArray := prog_9_method_50_code
def yX7_paidByAll : MethodName := ⟨RX7, "paidByAll", "(I)I"⟩
abbrev cX7_burdenOf : ByteArray := prog_9_method_51_code
def yX7_burdenOf : MethodName := ⟨RX7, "burdenOf", "(I)I"⟩
abbrev cX7_capacityOf : ByteArray := prog_9_method_52_code
def yX7_capacityOf : MethodName := ⟨RX7, "capacityOf", "(I)I"⟩
abbrev cX7_wantOf : ByteArray := prog_9_method_53_code
def yX7_wantOf : MethodName := ⟨RX7, "wantOf", "(II)I"⟩
abbrev cX7_capacityAt : ByteArray := prog_9_method_54_code
def yX7_capacityAt : MethodName := ⟨RX7, "capacityAt", "(II)I"⟩
abbrev cX7_borneOf : ByteArray := prog_9_method_55_code
def yX7_borneOf : MethodName := ⟨RX7, "borneOf", "(II)I"⟩
abbrev cX7_retainedOf : ByteArray := prog_9_method_56_code
def yX7_retainedOf : MethodName := ⟨RX7, "retainedOf", "(I)I"⟩
abbrev cX7_borneInAll : ByteArray := prog_9_method_57_code
def yX7_borneInAll : MethodName := ⟨RX7, "borneInAll", "(I)I"⟩
abbrev cX7_reinstated : ByteArray := prog_9_method_58_code
def yX7_reinstated : MethodName := ⟨RX7, "reinstated", "(I)I"⟩
abbrev cX7_reinstatementPremium : ByteArray := prog_9_method_59_code
def yX7_reinstatementPremium : MethodName := ⟨RX7, "reinstatementPremium", "(I)I"⟩
abbrev cX7_paidInAll : ByteArray := prog_9_method_60_code
def yX7_paidInAll : MethodName := ⟨RX7, "paidInAll", "(I)I"⟩
abbrev cX7_cover : ByteArray := prog_9_method_61_code
def yX7_cover : MethodName := ⟨RX7, "cover", "(II)I"⟩
abbrev cX7_layer : ByteArray := prog_9_method_62_code
def yX7_layer : MethodName := ⟨RX7, "layer", "(II)I"⟩
abbrev cX7_deductible : ByteArray := prog_9_method_63_code
def yX7_deductible : MethodName := ⟨RX7, "deductible", "(I)I"⟩
abbrev cX7_manyClaims : ByteArray := prog_9_method_64_code
def yX7_manyClaims : MethodName := ⟨RX7, "manyClaims", "(I)I"⟩
abbrev cX7_lossesIn : ByteArray := prog_9_method_65_code
def yX7_lossesIn : MethodName := ⟨RX7, "lossesIn", "(I)I"⟩
abbrev cX7_event : ByteArray := prog_9_method_66_code
def yX7_event : MethodName := ⟨RX7, "event", "(II)I"⟩
abbrev cX7_eventAt : ByteArray := prog_9_method_67_code
def yX7_eventAt : MethodName := ⟨RX7, "eventAt", "(I)I"⟩
abbrev cX7_reasonOf : ByteArray := prog_9_method_68_code
def yX7_reasonOf : MethodName := ⟨RX7, "reasonOf", "(I)I"⟩
abbrev cX7_claim : ByteArray := prog_9_method_69_code
def yX7_claim : MethodName := ⟨RX7, "claim", "(II)I"⟩
abbrev cX7_areThere : ByteArray := prog_9_method_70_code
def yX7_areThere : MethodName := ⟨RX7, "areThere", "(II)Z"⟩
abbrev cX7_gross : ByteArray := prog_9_method_71_code
def yX7_gross : MethodName := ⟨RX7, "gross", "(II)I"⟩
abbrev cX7_deducted : ByteArray := prog_9_method_72_code
def yX7_deducted : MethodName := ⟨RX7, "deducted", "(II)I"⟩
abbrev cX7_paid : ByteArray := prog_9_method_73_code
def yX7_paid : MethodName := ⟨RX7, "paid", "(II)I"⟩
abbrev cX7_leftBefore : ByteArray := prog_9_method_74_code
def yX7_leftBefore : MethodName := ⟨RX7, "leftBefore", "(II)I"⟩
abbrev cX7_borne : ByteArray := prog_9_method_75_code
def yX7_borne : MethodName := ⟨RX7, "borne", "(II)I"⟩
abbrev cX7_returned : ByteArray := prog_9_method_76_code
def yX7_returned : MethodName := ⟨RX7, "returned", "(II)I"⟩
abbrev cX7_place : ByteArray := prog_9_method_77_code
def yX7_place : MethodName := ⟨RX7, "place", "(I)I"⟩
abbrev cX7_worst : ByteArray := prog_9_method_78_code
def yX7_worst : MethodName := ⟨RX7, "worst", "()I"⟩
abbrev cX7_allPaid : ByteArray := prog_9_method_79_code
def yX7_allPaid : MethodName := ⟨RX7, "allPaid", "()I"⟩
abbrev cX7_allDeducted : ByteArray := prog_9_method_80_code
def yX7_allDeducted : MethodName := ⟨RX7, "allDeducted", "()I"⟩
abbrev cX7_premiums : ByteArray := prog_9_method_81_code
def yX7_premiums : MethodName := ⟨RX7, "premiums", "(II)I"⟩
abbrev cX7_layerPremiums : ByteArray := prog_9_method_82_code
def yX7_layerPremiums : MethodName := ⟨RX7, "layerPremiums", "()I"⟩
abbrev cX7_overEvents : ByteArray := prog_9_method_83_code
def yX7_overEvents : MethodName := ⟨RX7, "overEvents", "(I)I"⟩
abbrev cX7_allBorne : ByteArray := prog_9_method_84_code
def yX7_allBorne : MethodName := ⟨RX7, "allBorne", "()I"⟩
abbrev cX7_account : ByteArray := prog_9_method_85_code
def yX7_account : MethodName := ⟨RX7, "account", "(I)I"⟩
abbrev cX7_result : ByteArray := prog_9_method_86_code
def yX7_result : MethodName := ⟨RX7, "result", "()I"⟩
abbrev cX7_ratioBits : ByteArray := prog_9_method_87_code
def yX7_ratioBits : MethodName := ⟨RX7, "ratioBits", "()I"⟩
abbrev cX7_isBalanced : ByteArray := prog_9_method_88_code
def yX7_isBalanced : MethodName := ⟨RX7, "isBalanced", "()I"⟩
abbrev cX7_paidIf : ByteArray := prog_9_method_89_code
def yX7_paidIf : MethodName := ⟨RX7, "paidIf", "(II)I"⟩
abbrev cX7_leastLimit : ByteArray := prog_9_method_90_code
def yX7_leastLimit : MethodName := ⟨RX7, "leastLimit", "(I)I"⟩
abbrev cX7_isPlace : ByteArray := prog_9_method_91_code
def yX7_isPlace : MethodName := ⟨RX7, "isPlace", "(II)Z"⟩
abbrev cX7_file : ByteArray := prog_9_method_92_code
def yX7_file : MethodName := ⟨RX7, "file", "(IIII)I"⟩
abbrev cX7_use : ByteArray := prog_9_method_93_code
def yX7_use : MethodName := ⟨RX7, "use", "(II)I"⟩
abbrev cX7_filed : ByteArray := prog_9_method_94_code
def yX7_filed : MethodName := ⟨RX7, "filed", "(II)I"⟩
abbrev cX7_save : ByteArray := prog_9_method_95_code
def yX7_save : MethodName := ⟨RX7, "save", "()I"⟩
abbrev cX7_restore : ByteArray := prog_9_method_96_code
def yX7_restore : MethodName := ⟨RX7, "restore", "()I"⟩
def RJxf58ca : String := "java/lang/Float"
def TJxf58ca : u_T := fun k => match k with
  | _ => ("", "", "", false)
def tyJxf58ca : Nat → FieldType := fun k => match k with
  | _ => .int
abbrev wsJxf58ca0 : List Cond := u_ws RJxf58ca TJxf58ca 0
theorem nmJxf58ca : ∀ a, a < 0 → ∀ b, b < 0 → a ≠ b → (TJxf58ca a).2.1 ≠ (TJxf58ca b).2.1 := by decide +kernel
theorem tyJxf58ca_ok : ∀ k, k < 0 → parseFieldDescriptor (TJxf58ca k).2.2.1 = some (tyJxf58ca k) := by decide +kernel
abbrev cJxf58ca_isNaN_12338 : ByteArray := prog_10_method_6_code
def yJxf58ca_isNaN_12338 : MethodName := ⟨RJxf58ca, "isNaN", "(F)Z"⟩
abbrev cJxf58ca_floatToIntBits_5c35a : ByteArray := prog_10_method_24_code
def yJxf58ca_floatToIntBits_5c35a : MethodName := ⟨RJxf58ca, "floatToIntBits", "(F)I"⟩
def RJ9 : String := "java/lang/Math"
def TJ9 : u_T := fun k => match k with
  | _ => ("", "", "", false)
def tyJ9 : Nat → FieldType := fun k => match k with
  | _ => .int
abbrev wsJ90 : List Cond := u_ws RJ9 TJ9 0
theorem nmJ9 : ∀ a, a < 0 → ∀ b, b < 0 → a ≠ b → (TJ9 a).2.1 ≠ (TJ9 b).2.1 := by decide +kernel
theorem tyJ9_ok : ∀ k, k < 0 → parseFieldDescriptor (TJ9 k).2.2.1 = some (tyJ9 k) := by decide +kernel
abbrev cJ9_max_7cf53 : ByteArray := prog_11_method_65_code
def yJ9_max_7cf53 : MethodName := ⟨RJ9, "max", "(II)I"⟩
abbrev cJ9_min_7cf53 : ByteArray := prog_11_method_69_code
def yJ9_min_7cf53 : MethodName := ⟨RJ9, "min", "(II)I"⟩
def RJ10 : String := "java/lang/System"
def TJ10 : u_T := fun k => match k with
  | _ => ("", "", "", false)
def tyJ10 : Nat → FieldType := fun k => match k with
  | _ => .int
abbrev wsJ100 : List Cond := u_ws RJ10 TJ10 0
theorem nmJ10 : ∀ a, a < 0 → ∀ b, b < 0 → a ≠ b → (TJ10 a).2.1 ≠ (TJ10 b).2.1 := by decide +kernel
theorem tyJ10_ok : ∀ k, k < 0 → parseFieldDescriptor (TJ10 k).2.2.1 = some (tyJ10 k) := by decide +kernel
def RL : String := "LayeredClaimsLaw"
abbrev cL_law : ByteArray := code
def yL_law : MethodName := ⟨RL, "law", "([I)Z"⟩
theorem inX0 : ∀ w ∈ wsX00, w ∈ lw_tbl := by decide +kernel
theorem inX1 : ∀ w ∈ wsX10, w ∈ lw_tbl := by decide +kernel
theorem inX2 : ∀ w ∈ wsX20, w ∈ lw_tbl := by decide +kernel
theorem inX3 : ∀ w ∈ wsX30, w ∈ lw_tbl := by decide +kernel
theorem inX4 : ∀ w ∈ wsX40, w ∈ lw_tbl := by decide +kernel
theorem inX5 : ∀ w ∈ wsX50, w ∈ lw_tbl := by decide +kernel
theorem inX6 : ∀ w ∈ wsX60, w ∈ lw_tbl := by decide +kernel
theorem inX7 : ∀ w ∈ wsX70, w ∈ lw_tbl := by decide +kernel
theorem inJxf58ca : ∀ w ∈ wsJxf58ca0, w ∈ lw_tbl := by decide +kernel
theorem inJ9 : ∀ w ∈ wsJ90, w ∈ lw_tbl := by decide +kernel
theorem inJ10 : ∀ w ∈ wsJ100, w ∈ lw_tbl := by decide +kernel
theorem dX0_init_0 : decode cX0_init 0 = .ok (.aload_n 0, 1) := by decide +kernel
theorem dX0_init_1 : decode cX0_init 1 = .ok (.invokespecial 3, 3) := by decide +kernel
theorem dX0_init_4 : decode cX0_init 4 = .ok (.aload_n 0, 1) := by decide +kernel
theorem dX0_init_5 : decode cX0_init 5 = .ok (.bipush 6, 2) := by decide +kernel
theorem dX0_init_7 : decode cX0_init 7 = .ok (.newarray .int, 2) := by decide +kernel
theorem dX0_init_9 : decode cX0_init 9 = .ok (.putfield 9, 3) := by decide +kernel
theorem dX0_init_12 : decode cX0_init 12 = .ok (.aload_n 0, 1) := by decide +kernel
theorem dX0_init_13 : decode cX0_init 13 = .ok (.bipush 6, 2) := by decide +kernel
theorem dX0_init_15 : decode cX0_init 15 = .ok (.newarray .int, 2) := by decide +kernel
theorem dX0_init_17 : decode cX0_init 17 = .ok (.putfield 15, 3) := by decide +kernel
theorem dX0_init_20 : decode cX0_init 20 = .ok (.aload_n 0, 1) := by decide +kernel
theorem dX0_init_21 : decode cX0_init 21 = .ok (.bipush 6, 2) := by decide +kernel
theorem dX0_init_23 : decode cX0_init 23 = .ok (.newarray .int, 2) := by decide +kernel
theorem dX0_init_25 : decode cX0_init 25 = .ok (.putfield 18, 3) := by decide +kernel
theorem dX0_init_28 : decode cX0_init 28 = .ok (.aload_n 0, 1) := by decide +kernel
theorem dX0_init_29 : decode cX0_init 29 = .ok (.bipush 6, 2) := by decide +kernel
theorem dX0_init_31 : decode cX0_init 31 = .ok (.newarray .int, 2) := by decide +kernel
theorem dX0_init_33 : decode cX0_init 33 = .ok (.putfield 21, 3) := by decide +kernel
theorem dX0_init_36 : decode cX0_init 36 = .ok (.aload_n 0, 1) := by decide +kernel
theorem dX0_init_37 : decode cX0_init 37 = .ok (.iconst 4, 1) := by decide +kernel
theorem dX0_init_38 : decode cX0_init 38 = .ok (.newarray .int, 2) := by decide +kernel
theorem dX0_init_40 : decode cX0_init 40 = .ok (.putfield 24, 3) := by decide +kernel
theorem dX0_init_43 : decode cX0_init 43 = .ok (.aload_n 0, 1) := by decide +kernel
theorem dX0_init_44 : decode cX0_init 44 = .ok (.iconst 4, 1) := by decide +kernel
theorem dX0_init_45 : decode cX0_init 45 = .ok (.newarray .int, 2) := by decide +kernel
theorem dX0_init_47 : decode cX0_init 47 = .ok (.putfield 27, 3) := by decide +kernel
theorem dX0_init_50 : decode cX0_init 50 = .ok (.aload_n 0, 1) := by decide +kernel
theorem dX0_init_51 : decode cX0_init 51 = .ok (.iconst 4, 1) := by decide +kernel
theorem dX0_init_52 : decode cX0_init 52 = .ok (.newarray .int, 2) := by decide +kernel
theorem dX0_init_54 : decode cX0_init 54 = .ok (.putfield 30, 3) := by decide +kernel
theorem dX0_init_57 : decode cX0_init 57 = .ok (.aload_n 0, 1) := by decide +kernel
theorem dX0_init_58 : decode cX0_init 58 = .ok (.iconst 4, 1) := by decide +kernel
theorem dX0_init_59 : decode cX0_init 59 = .ok (.newarray .int, 2) := by decide +kernel
theorem dX0_init_61 : decode cX0_init 61 = .ok (.putfield 33, 3) := by decide +kernel
theorem dX0_init_64 : decode cX0_init 64 = .ok (.aload_n 0, 1) := by decide +kernel
theorem dX0_init_65 : decode cX0_init 65 = .ok (.iconst 3, 1) := by decide +kernel
theorem dX0_init_66 : decode cX0_init 66 = .ok (.newarray .int, 2) := by decide +kernel
theorem dX0_init_68 : decode cX0_init 68 = .ok (.putfield 36, 3) := by decide +kernel
theorem dX0_init_71 : decode cX0_init 71 = .ok (.aload_n 0, 1) := by decide +kernel
theorem dX0_init_72 : decode cX0_init 72 = .ok (.bipush 8, 2) := by decide +kernel
theorem dX0_init_74 : decode cX0_init 74 = .ok (.newarray .int, 2) := by decide +kernel
theorem dX0_init_76 : decode cX0_init 76 = .ok (.putfield 39, 3) := by decide +kernel
theorem dX0_init_79 : decode cX0_init 79 = .ok (.aload_n 0, 1) := by decide +kernel
theorem dX0_init_80 : decode cX0_init 80 = .ok (.bipush 8, 2) := by decide +kernel
theorem dX0_init_82 : decode cX0_init 82 = .ok (.newarray .int, 2) := by decide +kernel
theorem dX0_init_84 : decode cX0_init 84 = .ok (.putfield 42, 3) := by decide +kernel
theorem dX0_init_87 : decode cX0_init 87 = .ok (.aload_n 0, 1) := by decide +kernel
theorem dX0_init_88 : decode cX0_init 88 = .ok (.bipush 24, 2) := by decide +kernel
theorem dX0_init_90 : decode cX0_init 90 = .ok (.newarray .int, 2) := by decide +kernel
theorem dX0_init_92 : decode cX0_init 92 = .ok (.putfield 45, 3) := by decide +kernel
theorem dX0_init_95 : decode cX0_init 95 = .ok (.aload_n 0, 1) := by decide +kernel
theorem dX0_init_96 : decode cX0_init 96 = .ok (.bipush 24, 2) := by decide +kernel
theorem dX0_init_98 : decode cX0_init 98 = .ok (.newarray .int, 2) := by decide +kernel
theorem dX0_init_100 : decode cX0_init 100 = .ok (.putfield 48, 3) := by decide +kernel
theorem dX0_init_103 : decode cX0_init 103 = .ok (.aload_n 0, 1) := by decide +kernel
theorem dX0_init_104 : decode cX0_init 104 = .ok (.bipush 24, 2) := by decide +kernel
theorem dX0_init_106 : decode cX0_init 106 = .ok (.newarray .int, 2) := by decide +kernel
theorem dX0_init_108 : decode cX0_init 108 = .ok (.putfield 51, 3) := by decide +kernel
theorem dX0_init_111 : decode cX0_init 111 = .ok (.return_, 1) := by decide +kernel
theorem dX0_hasCover_0 : decode cX0_hasCover 0 = .ok (.iload_n 1, 1) := by decide +kernel
theorem dX0_hasCover_1 : decode cX0_hasCover 1 = .ok (.iconst 0, 1) := by decide +kernel
theorem dX0_hasCover_2 : decode cX0_hasCover 2 = .ok (.aload_n 0, 1) := by decide +kernel
theorem dX0_hasCover_3 : decode cX0_hasCover 3 = .ok (.getfield 54, 3) := by decide +kernel
theorem dX0_hasCover_6 : decode cX0_hasCover 6 = .ok (.iconst 1, 1) := by decide +kernel
theorem dX0_hasCover_7 : decode cX0_hasCover 7 = .ok (.isub, 1) := by decide +kernel
theorem dX0_hasCover_8 : decode cX0_hasCover 8 = .ok (.invokestatic 58, 3) := by decide +kernel
theorem dX0_hasCover_11 : decode cX0_hasCover 11 = .ok (.ireturn, 1) := by decide +kernel
theorem dX0_hasLayer_0 : decode cX0_hasLayer 0 = .ok (.iload_n 1, 1) := by decide +kernel
theorem dX0_hasLayer_1 : decode cX0_hasLayer 1 = .ok (.iconst 0, 1) := by decide +kernel
theorem dX0_hasLayer_2 : decode cX0_hasLayer 2 = .ok (.aload_n 0, 1) := by decide +kernel
theorem dX0_hasLayer_3 : decode cX0_hasLayer 3 = .ok (.getfield 62, 3) := by decide +kernel
theorem dX0_hasLayer_6 : decode cX0_hasLayer 6 = .ok (.iconst 1, 1) := by decide +kernel
theorem dX0_hasLayer_7 : decode cX0_hasLayer 7 = .ok (.isub, 1) := by decide +kernel
theorem dX0_hasLayer_8 : decode cX0_hasLayer 8 = .ok (.invokestatic 58, 3) := by decide +kernel
theorem dX0_hasLayer_11 : decode cX0_hasLayer 11 = .ok (.ireturn, 1) := by decide +kernel
theorem dX0_hasEvent_0 : decode cX0_hasEvent 0 = .ok (.iload_n 1, 1) := by decide +kernel
theorem dX0_hasEvent_1 : decode cX0_hasEvent 1 = .ok (.iconst 0, 1) := by decide +kernel
theorem dX0_hasEvent_2 : decode cX0_hasEvent 2 = .ok (.aload_n 0, 1) := by decide +kernel
theorem dX0_hasEvent_3 : decode cX0_hasEvent 3 = .ok (.getfield 65, 3) := by decide +kernel
theorem dX0_hasEvent_6 : decode cX0_hasEvent 6 = .ok (.iconst 1, 1) := by decide +kernel
theorem dX0_hasEvent_7 : decode cX0_hasEvent 7 = .ok (.isub, 1) := by decide +kernel
theorem dX0_hasEvent_8 : decode cX0_hasEvent 8 = .ok (.invokestatic 58, 3) := by decide +kernel
theorem dX0_hasEvent_11 : decode cX0_hasEvent 11 = .ok (.ireturn, 1) := by decide +kernel
theorem dX0_hasClaim_0 : decode cX0_hasClaim 0 = .ok (.iload_n 1, 1) := by decide +kernel
theorem dX0_hasClaim_1 : decode cX0_hasClaim 1 = .ok (.iconst 0, 1) := by decide +kernel
theorem dX0_hasClaim_2 : decode cX0_hasClaim 2 = .ok (.aload_n 0, 1) := by decide +kernel
theorem dX0_hasClaim_3 : decode cX0_hasClaim 3 = .ok (.getfield 68, 3) := by decide +kernel
theorem dX0_hasClaim_6 : decode cX0_hasClaim 6 = .ok (.iconst 1, 1) := by decide +kernel
theorem dX0_hasClaim_7 : decode cX0_hasClaim 7 = .ok (.isub, 1) := by decide +kernel
theorem dX0_hasClaim_8 : decode cX0_hasClaim 8 = .ok (.invokestatic 58, 3) := by decide +kernel
theorem dX0_hasClaim_11 : decode cX0_hasClaim 11 = .ok (.ireturn, 1) := by decide +kernel
theorem dX0_insertCover_0 : decode cX0_insertCover 0 = .ok (.iload_n 1, 1) := by decide +kernel
theorem dX0_insertCover_1 : decode cX0_insertCover 1 = .ok (.iconst 1, 1) := by decide +kernel
theorem dX0_insertCover_2 : decode cX0_insertCover 2 = .ok (.ldc 71, 2) := by decide +kernel
theorem dX0_insertCover_4 : decode cX0_insertCover 4 = .ok (.invokestatic 58, 3) := by decide +kernel
theorem dX0_insertCover_7 : decode cX0_insertCover 7 = .ok (.ifCond .eq 33, 3) := by decide +kernel
theorem dX0_insertCover_10 : decode cX0_insertCover 10 = .ok (.iload_n 2, 1) := by decide +kernel
theorem dX0_insertCover_11 : decode cX0_insertCover 11 = .ok (.iconst 1, 1) := by decide +kernel
theorem dX0_insertCover_12 : decode cX0_insertCover 12 = .ok (.ldc 71, 2) := by decide +kernel
theorem dX0_insertCover_14 : decode cX0_insertCover 14 = .ok (.invokestatic 58, 3) := by decide +kernel
theorem dX0_insertCover_17 : decode cX0_insertCover 17 = .ok (.ifCond .eq 23, 3) := by decide +kernel
theorem dX0_insertCover_20 : decode cX0_insertCover 20 = .ok (.iload_n 3, 1) := by decide +kernel
theorem dX0_insertCover_21 : decode cX0_insertCover 21 = .ok (.iconst 0, 1) := by decide +kernel
theorem dX0_insertCover_22 : decode cX0_insertCover 22 = .ok (.ldc 71, 2) := by decide +kernel
theorem dX0_insertCover_24 : decode cX0_insertCover 24 = .ok (.invokestatic 58, 3) := by decide +kernel
theorem dX0_insertCover_27 : decode cX0_insertCover 27 = .ok (.ifCond .eq 13, 3) := by decide +kernel
theorem dX0_insertCover_30 : decode cX0_insertCover 30 = .ok (.iload 4, 2) := by decide +kernel
theorem dX0_insertCover_32 : decode cX0_insertCover 32 = .ok (.iconst 0, 1) := by decide +kernel
theorem dX0_insertCover_33 : decode cX0_insertCover 33 = .ok (.iconst 2, 1) := by decide +kernel
theorem dX0_insertCover_34 : decode cX0_insertCover 34 = .ok (.invokestatic 58, 3) := by decide +kernel
theorem dX0_insertCover_37 : decode cX0_insertCover 37 = .ok (.ifCond .ne 6, 3) := by decide +kernel
theorem dX0_insertCover_40 : decode cX0_insertCover 40 = .ok (.bipush (-2), 2) := by decide +kernel
theorem dX0_insertCover_42 : decode cX0_insertCover 42 = .ok (.ireturn, 1) := by decide +kernel
theorem dX0_insertCover_43 : decode cX0_insertCover 43 = .ok (.aload_n 0, 1) := by decide +kernel
theorem dX0_insertCover_44 : decode cX0_insertCover 44 = .ok (.getfield 54, 3) := by decide +kernel
theorem dX0_insertCover_47 : decode cX0_insertCover 47 = .ok (.bipush 6, 2) := by decide +kernel
theorem dX0_insertCover_49 : decode cX0_insertCover 49 = .ok (.if_icmp .lt 6, 3) := by decide +kernel
theorem dX0_insertCover_52 : decode cX0_insertCover 52 = .ok (.bipush (-3), 2) := by decide +kernel
theorem dX0_insertCover_54 : decode cX0_insertCover 54 = .ok (.ireturn, 1) := by decide +kernel
theorem dX0_insertCover_55 : decode cX0_insertCover 55 = .ok (.aload_n 0, 1) := by decide +kernel
theorem dX0_insertCover_56 : decode cX0_insertCover 56 = .ok (.getfield 9, 3) := by decide +kernel
theorem dX0_insertCover_59 : decode cX0_insertCover 59 = .ok (.aload_n 0, 1) := by decide +kernel
theorem dX0_insertCover_60 : decode cX0_insertCover 60 = .ok (.getfield 54, 3) := by decide +kernel
theorem dX0_insertCover_63 : decode cX0_insertCover 63 = .ok (.iload_n 1, 1) := by decide +kernel
theorem dX0_insertCover_64 : decode cX0_insertCover 64 = .ok (.iastore, 1) := by decide +kernel
theorem dX0_insertCover_65 : decode cX0_insertCover 65 = .ok (.aload_n 0, 1) := by decide +kernel
theorem dX0_insertCover_66 : decode cX0_insertCover 66 = .ok (.getfield 15, 3) := by decide +kernel
theorem dX0_insertCover_69 : decode cX0_insertCover 69 = .ok (.aload_n 0, 1) := by decide +kernel
theorem dX0_insertCover_70 : decode cX0_insertCover 70 = .ok (.getfield 54, 3) := by decide +kernel
theorem dX0_insertCover_73 : decode cX0_insertCover 73 = .ok (.iload_n 2, 1) := by decide +kernel
theorem dX0_insertCover_74 : decode cX0_insertCover 74 = .ok (.iastore, 1) := by decide +kernel
theorem dX0_insertCover_75 : decode cX0_insertCover 75 = .ok (.aload_n 0, 1) := by decide +kernel
theorem dX0_insertCover_76 : decode cX0_insertCover 76 = .ok (.getfield 18, 3) := by decide +kernel
theorem dX0_insertCover_79 : decode cX0_insertCover 79 = .ok (.aload_n 0, 1) := by decide +kernel
theorem dX0_insertCover_80 : decode cX0_insertCover 80 = .ok (.getfield 54, 3) := by decide +kernel
theorem dX0_insertCover_83 : decode cX0_insertCover 83 = .ok (.iload_n 3, 1) := by decide +kernel
theorem dX0_insertCover_84 : decode cX0_insertCover 84 = .ok (.iastore, 1) := by decide +kernel
theorem dX0_insertCover_85 : decode cX0_insertCover 85 = .ok (.aload_n 0, 1) := by decide +kernel
theorem dX0_insertCover_86 : decode cX0_insertCover 86 = .ok (.getfield 21, 3) := by decide +kernel
theorem dX0_insertCover_89 : decode cX0_insertCover 89 = .ok (.aload_n 0, 1) := by decide +kernel
theorem dX0_insertCover_90 : decode cX0_insertCover 90 = .ok (.getfield 54, 3) := by decide +kernel
theorem dX0_insertCover_93 : decode cX0_insertCover 93 = .ok (.iload 4, 2) := by decide +kernel
theorem dX0_insertCover_95 : decode cX0_insertCover 95 = .ok (.iastore, 1) := by decide +kernel
theorem dX0_insertCover_96 : decode cX0_insertCover 96 = .ok (.aload_n 0, 1) := by decide +kernel
theorem dX0_insertCover_97 : decode cX0_insertCover 97 = .ok (.dup, 1) := by decide +kernel
theorem dX0_insertCover_98 : decode cX0_insertCover 98 = .ok (.getfield 54, 3) := by decide +kernel
theorem dX0_insertCover_101 : decode cX0_insertCover 101 = .ok (.iconst 1, 1) := by decide +kernel
theorem dX0_insertCover_102 : decode cX0_insertCover 102 = .ok (.iadd, 1) := by decide +kernel
theorem dX0_insertCover_103 : decode cX0_insertCover 103 = .ok (.putfield 54, 3) := by decide +kernel
theorem dX0_insertCover_106 : decode cX0_insertCover 106 = .ok (.aload_n 0, 1) := by decide +kernel
theorem dX0_insertCover_107 : decode cX0_insertCover 107 = .ok (.getfield 54, 3) := by decide +kernel
theorem dX0_insertCover_110 : decode cX0_insertCover 110 = .ok (.iconst 1, 1) := by decide +kernel
theorem dX0_insertCover_111 : decode cX0_insertCover 111 = .ok (.isub, 1) := by decide +kernel
theorem dX0_insertCover_112 : decode cX0_insertCover 112 = .ok (.ireturn, 1) := by decide +kernel
theorem dX0_insertLayer_0 : decode cX0_insertLayer 0 = .ok (.iload_n 1, 1) := by decide +kernel
theorem dX0_insertLayer_1 : decode cX0_insertLayer 1 = .ok (.iconst 0, 1) := by decide +kernel
theorem dX0_insertLayer_2 : decode cX0_insertLayer 2 = .ok (.ldc 72, 2) := by decide +kernel
theorem dX0_insertLayer_4 : decode cX0_insertLayer 4 = .ok (.invokestatic 58, 3) := by decide +kernel
theorem dX0_insertLayer_7 : decode cX0_insertLayer 7 = .ok (.ifCond .eq 33, 3) := by decide +kernel
theorem dX0_insertLayer_10 : decode cX0_insertLayer 10 = .ok (.iload_n 2, 1) := by decide +kernel
theorem dX0_insertLayer_11 : decode cX0_insertLayer 11 = .ok (.iconst 1, 1) := by decide +kernel
theorem dX0_insertLayer_12 : decode cX0_insertLayer 12 = .ok (.ldc 71, 2) := by decide +kernel
theorem dX0_insertLayer_14 : decode cX0_insertLayer 14 = .ok (.invokestatic 58, 3) := by decide +kernel
theorem dX0_insertLayer_17 : decode cX0_insertLayer 17 = .ok (.ifCond .eq 23, 3) := by decide +kernel
theorem dX0_insertLayer_20 : decode cX0_insertLayer 20 = .ok (.iload_n 3, 1) := by decide +kernel
theorem dX0_insertLayer_21 : decode cX0_insertLayer 21 = .ok (.iconst 0, 1) := by decide +kernel
theorem dX0_insertLayer_22 : decode cX0_insertLayer 22 = .ok (.ldc 71, 2) := by decide +kernel
theorem dX0_insertLayer_24 : decode cX0_insertLayer 24 = .ok (.invokestatic 58, 3) := by decide +kernel
theorem dX0_insertLayer_27 : decode cX0_insertLayer 27 = .ok (.ifCond .eq 13, 3) := by decide +kernel
theorem dX0_insertLayer_30 : decode cX0_insertLayer 30 = .ok (.iload 4, 2) := by decide +kernel
theorem dX0_insertLayer_32 : decode cX0_insertLayer 32 = .ok (.iconst 0, 1) := by decide +kernel
theorem dX0_insertLayer_33 : decode cX0_insertLayer 33 = .ok (.iconst 3, 1) := by decide +kernel
theorem dX0_insertLayer_34 : decode cX0_insertLayer 34 = .ok (.invokestatic 58, 3) := by decide +kernel
theorem dX0_insertLayer_37 : decode cX0_insertLayer 37 = .ok (.ifCond .ne 6, 3) := by decide +kernel
theorem dX0_insertLayer_40 : decode cX0_insertLayer 40 = .ok (.bipush (-2), 2) := by decide +kernel
theorem dX0_insertLayer_42 : decode cX0_insertLayer 42 = .ok (.ireturn, 1) := by decide +kernel
theorem dX0_insertLayer_43 : decode cX0_insertLayer 43 = .ok (.iload_n 1, 1) := by decide +kernel
theorem dX0_insertLayer_44 : decode cX0_insertLayer 44 = .ok (.aload_n 0, 1) := by decide +kernel
theorem dX0_insertLayer_45 : decode cX0_insertLayer 45 = .ok (.invokevirtual 73, 3) := by decide +kernel
theorem dX0_insertLayer_48 : decode cX0_insertLayer 48 = .ok (.if_icmp .ge 6, 3) := by decide +kernel
theorem dX0_insertLayer_51 : decode cX0_insertLayer 51 = .ok (.bipush (-5), 2) := by decide +kernel
theorem dX0_insertLayer_53 : decode cX0_insertLayer 53 = .ok (.ireturn, 1) := by decide +kernel
theorem dX0_insertLayer_54 : decode cX0_insertLayer 54 = .ok (.aload_n 0, 1) := by decide +kernel
theorem dX0_insertLayer_55 : decode cX0_insertLayer 55 = .ok (.getfield 62, 3) := by decide +kernel
theorem dX0_insertLayer_58 : decode cX0_insertLayer 58 = .ok (.iconst 4, 1) := by decide +kernel
theorem dX0_insertLayer_59 : decode cX0_insertLayer 59 = .ok (.if_icmp .lt 6, 3) := by decide +kernel
theorem dX0_insertLayer_62 : decode cX0_insertLayer 62 = .ok (.bipush (-3), 2) := by decide +kernel
theorem dX0_insertLayer_64 : decode cX0_insertLayer 64 = .ok (.ireturn, 1) := by decide +kernel
theorem dX0_insertLayer_65 : decode cX0_insertLayer 65 = .ok (.aload_n 0, 1) := by decide +kernel
theorem dX0_insertLayer_66 : decode cX0_insertLayer 66 = .ok (.getfield 24, 3) := by decide +kernel
theorem dX0_insertLayer_69 : decode cX0_insertLayer 69 = .ok (.aload_n 0, 1) := by decide +kernel
theorem dX0_insertLayer_70 : decode cX0_insertLayer 70 = .ok (.getfield 62, 3) := by decide +kernel
theorem dX0_insertLayer_73 : decode cX0_insertLayer 73 = .ok (.iload_n 1, 1) := by decide +kernel
theorem dX0_insertLayer_74 : decode cX0_insertLayer 74 = .ok (.iastore, 1) := by decide +kernel
theorem dX0_insertLayer_75 : decode cX0_insertLayer 75 = .ok (.aload_n 0, 1) := by decide +kernel
theorem dX0_insertLayer_76 : decode cX0_insertLayer 76 = .ok (.getfield 27, 3) := by decide +kernel
theorem dX0_insertLayer_79 : decode cX0_insertLayer 79 = .ok (.aload_n 0, 1) := by decide +kernel
theorem dX0_insertLayer_80 : decode cX0_insertLayer 80 = .ok (.getfield 62, 3) := by decide +kernel
theorem dX0_insertLayer_83 : decode cX0_insertLayer 83 = .ok (.iload_n 2, 1) := by decide +kernel
theorem dX0_insertLayer_84 : decode cX0_insertLayer 84 = .ok (.iastore, 1) := by decide +kernel
theorem dX0_insertLayer_85 : decode cX0_insertLayer 85 = .ok (.aload_n 0, 1) := by decide +kernel
theorem dX0_insertLayer_86 : decode cX0_insertLayer 86 = .ok (.getfield 30, 3) := by decide +kernel
theorem dX0_insertLayer_89 : decode cX0_insertLayer 89 = .ok (.aload_n 0, 1) := by decide +kernel
theorem dX0_insertLayer_90 : decode cX0_insertLayer 90 = .ok (.getfield 62, 3) := by decide +kernel
theorem dX0_insertLayer_93 : decode cX0_insertLayer 93 = .ok (.iload_n 3, 1) := by decide +kernel
theorem dX0_insertLayer_94 : decode cX0_insertLayer 94 = .ok (.iastore, 1) := by decide +kernel
theorem dX0_insertLayer_95 : decode cX0_insertLayer 95 = .ok (.aload_n 0, 1) := by decide +kernel
theorem dX0_insertLayer_96 : decode cX0_insertLayer 96 = .ok (.getfield 33, 3) := by decide +kernel
theorem dX0_insertLayer_99 : decode cX0_insertLayer 99 = .ok (.aload_n 0, 1) := by decide +kernel
theorem dX0_insertLayer_100 : decode cX0_insertLayer 100 = .ok (.getfield 62, 3) := by decide +kernel
theorem dX0_insertLayer_103 : decode cX0_insertLayer 103 = .ok (.iload 4, 2) := by decide +kernel
theorem dX0_insertLayer_105 : decode cX0_insertLayer 105 = .ok (.iastore, 1) := by decide +kernel
theorem dX0_insertLayer_106 : decode cX0_insertLayer 106 = .ok (.aload_n 0, 1) := by decide +kernel
theorem dX0_insertLayer_107 : decode cX0_insertLayer 107 = .ok (.dup, 1) := by decide +kernel
theorem dX0_insertLayer_108 : decode cX0_insertLayer 108 = .ok (.getfield 62, 3) := by decide +kernel
theorem dX0_insertLayer_111 : decode cX0_insertLayer 111 = .ok (.iconst 1, 1) := by decide +kernel
theorem dX0_insertLayer_112 : decode cX0_insertLayer 112 = .ok (.iadd, 1) := by decide +kernel
theorem dX0_insertLayer_113 : decode cX0_insertLayer 113 = .ok (.putfield 62, 3) := by decide +kernel
theorem dX0_insertLayer_116 : decode cX0_insertLayer 116 = .ok (.aload_n 0, 1) := by decide +kernel
theorem dX0_insertLayer_117 : decode cX0_insertLayer 117 = .ok (.getfield 62, 3) := by decide +kernel
theorem dX0_insertLayer_120 : decode cX0_insertLayer 120 = .ok (.iconst 1, 1) := by decide +kernel
theorem dX0_insertLayer_121 : decode cX0_insertLayer 121 = .ok (.isub, 1) := by decide +kernel
theorem dX0_insertLayer_122 : decode cX0_insertLayer 122 = .ok (.ireturn, 1) := by decide +kernel
theorem dX0_endOfLayers_0 : decode cX0_endOfLayers 0 = .ok (.aload_n 0, 1) := by decide +kernel
theorem dX0_endOfLayers_1 : decode cX0_endOfLayers 1 = .ok (.getfield 62, 3) := by decide +kernel
theorem dX0_endOfLayers_4 : decode cX0_endOfLayers 4 = .ok (.ifCond .ne 7, 3) := by decide +kernel
theorem dX0_endOfLayers_7 : decode cX0_endOfLayers 7 = .ok (.iconst 0, 1) := by decide +kernel
theorem dX0_endOfLayers_8 : decode cX0_endOfLayers 8 = .ok (.goto 26, 3) := by decide +kernel
theorem dX0_endOfLayers_11 : decode cX0_endOfLayers 11 = .ok (.aload_n 0, 1) := by decide +kernel
theorem dX0_endOfLayers_12 : decode cX0_endOfLayers 12 = .ok (.getfield 24, 3) := by decide +kernel
theorem dX0_endOfLayers_15 : decode cX0_endOfLayers 15 = .ok (.aload_n 0, 1) := by decide +kernel
theorem dX0_endOfLayers_16 : decode cX0_endOfLayers 16 = .ok (.getfield 62, 3) := by decide +kernel
theorem dX0_endOfLayers_19 : decode cX0_endOfLayers 19 = .ok (.iconst 1, 1) := by decide +kernel
theorem dX0_endOfLayers_20 : decode cX0_endOfLayers 20 = .ok (.isub, 1) := by decide +kernel
theorem dX0_endOfLayers_21 : decode cX0_endOfLayers 21 = .ok (.iaload, 1) := by decide +kernel
theorem dX0_endOfLayers_22 : decode cX0_endOfLayers 22 = .ok (.aload_n 0, 1) := by decide +kernel
theorem dX0_endOfLayers_23 : decode cX0_endOfLayers 23 = .ok (.getfield 27, 3) := by decide +kernel
theorem dX0_endOfLayers_26 : decode cX0_endOfLayers 26 = .ok (.aload_n 0, 1) := by decide +kernel
theorem dX0_endOfLayers_27 : decode cX0_endOfLayers 27 = .ok (.getfield 62, 3) := by decide +kernel
theorem dX0_endOfLayers_30 : decode cX0_endOfLayers 30 = .ok (.iconst 1, 1) := by decide +kernel
theorem dX0_endOfLayers_31 : decode cX0_endOfLayers 31 = .ok (.isub, 1) := by decide +kernel
theorem dX0_endOfLayers_32 : decode cX0_endOfLayers 32 = .ok (.iaload, 1) := by decide +kernel
theorem dX0_endOfLayers_33 : decode cX0_endOfLayers 33 = .ok (.iadd, 1) := by decide +kernel
theorem dX0_endOfLayers_34 : decode cX0_endOfLayers 34 = .ok (.ireturn, 1) := by decide +kernel
theorem dX0_insertEvent_0 : decode cX0_insertEvent 0 = .ok (.iload_n 1, 1) := by decide +kernel
theorem dX0_insertEvent_1 : decode cX0_insertEvent 1 = .ok (.iconst 0, 1) := by decide +kernel
theorem dX0_insertEvent_2 : decode cX0_insertEvent 2 = .ok (.sipush 364, 3) := by decide +kernel
theorem dX0_insertEvent_5 : decode cX0_insertEvent 5 = .ok (.invokestatic 58, 3) := by decide +kernel
theorem dX0_insertEvent_8 : decode cX0_insertEvent 8 = .ok (.ifCond .ne 6, 3) := by decide +kernel
theorem dX0_insertEvent_11 : decode cX0_insertEvent 11 = .ok (.bipush (-2), 2) := by decide +kernel
theorem dX0_insertEvent_13 : decode cX0_insertEvent 13 = .ok (.ireturn, 1) := by decide +kernel
theorem dX0_insertEvent_14 : decode cX0_insertEvent 14 = .ok (.aload_n 0, 1) := by decide +kernel
theorem dX0_insertEvent_15 : decode cX0_insertEvent 15 = .ok (.getfield 65, 3) := by decide +kernel
theorem dX0_insertEvent_18 : decode cX0_insertEvent 18 = .ok (.bipush 8, 2) := by decide +kernel
theorem dX0_insertEvent_20 : decode cX0_insertEvent 20 = .ok (.if_icmp .lt 6, 3) := by decide +kernel
theorem dX0_insertEvent_23 : decode cX0_insertEvent 23 = .ok (.bipush (-3), 2) := by decide +kernel
theorem dX0_insertEvent_25 : decode cX0_insertEvent 25 = .ok (.ireturn, 1) := by decide +kernel
theorem dX0_insertEvent_26 : decode cX0_insertEvent 26 = .ok (.aload_n 0, 1) := by decide +kernel
theorem dX0_insertEvent_27 : decode cX0_insertEvent 27 = .ok (.getfield 39, 3) := by decide +kernel
theorem dX0_insertEvent_30 : decode cX0_insertEvent 30 = .ok (.aload_n 0, 1) := by decide +kernel
theorem dX0_insertEvent_31 : decode cX0_insertEvent 31 = .ok (.getfield 65, 3) := by decide +kernel
theorem dX0_insertEvent_34 : decode cX0_insertEvent 34 = .ok (.iload_n 1, 1) := by decide +kernel
theorem dX0_insertEvent_35 : decode cX0_insertEvent 35 = .ok (.iastore, 1) := by decide +kernel
theorem dX0_insertEvent_36 : decode cX0_insertEvent 36 = .ok (.aload_n 0, 1) := by decide +kernel
theorem dX0_insertEvent_37 : decode cX0_insertEvent 37 = .ok (.getfield 42, 3) := by decide +kernel
theorem dX0_insertEvent_40 : decode cX0_insertEvent 40 = .ok (.aload_n 0, 1) := by decide +kernel
theorem dX0_insertEvent_41 : decode cX0_insertEvent 41 = .ok (.getfield 65, 3) := by decide +kernel
theorem dX0_insertEvent_44 : decode cX0_insertEvent 44 = .ok (.iconst 0, 1) := by decide +kernel
theorem dX0_insertEvent_45 : decode cX0_insertEvent 45 = .ok (.iastore, 1) := by decide +kernel
theorem dX0_insertEvent_46 : decode cX0_insertEvent 46 = .ok (.aload_n 0, 1) := by decide +kernel
theorem dX0_insertEvent_47 : decode cX0_insertEvent 47 = .ok (.dup, 1) := by decide +kernel
theorem dX0_insertEvent_48 : decode cX0_insertEvent 48 = .ok (.getfield 65, 3) := by decide +kernel
theorem dX0_insertEvent_51 : decode cX0_insertEvent 51 = .ok (.iconst 1, 1) := by decide +kernel
theorem dX0_insertEvent_52 : decode cX0_insertEvent 52 = .ok (.iadd, 1) := by decide +kernel
theorem dX0_insertEvent_53 : decode cX0_insertEvent 53 = .ok (.putfield 65, 3) := by decide +kernel
theorem dX0_insertEvent_56 : decode cX0_insertEvent 56 = .ok (.aload_n 0, 1) := by decide +kernel
theorem dX0_insertEvent_57 : decode cX0_insertEvent 57 = .ok (.getfield 65, 3) := by decide +kernel
theorem dX0_insertEvent_60 : decode cX0_insertEvent 60 = .ok (.iconst 1, 1) := by decide +kernel
theorem dX0_insertEvent_61 : decode cX0_insertEvent 61 = .ok (.isub, 1) := by decide +kernel
theorem dX0_insertEvent_62 : decode cX0_insertEvent 62 = .ok (.ireturn, 1) := by decide +kernel
theorem dX0_insertClaim_0 : decode cX0_insertClaim 0 = .ok (.aload_n 0, 1) := by decide +kernel
theorem dX0_insertClaim_1 : decode cX0_insertClaim 1 = .ok (.iload_n 1, 1) := by decide +kernel
theorem dX0_insertClaim_2 : decode cX0_insertClaim 2 = .ok (.invokevirtual 77, 3) := by decide +kernel
theorem dX0_insertClaim_5 : decode cX0_insertClaim 5 = .ok (.ifCond .eq 11, 3) := by decide +kernel
theorem dX0_insertClaim_8 : decode cX0_insertClaim 8 = .ok (.aload_n 0, 1) := by decide +kernel
theorem dX0_insertClaim_9 : decode cX0_insertClaim 9 = .ok (.iload_n 2, 1) := by decide +kernel
theorem dX0_insertClaim_10 : decode cX0_insertClaim 10 = .ok (.invokevirtual 81, 3) := by decide +kernel
theorem dX0_insertClaim_13 : decode cX0_insertClaim 13 = .ok (.ifCond .ne 5, 3) := by decide +kernel
theorem dX0_insertClaim_16 : decode cX0_insertClaim 16 = .ok (.iconst (-1), 1) := by decide +kernel
theorem dX0_insertClaim_17 : decode cX0_insertClaim 17 = .ok (.ireturn, 1) := by decide +kernel
theorem dX0_insertClaim_18 : decode cX0_insertClaim 18 = .ok (.iload_n 3, 1) := by decide +kernel
theorem dX0_insertClaim_19 : decode cX0_insertClaim 19 = .ok (.iconst 1, 1) := by decide +kernel
theorem dX0_insertClaim_20 : decode cX0_insertClaim 20 = .ok (.ldc 71, 2) := by decide +kernel
theorem dX0_insertClaim_22 : decode cX0_insertClaim 22 = .ok (.invokestatic 58, 3) := by decide +kernel
theorem dX0_insertClaim_25 : decode cX0_insertClaim 25 = .ok (.ifCond .ne 6, 3) := by decide +kernel
theorem dX0_insertClaim_28 : decode cX0_insertClaim 28 = .ok (.bipush (-2), 2) := by decide +kernel
theorem dX0_insertClaim_30 : decode cX0_insertClaim 30 = .ok (.ireturn, 1) := by decide +kernel
theorem dX0_insertClaim_31 : decode cX0_insertClaim 31 = .ok (.aload_n 0, 1) := by decide +kernel
theorem dX0_insertClaim_32 : decode cX0_insertClaim 32 = .ok (.getfield 68, 3) := by decide +kernel
theorem dX0_insertClaim_35 : decode cX0_insertClaim 35 = .ok (.bipush 24, 2) := by decide +kernel
theorem dX0_insertClaim_37 : decode cX0_insertClaim 37 = .ok (.if_icmp .lt 6, 3) := by decide +kernel
theorem dX0_insertClaim_40 : decode cX0_insertClaim 40 = .ok (.bipush (-3), 2) := by decide +kernel
theorem dX0_insertClaim_42 : decode cX0_insertClaim 42 = .ok (.ireturn, 1) := by decide +kernel
theorem dX0_insertClaim_43 : decode cX0_insertClaim 43 = .ok (.aload_n 0, 1) := by decide +kernel
theorem dX0_insertClaim_44 : decode cX0_insertClaim 44 = .ok (.getfield 45, 3) := by decide +kernel
theorem dX0_insertClaim_47 : decode cX0_insertClaim 47 = .ok (.aload_n 0, 1) := by decide +kernel
theorem dX0_insertClaim_48 : decode cX0_insertClaim 48 = .ok (.getfield 68, 3) := by decide +kernel
theorem dX0_insertClaim_51 : decode cX0_insertClaim 51 = .ok (.iload_n 1, 1) := by decide +kernel
theorem dX0_insertClaim_52 : decode cX0_insertClaim 52 = .ok (.iastore, 1) := by decide +kernel
theorem dX0_insertClaim_53 : decode cX0_insertClaim 53 = .ok (.aload_n 0, 1) := by decide +kernel
theorem dX0_insertClaim_54 : decode cX0_insertClaim 54 = .ok (.getfield 48, 3) := by decide +kernel
theorem dX0_insertClaim_57 : decode cX0_insertClaim 57 = .ok (.aload_n 0, 1) := by decide +kernel
theorem dX0_insertClaim_58 : decode cX0_insertClaim 58 = .ok (.getfield 68, 3) := by decide +kernel
theorem dX0_insertClaim_61 : decode cX0_insertClaim 61 = .ok (.iload_n 2, 1) := by decide +kernel
theorem dX0_insertClaim_62 : decode cX0_insertClaim 62 = .ok (.iastore, 1) := by decide +kernel
theorem dX0_insertClaim_63 : decode cX0_insertClaim 63 = .ok (.aload_n 0, 1) := by decide +kernel
theorem dX0_insertClaim_64 : decode cX0_insertClaim 64 = .ok (.getfield 51, 3) := by decide +kernel
theorem dX0_insertClaim_67 : decode cX0_insertClaim 67 = .ok (.aload_n 0, 1) := by decide +kernel
theorem dX0_insertClaim_68 : decode cX0_insertClaim 68 = .ok (.getfield 68, 3) := by decide +kernel
theorem dX0_insertClaim_71 : decode cX0_insertClaim 71 = .ok (.iload_n 3, 1) := by decide +kernel
theorem dX0_insertClaim_72 : decode cX0_insertClaim 72 = .ok (.iastore, 1) := by decide +kernel
theorem dX0_insertClaim_73 : decode cX0_insertClaim 73 = .ok (.aload_n 0, 1) := by decide +kernel
theorem dX0_insertClaim_74 : decode cX0_insertClaim 74 = .ok (.dup, 1) := by decide +kernel
theorem dX0_insertClaim_75 : decode cX0_insertClaim 75 = .ok (.getfield 68, 3) := by decide +kernel
theorem dX0_insertClaim_78 : decode cX0_insertClaim 78 = .ok (.iconst 1, 1) := by decide +kernel
theorem dX0_insertClaim_79 : decode cX0_insertClaim 79 = .ok (.iadd, 1) := by decide +kernel
theorem dX0_insertClaim_80 : decode cX0_insertClaim 80 = .ok (.putfield 68, 3) := by decide +kernel
theorem dX0_insertClaim_83 : decode cX0_insertClaim 83 = .ok (.aload_n 0, 1) := by decide +kernel
theorem dX0_insertClaim_84 : decode cX0_insertClaim 84 = .ok (.getfield 68, 3) := by decide +kernel
theorem dX0_insertClaim_87 : decode cX0_insertClaim 87 = .ok (.iconst 1, 1) := by decide +kernel
theorem dX0_insertClaim_88 : decode cX0_insertClaim 88 = .ok (.isub, 1) := by decide +kernel
theorem dX0_insertClaim_89 : decode cX0_insertClaim 89 = .ok (.ireturn, 1) := by decide +kernel
theorem dX0_dropClaim_0 : decode cX0_dropClaim 0 = .ok (.aload_n 0, 1) := by decide +kernel
theorem dX0_dropClaim_1 : decode cX0_dropClaim 1 = .ok (.iload_n 1, 1) := by decide +kernel
theorem dX0_dropClaim_2 : decode cX0_dropClaim 2 = .ok (.invokevirtual 84, 3) := by decide +kernel
theorem dX0_dropClaim_5 : decode cX0_dropClaim 5 = .ok (.ifCond .ne 5, 3) := by decide +kernel
theorem dX0_dropClaim_8 : decode cX0_dropClaim 8 = .ok (.iconst (-1), 1) := by decide +kernel
theorem dX0_dropClaim_9 : decode cX0_dropClaim 9 = .ok (.ireturn, 1) := by decide +kernel
theorem dX0_dropClaim_10 : decode cX0_dropClaim 10 = .ok (.aload_n 0, 1) := by decide +kernel
theorem dX0_dropClaim_11 : decode cX0_dropClaim 11 = .ok (.dup, 1) := by decide +kernel
theorem dX0_dropClaim_12 : decode cX0_dropClaim 12 = .ok (.getfield 68, 3) := by decide +kernel
theorem dX0_dropClaim_15 : decode cX0_dropClaim 15 = .ok (.iconst 1, 1) := by decide +kernel
theorem dX0_dropClaim_16 : decode cX0_dropClaim 16 = .ok (.isub, 1) := by decide +kernel
theorem dX0_dropClaim_17 : decode cX0_dropClaim 17 = .ok (.putfield 68, 3) := by decide +kernel
theorem dX0_dropClaim_20 : decode cX0_dropClaim 20 = .ok (.iload_n 1, 1) := by decide +kernel
theorem dX0_dropClaim_21 : decode cX0_dropClaim 21 = .ok (.istore_n 2, 1) := by decide +kernel
theorem dX0_dropClaim_22 : decode cX0_dropClaim 22 = .ok (.iload_n 2, 1) := by decide +kernel
theorem dX0_dropClaim_23 : decode cX0_dropClaim 23 = .ok (.aload_n 0, 1) := by decide +kernel
theorem dX0_dropClaim_24 : decode cX0_dropClaim 24 = .ok (.getfield 68, 3) := by decide +kernel
theorem dX0_dropClaim_27 : decode cX0_dropClaim 27 = .ok (.if_icmp .ge 51, 3) := by decide +kernel
theorem dX0_dropClaim_30 : decode cX0_dropClaim 30 = .ok (.aload_n 0, 1) := by decide +kernel
theorem dX0_dropClaim_31 : decode cX0_dropClaim 31 = .ok (.getfield 45, 3) := by decide +kernel
theorem dX0_dropClaim_34 : decode cX0_dropClaim 34 = .ok (.iload_n 2, 1) := by decide +kernel
theorem dX0_dropClaim_35 : decode cX0_dropClaim 35 = .ok (.aload_n 0, 1) := by decide +kernel
theorem dX0_dropClaim_36 : decode cX0_dropClaim 36 = .ok (.getfield 45, 3) := by decide +kernel
theorem dX0_dropClaim_39 : decode cX0_dropClaim 39 = .ok (.iload_n 2, 1) := by decide +kernel
theorem dX0_dropClaim_40 : decode cX0_dropClaim 40 = .ok (.iconst 1, 1) := by decide +kernel
theorem dX0_dropClaim_41 : decode cX0_dropClaim 41 = .ok (.iadd, 1) := by decide +kernel
theorem dX0_dropClaim_42 : decode cX0_dropClaim 42 = .ok (.iaload, 1) := by decide +kernel
theorem dX0_dropClaim_43 : decode cX0_dropClaim 43 = .ok (.iastore, 1) := by decide +kernel
theorem dX0_dropClaim_44 : decode cX0_dropClaim 44 = .ok (.aload_n 0, 1) := by decide +kernel
theorem dX0_dropClaim_45 : decode cX0_dropClaim 45 = .ok (.getfield 48, 3) := by decide +kernel
theorem dX0_dropClaim_48 : decode cX0_dropClaim 48 = .ok (.iload_n 2, 1) := by decide +kernel
theorem dX0_dropClaim_49 : decode cX0_dropClaim 49 = .ok (.aload_n 0, 1) := by decide +kernel
theorem dX0_dropClaim_50 : decode cX0_dropClaim 50 = .ok (.getfield 48, 3) := by decide +kernel
theorem dX0_dropClaim_53 : decode cX0_dropClaim 53 = .ok (.iload_n 2, 1) := by decide +kernel
theorem dX0_dropClaim_54 : decode cX0_dropClaim 54 = .ok (.iconst 1, 1) := by decide +kernel
theorem dX0_dropClaim_55 : decode cX0_dropClaim 55 = .ok (.iadd, 1) := by decide +kernel
theorem dX0_dropClaim_56 : decode cX0_dropClaim 56 = .ok (.iaload, 1) := by decide +kernel
theorem dX0_dropClaim_57 : decode cX0_dropClaim 57 = .ok (.iastore, 1) := by decide +kernel
theorem dX0_dropClaim_58 : decode cX0_dropClaim 58 = .ok (.aload_n 0, 1) := by decide +kernel
theorem dX0_dropClaim_59 : decode cX0_dropClaim 59 = .ok (.getfield 51, 3) := by decide +kernel
theorem dX0_dropClaim_62 : decode cX0_dropClaim 62 = .ok (.iload_n 2, 1) := by decide +kernel
theorem dX0_dropClaim_63 : decode cX0_dropClaim 63 = .ok (.aload_n 0, 1) := by decide +kernel
theorem dX0_dropClaim_64 : decode cX0_dropClaim 64 = .ok (.getfield 51, 3) := by decide +kernel
theorem dX0_dropClaim_67 : decode cX0_dropClaim 67 = .ok (.iload_n 2, 1) := by decide +kernel
theorem dX0_dropClaim_68 : decode cX0_dropClaim 68 = .ok (.iconst 1, 1) := by decide +kernel
theorem dX0_dropClaim_69 : decode cX0_dropClaim 69 = .ok (.iadd, 1) := by decide +kernel
theorem dX0_dropClaim_70 : decode cX0_dropClaim 70 = .ok (.iaload, 1) := by decide +kernel
theorem dX0_dropClaim_71 : decode cX0_dropClaim 71 = .ok (.iastore, 1) := by decide +kernel
theorem dX0_dropClaim_72 : decode cX0_dropClaim 72 = .ok (.iinc 2 1, 3) := by decide +kernel
theorem dX0_dropClaim_75 : decode cX0_dropClaim 75 = .ok (.goto (-53), 3) := by decide +kernel
theorem dX0_dropClaim_78 : decode cX0_dropClaim 78 = .ok (.aload_n 0, 1) := by decide +kernel
theorem dX0_dropClaim_79 : decode cX0_dropClaim 79 = .ok (.getfield 68, 3) := by decide +kernel
theorem dX0_dropClaim_82 : decode cX0_dropClaim 82 = .ok (.ireturn, 1) := by decide +kernel
theorem dX0_changeDay_0 : decode cX0_changeDay 0 = .ok (.aload_n 0, 1) := by decide +kernel
theorem dX0_changeDay_1 : decode cX0_changeDay 1 = .ok (.iload_n 1, 1) := by decide +kernel
theorem dX0_changeDay_2 : decode cX0_changeDay 2 = .ok (.invokevirtual 77, 3) := by decide +kernel
theorem dX0_changeDay_5 : decode cX0_changeDay 5 = .ok (.ifCond .ne 5, 3) := by decide +kernel
theorem dX0_changeDay_8 : decode cX0_changeDay 8 = .ok (.iconst (-1), 1) := by decide +kernel
theorem dX0_changeDay_9 : decode cX0_changeDay 9 = .ok (.ireturn, 1) := by decide +kernel
theorem dX0_changeDay_10 : decode cX0_changeDay 10 = .ok (.iload_n 2, 1) := by decide +kernel
theorem dX0_changeDay_11 : decode cX0_changeDay 11 = .ok (.iconst 0, 1) := by decide +kernel
theorem dX0_changeDay_12 : decode cX0_changeDay 12 = .ok (.sipush 364, 3) := by decide +kernel
theorem dX0_changeDay_15 : decode cX0_changeDay 15 = .ok (.invokestatic 58, 3) := by decide +kernel
theorem dX0_changeDay_18 : decode cX0_changeDay 18 = .ok (.ifCond .ne 6, 3) := by decide +kernel
theorem dX0_changeDay_21 : decode cX0_changeDay 21 = .ok (.bipush (-2), 2) := by decide +kernel
theorem dX0_changeDay_23 : decode cX0_changeDay 23 = .ok (.ireturn, 1) := by decide +kernel
theorem dX0_changeDay_24 : decode cX0_changeDay 24 = .ok (.aload_n 0, 1) := by decide +kernel
theorem dX0_changeDay_25 : decode cX0_changeDay 25 = .ok (.getfield 39, 3) := by decide +kernel
theorem dX0_changeDay_28 : decode cX0_changeDay 28 = .ok (.iload_n 1, 1) := by decide +kernel
theorem dX0_changeDay_29 : decode cX0_changeDay 29 = .ok (.iaload, 1) := by decide +kernel
theorem dX0_changeDay_30 : decode cX0_changeDay 30 = .ok (.istore_n 3, 1) := by decide +kernel
theorem dX0_changeDay_31 : decode cX0_changeDay 31 = .ok (.aload_n 0, 1) := by decide +kernel
theorem dX0_changeDay_32 : decode cX0_changeDay 32 = .ok (.getfield 39, 3) := by decide +kernel
theorem dX0_changeDay_35 : decode cX0_changeDay 35 = .ok (.iload_n 1, 1) := by decide +kernel
theorem dX0_changeDay_36 : decode cX0_changeDay 36 = .ok (.iload_n 2, 1) := by decide +kernel
theorem dX0_changeDay_37 : decode cX0_changeDay 37 = .ok (.iastore, 1) := by decide +kernel
theorem dX0_changeDay_38 : decode cX0_changeDay 38 = .ok (.iload_n 3, 1) := by decide +kernel
theorem dX0_changeDay_39 : decode cX0_changeDay 39 = .ok (.ireturn, 1) := by decide +kernel
theorem dX0_changeDeductible_0 : decode cX0_changeDeductible 0 = .ok (.iload_n 1, 1) := by decide +kernel
theorem dX0_changeDeductible_1 : decode cX0_changeDeductible 1 = .ok (.iconst 0, 1) := by decide +kernel
theorem dX0_changeDeductible_2 : decode cX0_changeDeductible 2 = .ok (.iconst 2, 1) := by decide +kernel
theorem dX0_changeDeductible_3 : decode cX0_changeDeductible 3 = .ok (.invokestatic 58, 3) := by decide +kernel
theorem dX0_changeDeductible_6 : decode cX0_changeDeductible 6 = .ok (.ifCond .ne 5, 3) := by decide +kernel
theorem dX0_changeDeductible_9 : decode cX0_changeDeductible 9 = .ok (.iconst (-1), 1) := by decide +kernel
theorem dX0_changeDeductible_10 : decode cX0_changeDeductible 10 = .ok (.ireturn, 1) := by decide +kernel
theorem dX0_changeDeductible_11 : decode cX0_changeDeductible 11 = .ok (.iload_n 2, 1) := by decide +kernel
theorem dX0_changeDeductible_12 : decode cX0_changeDeductible 12 = .ok (.iconst 0, 1) := by decide +kernel
theorem dX0_changeDeductible_13 : decode cX0_changeDeductible 13 = .ok (.ldc 71, 2) := by decide +kernel
theorem dX0_changeDeductible_15 : decode cX0_changeDeductible 15 = .ok (.invokestatic 58, 3) := by decide +kernel
theorem dX0_changeDeductible_18 : decode cX0_changeDeductible 18 = .ok (.ifCond .ne 6, 3) := by decide +kernel
theorem dX0_changeDeductible_21 : decode cX0_changeDeductible 21 = .ok (.bipush (-2), 2) := by decide +kernel
theorem dX0_changeDeductible_23 : decode cX0_changeDeductible 23 = .ok (.ireturn, 1) := by decide +kernel
theorem dX0_changeDeductible_24 : decode cX0_changeDeductible 24 = .ok (.aload_n 0, 1) := by decide +kernel
theorem dX0_changeDeductible_25 : decode cX0_changeDeductible 25 = .ok (.getfield 36, 3) := by decide +kernel
theorem dX0_changeDeductible_28 : decode cX0_changeDeductible 28 = .ok (.iload_n 1, 1) := by decide +kernel
theorem dX0_changeDeductible_29 : decode cX0_changeDeductible 29 = .ok (.iaload, 1) := by decide +kernel
theorem dX0_changeDeductible_30 : decode cX0_changeDeductible 30 = .ok (.istore_n 3, 1) := by decide +kernel
theorem dX0_changeDeductible_31 : decode cX0_changeDeductible 31 = .ok (.aload_n 0, 1) := by decide +kernel
theorem dX0_changeDeductible_32 : decode cX0_changeDeductible 32 = .ok (.getfield 36, 3) := by decide +kernel
theorem dX0_changeDeductible_35 : decode cX0_changeDeductible 35 = .ok (.iload_n 1, 1) := by decide +kernel
theorem dX0_changeDeductible_36 : decode cX0_changeDeductible 36 = .ok (.iload_n 2, 1) := by decide +kernel
theorem dX0_changeDeductible_37 : decode cX0_changeDeductible 37 = .ok (.iastore, 1) := by decide +kernel
theorem dX0_changeDeductible_38 : decode cX0_changeDeductible 38 = .ok (.iload_n 3, 1) := by decide +kernel
theorem dX0_changeDeductible_39 : decode cX0_changeDeductible 39 = .ok (.ireturn, 1) := by decide +kernel
theorem dX0_changeRate_0 : decode cX0_changeRate 0 = .ok (.iload_n 1, 1) := by decide +kernel
theorem dX0_changeRate_1 : decode cX0_changeRate 1 = .ok (.iconst 0, 1) := by decide +kernel
theorem dX0_changeRate_2 : decode cX0_changeRate 2 = .ok (.bipush 100, 2) := by decide +kernel
theorem dX0_changeRate_4 : decode cX0_changeRate 4 = .ok (.invokestatic 58, 3) := by decide +kernel
theorem dX0_changeRate_7 : decode cX0_changeRate 7 = .ok (.ifCond .ne 6, 3) := by decide +kernel
theorem dX0_changeRate_10 : decode cX0_changeRate 10 = .ok (.bipush (-2), 2) := by decide +kernel
theorem dX0_changeRate_12 : decode cX0_changeRate 12 = .ok (.ireturn, 1) := by decide +kernel
theorem dX0_changeRate_13 : decode cX0_changeRate 13 = .ok (.aload_n 0, 1) := by decide +kernel
theorem dX0_changeRate_14 : decode cX0_changeRate 14 = .ok (.getfield 87, 3) := by decide +kernel
theorem dX0_changeRate_17 : decode cX0_changeRate 17 = .ok (.istore_n 2, 1) := by decide +kernel
theorem dX0_changeRate_18 : decode cX0_changeRate 18 = .ok (.aload_n 0, 1) := by decide +kernel
theorem dX0_changeRate_19 : decode cX0_changeRate 19 = .ok (.iload_n 1, 1) := by decide +kernel
theorem dX0_changeRate_20 : decode cX0_changeRate 20 = .ok (.putfield 87, 3) := by decide +kernel
theorem dX0_changeRate_23 : decode cX0_changeRate 23 = .ok (.iload_n 2, 1) := by decide +kernel
theorem dX0_changeRate_24 : decode cX0_changeRate 24 = .ok (.ireturn, 1) := by decide +kernel
theorem dX0_changeRecovery_0 : decode cX0_changeRecovery 0 = .ok (.aload_n 0, 1) := by decide +kernel
theorem dX0_changeRecovery_1 : decode cX0_changeRecovery 1 = .ok (.iload_n 1, 1) := by decide +kernel
theorem dX0_changeRecovery_2 : decode cX0_changeRecovery 2 = .ok (.invokevirtual 77, 3) := by decide +kernel
theorem dX0_changeRecovery_5 : decode cX0_changeRecovery 5 = .ok (.ifCond .ne 5, 3) := by decide +kernel
theorem dX0_changeRecovery_8 : decode cX0_changeRecovery 8 = .ok (.iconst (-1), 1) := by decide +kernel
theorem dX0_changeRecovery_9 : decode cX0_changeRecovery 9 = .ok (.ireturn, 1) := by decide +kernel
theorem dX0_changeRecovery_10 : decode cX0_changeRecovery 10 = .ok (.iload_n 2, 1) := by decide +kernel
theorem dX0_changeRecovery_11 : decode cX0_changeRecovery 11 = .ok (.iconst 0, 1) := by decide +kernel
theorem dX0_changeRecovery_12 : decode cX0_changeRecovery 12 = .ok (.ldc 72, 2) := by decide +kernel
theorem dX0_changeRecovery_14 : decode cX0_changeRecovery 14 = .ok (.invokestatic 58, 3) := by decide +kernel
theorem dX0_changeRecovery_17 : decode cX0_changeRecovery 17 = .ok (.ifCond .ne 6, 3) := by decide +kernel
theorem dX0_changeRecovery_20 : decode cX0_changeRecovery 20 = .ok (.bipush (-2), 2) := by decide +kernel
theorem dX0_changeRecovery_22 : decode cX0_changeRecovery 22 = .ok (.ireturn, 1) := by decide +kernel
theorem dX0_changeRecovery_23 : decode cX0_changeRecovery 23 = .ok (.aload_n 0, 1) := by decide +kernel
theorem dX0_changeRecovery_24 : decode cX0_changeRecovery 24 = .ok (.getfield 42, 3) := by decide +kernel
theorem dX0_changeRecovery_27 : decode cX0_changeRecovery 27 = .ok (.iload_n 1, 1) := by decide +kernel
theorem dX0_changeRecovery_28 : decode cX0_changeRecovery 28 = .ok (.iaload, 1) := by decide +kernel
theorem dX0_changeRecovery_29 : decode cX0_changeRecovery 29 = .ok (.istore_n 3, 1) := by decide +kernel
theorem dX0_changeRecovery_30 : decode cX0_changeRecovery 30 = .ok (.aload_n 0, 1) := by decide +kernel
theorem dX0_changeRecovery_31 : decode cX0_changeRecovery 31 = .ok (.getfield 42, 3) := by decide +kernel
theorem dX0_changeRecovery_34 : decode cX0_changeRecovery 34 = .ok (.iload_n 1, 1) := by decide +kernel
theorem dX0_changeRecovery_35 : decode cX0_changeRecovery 35 = .ok (.iload_n 2, 1) := by decide +kernel
theorem dX0_changeRecovery_36 : decode cX0_changeRecovery 36 = .ok (.iastore, 1) := by decide +kernel
theorem dX0_changeRecovery_37 : decode cX0_changeRecovery 37 = .ok (.iload_n 3, 1) := by decide +kernel
theorem dX0_changeRecovery_38 : decode cX0_changeRecovery 38 = .ok (.ireturn, 1) := by decide +kernel
theorem dX0_claimsOfEvent_0 : decode cX0_claimsOfEvent 0 = .ok (.iconst 0, 1) := by decide +kernel
theorem dX0_claimsOfEvent_1 : decode cX0_claimsOfEvent 1 = .ok (.istore_n 2, 1) := by decide +kernel
theorem dX0_claimsOfEvent_2 : decode cX0_claimsOfEvent 2 = .ok (.iconst 0, 1) := by decide +kernel
theorem dX0_claimsOfEvent_3 : decode cX0_claimsOfEvent 3 = .ok (.istore_n 3, 1) := by decide +kernel
theorem dX0_claimsOfEvent_4 : decode cX0_claimsOfEvent 4 = .ok (.iload_n 3, 1) := by decide +kernel
theorem dX0_claimsOfEvent_5 : decode cX0_claimsOfEvent 5 = .ok (.aload_n 0, 1) := by decide +kernel
theorem dX0_claimsOfEvent_6 : decode cX0_claimsOfEvent 6 = .ok (.getfield 68, 3) := by decide +kernel
theorem dX0_claimsOfEvent_9 : decode cX0_claimsOfEvent 9 = .ok (.if_icmp .ge 22, 3) := by decide +kernel
theorem dX0_claimsOfEvent_12 : decode cX0_claimsOfEvent 12 = .ok (.aload_n 0, 1) := by decide +kernel
theorem dX0_claimsOfEvent_13 : decode cX0_claimsOfEvent 13 = .ok (.getfield 45, 3) := by decide +kernel
theorem dX0_claimsOfEvent_16 : decode cX0_claimsOfEvent 16 = .ok (.iload_n 3, 1) := by decide +kernel
theorem dX0_claimsOfEvent_17 : decode cX0_claimsOfEvent 17 = .ok (.iaload, 1) := by decide +kernel
theorem dX0_claimsOfEvent_18 : decode cX0_claimsOfEvent 18 = .ok (.iload_n 1, 1) := by decide +kernel
theorem dX0_claimsOfEvent_19 : decode cX0_claimsOfEvent 19 = .ok (.if_icmp .ne 6, 3) := by decide +kernel
theorem dX0_claimsOfEvent_22 : decode cX0_claimsOfEvent 22 = .ok (.iinc 2 1, 3) := by decide +kernel
theorem dX0_claimsOfEvent_25 : decode cX0_claimsOfEvent 25 = .ok (.iinc 3 1, 3) := by decide +kernel
theorem dX0_claimsOfEvent_28 : decode cX0_claimsOfEvent 28 = .ok (.goto (-24), 3) := by decide +kernel
theorem dX0_claimsOfEvent_31 : decode cX0_claimsOfEvent 31 = .ok (.iload_n 2, 1) := by decide +kernel
theorem dX0_claimsOfEvent_32 : decode cX0_claimsOfEvent 32 = .ok (.ireturn, 1) := by decide +kernel
theorem dX0_sumOfCoverPremiums_0 : decode cX0_sumOfCoverPremiums 0 = .ok (.aload_n 0, 1) := by decide +kernel
theorem dX0_sumOfCoverPremiums_1 : decode cX0_sumOfCoverPremiums 1 = .ok (.getfield 18, 3) := by decide +kernel
theorem dX0_sumOfCoverPremiums_4 : decode cX0_sumOfCoverPremiums 4 = .ok (.aload_n 0, 1) := by decide +kernel
theorem dX0_sumOfCoverPremiums_5 : decode cX0_sumOfCoverPremiums 5 = .ok (.getfield 54, 3) := by decide +kernel
theorem dX0_sumOfCoverPremiums_8 : decode cX0_sumOfCoverPremiums 8 = .ok (.invokestatic 90, 3) := by decide +kernel
theorem dX0_sumOfCoverPremiums_11 : decode cX0_sumOfCoverPremiums 11 = .ok (.ireturn, 1) := by decide +kernel
theorem dX0_writeCover_0 : decode cX0_writeCover 0 = .ok (.aload_n 2, 1) := by decide +kernel
theorem dX0_writeCover_1 : decode cX0_writeCover 1 = .ok (.iconst 0, 1) := by decide +kernel
theorem dX0_writeCover_2 : decode cX0_writeCover 2 = .ok (.aload_n 0, 1) := by decide +kernel
theorem dX0_writeCover_3 : decode cX0_writeCover 3 = .ok (.getfield 9, 3) := by decide +kernel
theorem dX0_writeCover_6 : decode cX0_writeCover 6 = .ok (.iload_n 1, 1) := by decide +kernel
theorem dX0_writeCover_7 : decode cX0_writeCover 7 = .ok (.iaload, 1) := by decide +kernel
theorem dX0_writeCover_8 : decode cX0_writeCover 8 = .ok (.iastore, 1) := by decide +kernel
theorem dX0_writeCover_9 : decode cX0_writeCover 9 = .ok (.aload_n 2, 1) := by decide +kernel
theorem dX0_writeCover_10 : decode cX0_writeCover 10 = .ok (.iconst 1, 1) := by decide +kernel
theorem dX0_writeCover_11 : decode cX0_writeCover 11 = .ok (.aload_n 0, 1) := by decide +kernel
theorem dX0_writeCover_12 : decode cX0_writeCover 12 = .ok (.getfield 15, 3) := by decide +kernel
theorem dX0_writeCover_15 : decode cX0_writeCover 15 = .ok (.iload_n 1, 1) := by decide +kernel
theorem dX0_writeCover_16 : decode cX0_writeCover 16 = .ok (.iaload, 1) := by decide +kernel
theorem dX0_writeCover_17 : decode cX0_writeCover 17 = .ok (.iastore, 1) := by decide +kernel
theorem dX0_writeCover_18 : decode cX0_writeCover 18 = .ok (.aload_n 2, 1) := by decide +kernel
theorem dX0_writeCover_19 : decode cX0_writeCover 19 = .ok (.iconst 2, 1) := by decide +kernel
theorem dX0_writeCover_20 : decode cX0_writeCover 20 = .ok (.aload_n 0, 1) := by decide +kernel
theorem dX0_writeCover_21 : decode cX0_writeCover 21 = .ok (.getfield 18, 3) := by decide +kernel
theorem dX0_writeCover_24 : decode cX0_writeCover 24 = .ok (.iload_n 1, 1) := by decide +kernel
theorem dX0_writeCover_25 : decode cX0_writeCover 25 = .ok (.iaload, 1) := by decide +kernel
theorem dX0_writeCover_26 : decode cX0_writeCover 26 = .ok (.iastore, 1) := by decide +kernel
theorem dX0_writeCover_27 : decode cX0_writeCover 27 = .ok (.aload_n 2, 1) := by decide +kernel
theorem dX0_writeCover_28 : decode cX0_writeCover 28 = .ok (.iconst 3, 1) := by decide +kernel
theorem dX0_writeCover_29 : decode cX0_writeCover 29 = .ok (.aload_n 0, 1) := by decide +kernel
theorem dX0_writeCover_30 : decode cX0_writeCover 30 = .ok (.getfield 21, 3) := by decide +kernel
theorem dX0_writeCover_33 : decode cX0_writeCover 33 = .ok (.iload_n 1, 1) := by decide +kernel
theorem dX0_writeCover_34 : decode cX0_writeCover 34 = .ok (.iaload, 1) := by decide +kernel
theorem dX0_writeCover_35 : decode cX0_writeCover 35 = .ok (.iastore, 1) := by decide +kernel
theorem dX0_writeCover_36 : decode cX0_writeCover 36 = .ok (.return_, 1) := by decide +kernel
theorem dX0_writeLayer_0 : decode cX0_writeLayer 0 = .ok (.aload_n 2, 1) := by decide +kernel
theorem dX0_writeLayer_1 : decode cX0_writeLayer 1 = .ok (.iconst 0, 1) := by decide +kernel
theorem dX0_writeLayer_2 : decode cX0_writeLayer 2 = .ok (.aload_n 0, 1) := by decide +kernel
theorem dX0_writeLayer_3 : decode cX0_writeLayer 3 = .ok (.getfield 24, 3) := by decide +kernel
theorem dX0_writeLayer_6 : decode cX0_writeLayer 6 = .ok (.iload_n 1, 1) := by decide +kernel
theorem dX0_writeLayer_7 : decode cX0_writeLayer 7 = .ok (.iaload, 1) := by decide +kernel
theorem dX0_writeLayer_8 : decode cX0_writeLayer 8 = .ok (.iastore, 1) := by decide +kernel
theorem dX0_writeLayer_9 : decode cX0_writeLayer 9 = .ok (.aload_n 2, 1) := by decide +kernel
theorem dX0_writeLayer_10 : decode cX0_writeLayer 10 = .ok (.iconst 1, 1) := by decide +kernel
theorem dX0_writeLayer_11 : decode cX0_writeLayer 11 = .ok (.aload_n 0, 1) := by decide +kernel
theorem dX0_writeLayer_12 : decode cX0_writeLayer 12 = .ok (.getfield 27, 3) := by decide +kernel
theorem dX0_writeLayer_15 : decode cX0_writeLayer 15 = .ok (.iload_n 1, 1) := by decide +kernel
theorem dX0_writeLayer_16 : decode cX0_writeLayer 16 = .ok (.iaload, 1) := by decide +kernel
theorem dX0_writeLayer_17 : decode cX0_writeLayer 17 = .ok (.iastore, 1) := by decide +kernel
theorem dX0_writeLayer_18 : decode cX0_writeLayer 18 = .ok (.aload_n 2, 1) := by decide +kernel
theorem dX0_writeLayer_19 : decode cX0_writeLayer 19 = .ok (.iconst 2, 1) := by decide +kernel
theorem dX0_writeLayer_20 : decode cX0_writeLayer 20 = .ok (.aload_n 0, 1) := by decide +kernel
theorem dX0_writeLayer_21 : decode cX0_writeLayer 21 = .ok (.getfield 30, 3) := by decide +kernel
theorem dX0_writeLayer_24 : decode cX0_writeLayer 24 = .ok (.iload_n 1, 1) := by decide +kernel
theorem dX0_writeLayer_25 : decode cX0_writeLayer 25 = .ok (.iaload, 1) := by decide +kernel
theorem dX0_writeLayer_26 : decode cX0_writeLayer 26 = .ok (.iastore, 1) := by decide +kernel
theorem dX0_writeLayer_27 : decode cX0_writeLayer 27 = .ok (.aload_n 2, 1) := by decide +kernel
theorem dX0_writeLayer_28 : decode cX0_writeLayer 28 = .ok (.iconst 3, 1) := by decide +kernel
theorem dX0_writeLayer_29 : decode cX0_writeLayer 29 = .ok (.aload_n 0, 1) := by decide +kernel
theorem dX0_writeLayer_30 : decode cX0_writeLayer 30 = .ok (.getfield 33, 3) := by decide +kernel
theorem dX0_writeLayer_33 : decode cX0_writeLayer 33 = .ok (.iload_n 1, 1) := by decide +kernel
theorem dX0_writeLayer_34 : decode cX0_writeLayer 34 = .ok (.iaload, 1) := by decide +kernel
theorem dX0_writeLayer_35 : decode cX0_writeLayer 35 = .ok (.iastore, 1) := by decide +kernel
theorem dX0_writeLayer_36 : decode cX0_writeLayer 36 = .ok (.return_, 1) := by decide +kernel
theorem dX0_copyFrom_0 : decode cX0_copyFrom 0 = .ok (.aload_n 0, 1) := by decide +kernel
theorem dX0_copyFrom_1 : decode cX0_copyFrom 1 = .ok (.aload_n 1, 1) := by decide +kernel
theorem dX0_copyFrom_2 : decode cX0_copyFrom 2 = .ok (.getfield 54, 3) := by decide +kernel
theorem dX0_copyFrom_5 : decode cX0_copyFrom 5 = .ok (.putfield 54, 3) := by decide +kernel
theorem dX0_copyFrom_8 : decode cX0_copyFrom 8 = .ok (.aload_n 1, 1) := by decide +kernel
theorem dX0_copyFrom_9 : decode cX0_copyFrom 9 = .ok (.getfield 9, 3) := by decide +kernel
theorem dX0_copyFrom_12 : decode cX0_copyFrom 12 = .ok (.iconst 0, 1) := by decide +kernel
theorem dX0_copyFrom_13 : decode cX0_copyFrom 13 = .ok (.aload_n 0, 1) := by decide +kernel
theorem dX0_copyFrom_14 : decode cX0_copyFrom 14 = .ok (.getfield 9, 3) := by decide +kernel
theorem dX0_copyFrom_17 : decode cX0_copyFrom 17 = .ok (.iconst 0, 1) := by decide +kernel
theorem dX0_copyFrom_18 : decode cX0_copyFrom 18 = .ok (.bipush 6, 2) := by decide +kernel
theorem dX0_copyFrom_20 : decode cX0_copyFrom 20 = .ok (.invokestatic 94, 3) := by decide +kernel
theorem dX0_copyFrom_23 : decode cX0_copyFrom 23 = .ok (.aload_n 1, 1) := by decide +kernel
theorem dX0_copyFrom_24 : decode cX0_copyFrom 24 = .ok (.getfield 15, 3) := by decide +kernel
theorem dX0_copyFrom_27 : decode cX0_copyFrom 27 = .ok (.iconst 0, 1) := by decide +kernel
theorem dX0_copyFrom_28 : decode cX0_copyFrom 28 = .ok (.aload_n 0, 1) := by decide +kernel
theorem dX0_copyFrom_29 : decode cX0_copyFrom 29 = .ok (.getfield 15, 3) := by decide +kernel
theorem dX0_copyFrom_32 : decode cX0_copyFrom 32 = .ok (.iconst 0, 1) := by decide +kernel
theorem dX0_copyFrom_33 : decode cX0_copyFrom 33 = .ok (.bipush 6, 2) := by decide +kernel
theorem dX0_copyFrom_35 : decode cX0_copyFrom 35 = .ok (.invokestatic 94, 3) := by decide +kernel
theorem dX0_copyFrom_38 : decode cX0_copyFrom 38 = .ok (.aload_n 1, 1) := by decide +kernel
theorem dX0_copyFrom_39 : decode cX0_copyFrom 39 = .ok (.getfield 18, 3) := by decide +kernel
theorem dX0_copyFrom_42 : decode cX0_copyFrom 42 = .ok (.iconst 0, 1) := by decide +kernel
theorem dX0_copyFrom_43 : decode cX0_copyFrom 43 = .ok (.aload_n 0, 1) := by decide +kernel
theorem dX0_copyFrom_44 : decode cX0_copyFrom 44 = .ok (.getfield 18, 3) := by decide +kernel
theorem dX0_copyFrom_47 : decode cX0_copyFrom 47 = .ok (.iconst 0, 1) := by decide +kernel
theorem dX0_copyFrom_48 : decode cX0_copyFrom 48 = .ok (.bipush 6, 2) := by decide +kernel
theorem dX0_copyFrom_50 : decode cX0_copyFrom 50 = .ok (.invokestatic 94, 3) := by decide +kernel
theorem dX0_copyFrom_53 : decode cX0_copyFrom 53 = .ok (.aload_n 1, 1) := by decide +kernel
theorem dX0_copyFrom_54 : decode cX0_copyFrom 54 = .ok (.getfield 21, 3) := by decide +kernel
theorem dX0_copyFrom_57 : decode cX0_copyFrom 57 = .ok (.iconst 0, 1) := by decide +kernel
theorem dX0_copyFrom_58 : decode cX0_copyFrom 58 = .ok (.aload_n 0, 1) := by decide +kernel
theorem dX0_copyFrom_59 : decode cX0_copyFrom 59 = .ok (.getfield 21, 3) := by decide +kernel
theorem dX0_copyFrom_62 : decode cX0_copyFrom 62 = .ok (.iconst 0, 1) := by decide +kernel
theorem dX0_copyFrom_63 : decode cX0_copyFrom 63 = .ok (.bipush 6, 2) := by decide +kernel
theorem dX0_copyFrom_65 : decode cX0_copyFrom 65 = .ok (.invokestatic 94, 3) := by decide +kernel
theorem dX0_copyFrom_68 : decode cX0_copyFrom 68 = .ok (.aload_n 0, 1) := by decide +kernel
theorem dX0_copyFrom_69 : decode cX0_copyFrom 69 = .ok (.aload_n 1, 1) := by decide +kernel
theorem dX0_copyFrom_70 : decode cX0_copyFrom 70 = .ok (.getfield 62, 3) := by decide +kernel
theorem dX0_copyFrom_73 : decode cX0_copyFrom 73 = .ok (.putfield 62, 3) := by decide +kernel
theorem dX0_copyFrom_76 : decode cX0_copyFrom 76 = .ok (.aload_n 1, 1) := by decide +kernel
theorem dX0_copyFrom_77 : decode cX0_copyFrom 77 = .ok (.getfield 24, 3) := by decide +kernel
theorem dX0_copyFrom_80 : decode cX0_copyFrom 80 = .ok (.iconst 0, 1) := by decide +kernel
theorem dX0_copyFrom_81 : decode cX0_copyFrom 81 = .ok (.aload_n 0, 1) := by decide +kernel
theorem dX0_copyFrom_82 : decode cX0_copyFrom 82 = .ok (.getfield 24, 3) := by decide +kernel
theorem dX0_copyFrom_85 : decode cX0_copyFrom 85 = .ok (.iconst 0, 1) := by decide +kernel
theorem dX0_copyFrom_86 : decode cX0_copyFrom 86 = .ok (.iconst 4, 1) := by decide +kernel
theorem dX0_copyFrom_87 : decode cX0_copyFrom 87 = .ok (.invokestatic 94, 3) := by decide +kernel
theorem dX0_copyFrom_90 : decode cX0_copyFrom 90 = .ok (.aload_n 1, 1) := by decide +kernel
theorem dX0_copyFrom_91 : decode cX0_copyFrom 91 = .ok (.getfield 27, 3) := by decide +kernel
theorem dX0_copyFrom_94 : decode cX0_copyFrom 94 = .ok (.iconst 0, 1) := by decide +kernel
theorem dX0_copyFrom_95 : decode cX0_copyFrom 95 = .ok (.aload_n 0, 1) := by decide +kernel
theorem dX0_copyFrom_96 : decode cX0_copyFrom 96 = .ok (.getfield 27, 3) := by decide +kernel
theorem dX0_copyFrom_99 : decode cX0_copyFrom 99 = .ok (.iconst 0, 1) := by decide +kernel
theorem dX0_copyFrom_100 : decode cX0_copyFrom 100 = .ok (.iconst 4, 1) := by decide +kernel
theorem dX0_copyFrom_101 : decode cX0_copyFrom 101 = .ok (.invokestatic 94, 3) := by decide +kernel
theorem dX0_copyFrom_104 : decode cX0_copyFrom 104 = .ok (.aload_n 1, 1) := by decide +kernel
theorem dX0_copyFrom_105 : decode cX0_copyFrom 105 = .ok (.getfield 30, 3) := by decide +kernel
theorem dX0_copyFrom_108 : decode cX0_copyFrom 108 = .ok (.iconst 0, 1) := by decide +kernel
theorem dX0_copyFrom_109 : decode cX0_copyFrom 109 = .ok (.aload_n 0, 1) := by decide +kernel
theorem dX0_copyFrom_110 : decode cX0_copyFrom 110 = .ok (.getfield 30, 3) := by decide +kernel
theorem dX0_copyFrom_113 : decode cX0_copyFrom 113 = .ok (.iconst 0, 1) := by decide +kernel
theorem dX0_copyFrom_114 : decode cX0_copyFrom 114 = .ok (.iconst 4, 1) := by decide +kernel
theorem dX0_copyFrom_115 : decode cX0_copyFrom 115 = .ok (.invokestatic 94, 3) := by decide +kernel
theorem dX0_copyFrom_118 : decode cX0_copyFrom 118 = .ok (.aload_n 1, 1) := by decide +kernel
theorem dX0_copyFrom_119 : decode cX0_copyFrom 119 = .ok (.getfield 33, 3) := by decide +kernel
theorem dX0_copyFrom_122 : decode cX0_copyFrom 122 = .ok (.iconst 0, 1) := by decide +kernel
theorem dX0_copyFrom_123 : decode cX0_copyFrom 123 = .ok (.aload_n 0, 1) := by decide +kernel
theorem dX0_copyFrom_124 : decode cX0_copyFrom 124 = .ok (.getfield 33, 3) := by decide +kernel
theorem dX0_copyFrom_127 : decode cX0_copyFrom 127 = .ok (.iconst 0, 1) := by decide +kernel
theorem dX0_copyFrom_128 : decode cX0_copyFrom 128 = .ok (.iconst 4, 1) := by decide +kernel
theorem dX0_copyFrom_129 : decode cX0_copyFrom 129 = .ok (.invokestatic 94, 3) := by decide +kernel
theorem dX0_copyFrom_132 : decode cX0_copyFrom 132 = .ok (.aload_n 1, 1) := by decide +kernel
theorem dX0_copyFrom_133 : decode cX0_copyFrom 133 = .ok (.getfield 36, 3) := by decide +kernel
theorem dX0_copyFrom_136 : decode cX0_copyFrom 136 = .ok (.iconst 0, 1) := by decide +kernel
theorem dX0_copyFrom_137 : decode cX0_copyFrom 137 = .ok (.aload_n 0, 1) := by decide +kernel
theorem dX0_copyFrom_138 : decode cX0_copyFrom 138 = .ok (.getfield 36, 3) := by decide +kernel
theorem dX0_copyFrom_141 : decode cX0_copyFrom 141 = .ok (.iconst 0, 1) := by decide +kernel
theorem dX0_copyFrom_142 : decode cX0_copyFrom 142 = .ok (.iconst 3, 1) := by decide +kernel
theorem dX0_copyFrom_143 : decode cX0_copyFrom 143 = .ok (.invokestatic 94, 3) := by decide +kernel
theorem dX0_copyFrom_146 : decode cX0_copyFrom 146 = .ok (.aload_n 0, 1) := by decide +kernel
theorem dX0_copyFrom_147 : decode cX0_copyFrom 147 = .ok (.aload_n 1, 1) := by decide +kernel
theorem dX0_copyFrom_148 : decode cX0_copyFrom 148 = .ok (.getfield 87, 3) := by decide +kernel
theorem dX0_copyFrom_151 : decode cX0_copyFrom 151 = .ok (.putfield 87, 3) := by decide +kernel
theorem dX0_copyFrom_154 : decode cX0_copyFrom 154 = .ok (.aload_n 0, 1) := by decide +kernel
theorem dX0_copyFrom_155 : decode cX0_copyFrom 155 = .ok (.aload_n 1, 1) := by decide +kernel
theorem dX0_copyFrom_156 : decode cX0_copyFrom 156 = .ok (.getfield 65, 3) := by decide +kernel
theorem dX0_copyFrom_159 : decode cX0_copyFrom 159 = .ok (.putfield 65, 3) := by decide +kernel
theorem dX0_copyFrom_162 : decode cX0_copyFrom 162 = .ok (.aload_n 1, 1) := by decide +kernel
theorem dX0_copyFrom_163 : decode cX0_copyFrom 163 = .ok (.getfield 39, 3) := by decide +kernel
theorem dX0_copyFrom_166 : decode cX0_copyFrom 166 = .ok (.iconst 0, 1) := by decide +kernel
theorem dX0_copyFrom_167 : decode cX0_copyFrom 167 = .ok (.aload_n 0, 1) := by decide +kernel
theorem dX0_copyFrom_168 : decode cX0_copyFrom 168 = .ok (.getfield 39, 3) := by decide +kernel
theorem dX0_copyFrom_171 : decode cX0_copyFrom 171 = .ok (.iconst 0, 1) := by decide +kernel
theorem dX0_copyFrom_172 : decode cX0_copyFrom 172 = .ok (.bipush 8, 2) := by decide +kernel
theorem dX0_copyFrom_174 : decode cX0_copyFrom 174 = .ok (.invokestatic 94, 3) := by decide +kernel
theorem dX0_copyFrom_177 : decode cX0_copyFrom 177 = .ok (.aload_n 1, 1) := by decide +kernel
theorem dX0_copyFrom_178 : decode cX0_copyFrom 178 = .ok (.getfield 42, 3) := by decide +kernel
theorem dX0_copyFrom_181 : decode cX0_copyFrom 181 = .ok (.iconst 0, 1) := by decide +kernel
theorem dX0_copyFrom_182 : decode cX0_copyFrom 182 = .ok (.aload_n 0, 1) := by decide +kernel
theorem dX0_copyFrom_183 : decode cX0_copyFrom 183 = .ok (.getfield 42, 3) := by decide +kernel
theorem dX0_copyFrom_186 : decode cX0_copyFrom 186 = .ok (.iconst 0, 1) := by decide +kernel
theorem dX0_copyFrom_187 : decode cX0_copyFrom 187 = .ok (.bipush 8, 2) := by decide +kernel
theorem dX0_copyFrom_189 : decode cX0_copyFrom 189 = .ok (.invokestatic 94, 3) := by decide +kernel
theorem dX0_copyFrom_192 : decode cX0_copyFrom 192 = .ok (.aload_n 0, 1) := by decide +kernel
theorem dX0_copyFrom_193 : decode cX0_copyFrom 193 = .ok (.aload_n 1, 1) := by decide +kernel
theorem dX0_copyFrom_194 : decode cX0_copyFrom 194 = .ok (.getfield 68, 3) := by decide +kernel
theorem dX0_copyFrom_197 : decode cX0_copyFrom 197 = .ok (.putfield 68, 3) := by decide +kernel
theorem dX0_copyFrom_200 : decode cX0_copyFrom 200 = .ok (.aload_n 1, 1) := by decide +kernel
theorem dX0_copyFrom_201 : decode cX0_copyFrom 201 = .ok (.getfield 45, 3) := by decide +kernel
theorem dX0_copyFrom_204 : decode cX0_copyFrom 204 = .ok (.iconst 0, 1) := by decide +kernel
theorem dX0_copyFrom_205 : decode cX0_copyFrom 205 = .ok (.aload_n 0, 1) := by decide +kernel
theorem dX0_copyFrom_206 : decode cX0_copyFrom 206 = .ok (.getfield 45, 3) := by decide +kernel
theorem dX0_copyFrom_209 : decode cX0_copyFrom 209 = .ok (.iconst 0, 1) := by decide +kernel
theorem dX0_copyFrom_210 : decode cX0_copyFrom 210 = .ok (.bipush 24, 2) := by decide +kernel
theorem dX0_copyFrom_212 : decode cX0_copyFrom 212 = .ok (.invokestatic 94, 3) := by decide +kernel
theorem dX0_copyFrom_215 : decode cX0_copyFrom 215 = .ok (.aload_n 1, 1) := by decide +kernel
theorem dX0_copyFrom_216 : decode cX0_copyFrom 216 = .ok (.getfield 48, 3) := by decide +kernel
theorem dX0_copyFrom_219 : decode cX0_copyFrom 219 = .ok (.iconst 0, 1) := by decide +kernel
theorem dX0_copyFrom_220 : decode cX0_copyFrom 220 = .ok (.aload_n 0, 1) := by decide +kernel
theorem dX0_copyFrom_221 : decode cX0_copyFrom 221 = .ok (.getfield 48, 3) := by decide +kernel
theorem dX0_copyFrom_224 : decode cX0_copyFrom 224 = .ok (.iconst 0, 1) := by decide +kernel
theorem dX0_copyFrom_225 : decode cX0_copyFrom 225 = .ok (.bipush 24, 2) := by decide +kernel
theorem dX0_copyFrom_227 : decode cX0_copyFrom 227 = .ok (.invokestatic 94, 3) := by decide +kernel
theorem dX0_copyFrom_230 : decode cX0_copyFrom 230 = .ok (.aload_n 1, 1) := by decide +kernel
theorem dX0_copyFrom_231 : decode cX0_copyFrom 231 = .ok (.getfield 51, 3) := by decide +kernel
theorem dX0_copyFrom_234 : decode cX0_copyFrom 234 = .ok (.iconst 0, 1) := by decide +kernel
theorem dX0_copyFrom_235 : decode cX0_copyFrom 235 = .ok (.aload_n 0, 1) := by decide +kernel
theorem dX0_copyFrom_236 : decode cX0_copyFrom 236 = .ok (.getfield 51, 3) := by decide +kernel
theorem dX0_copyFrom_239 : decode cX0_copyFrom 239 = .ok (.iconst 0, 1) := by decide +kernel
theorem dX0_copyFrom_240 : decode cX0_copyFrom 240 = .ok (.bipush 24, 2) := by decide +kernel
theorem dX0_copyFrom_242 : decode cX0_copyFrom 242 = .ok (.invokestatic 94, 3) := by decide +kernel
theorem dX0_copyFrom_245 : decode cX0_copyFrom 245 = .ok (.return_, 1) := by decide +kernel
theorem dX1_init_0 : decode cX1_init 0 = .ok (.aload_n 0, 1) := by decide +kernel
theorem dX1_init_1 : decode cX1_init 1 = .ok (.invokespecial 3, 3) := by decide +kernel
theorem dX1_init_4 : decode cX1_init 4 = .ok (.aload_n 0, 1) := by decide +kernel
theorem dX1_init_5 : decode cX1_init 5 = .ok (.bipush 7, 2) := by decide +kernel
theorem dX1_init_7 : decode cX1_init 7 = .ok (.anewarray 11, 3) := by decide +kernel
theorem dX1_init_10 : decode cX1_init 10 = .ok (.putfield 13, 3) := by decide +kernel
theorem dX1_init_13 : decode cX1_init 13 = .ok (.iconst 0, 1) := by decide +kernel
theorem dX1_init_14 : decode cX1_init 14 = .ok (.istore_n 1, 1) := by decide +kernel
theorem dX1_init_15 : decode cX1_init 15 = .ok (.iload_n 1, 1) := by decide +kernel
theorem dX1_init_16 : decode cX1_init 16 = .ok (.bipush 7, 2) := by decide +kernel
theorem dX1_init_18 : decode cX1_init 18 = .ok (.if_icmp .ge 22, 3) := by decide +kernel
theorem dX1_init_21 : decode cX1_init 21 = .ok (.aload_n 0, 1) := by decide +kernel
theorem dX1_init_22 : decode cX1_init 22 = .ok (.getfield 13, 3) := by decide +kernel
theorem dX1_init_25 : decode cX1_init 25 = .ok (.iload_n 1, 1) := by decide +kernel
theorem dX1_init_26 : decode cX1_init 26 = .ok (.new 11, 3) := by decide +kernel
theorem dX1_init_29 : decode cX1_init 29 = .ok (.dup, 1) := by decide +kernel
theorem dX1_init_30 : decode cX1_init 30 = .ok (.invokespecial 17, 3) := by decide +kernel
theorem dX1_init_33 : decode cX1_init 33 = .ok (.aastore, 1) := by decide +kernel
theorem dX1_init_34 : decode cX1_init 34 = .ok (.iinc 1 1, 3) := by decide +kernel
theorem dX1_init_37 : decode cX1_init 37 = .ok (.goto (-22), 3) := by decide +kernel
theorem dX1_init_40 : decode cX1_init 40 = .ok (.return_, 1) := by decide +kernel
theorem dX1_mark_0 : decode cX1_mark 0 = .ok (.aload_n 0, 1) := by decide +kernel
theorem dX1_mark_1 : decode cX1_mark 1 = .ok (.getfield 13, 3) := by decide +kernel
theorem dX1_mark_4 : decode cX1_mark 4 = .ok (.aload_n 0, 1) := by decide +kernel
theorem dX1_mark_5 : decode cX1_mark 5 = .ok (.getfield 18, 3) := by decide +kernel
theorem dX1_mark_8 : decode cX1_mark 8 = .ok (.aaload, 1) := by decide +kernel
theorem dX1_mark_9 : decode cX1_mark 9 = .ok (.aload_n 1, 1) := by decide +kernel
theorem dX1_mark_10 : decode cX1_mark 10 = .ok (.invokevirtual 22, 3) := by decide +kernel
theorem dX1_mark_13 : decode cX1_mark 13 = .ok (.return_, 1) := by decide +kernel
theorem dX1_keepMark_0 : decode cX1_keepMark 0 = .ok (.aload_n 0, 1) := by decide +kernel
theorem dX1_keepMark_1 : decode cX1_keepMark 1 = .ok (.aload_n 0, 1) := by decide +kernel
theorem dX1_keepMark_2 : decode cX1_keepMark 2 = .ok (.getfield 18, 3) := by decide +kernel
theorem dX1_keepMark_5 : decode cX1_keepMark 5 = .ok (.iconst 1, 1) := by decide +kernel
theorem dX1_keepMark_6 : decode cX1_keepMark 6 = .ok (.iadd, 1) := by decide +kernel
theorem dX1_keepMark_7 : decode cX1_keepMark 7 = .ok (.bipush 7, 2) := by decide +kernel
theorem dX1_keepMark_9 : decode cX1_keepMark 9 = .ok (.irem, 1) := by decide +kernel
theorem dX1_keepMark_10 : decode cX1_keepMark 10 = .ok (.putfield 18, 3) := by decide +kernel
theorem dX1_keepMark_13 : decode cX1_keepMark 13 = .ok (.aload_n 0, 1) := by decide +kernel
theorem dX1_keepMark_14 : decode cX1_keepMark 14 = .ok (.aload_n 0, 1) := by decide +kernel
theorem dX1_keepMark_15 : decode cX1_keepMark 15 = .ok (.getfield 26, 3) := by decide +kernel
theorem dX1_keepMark_18 : decode cX1_keepMark 18 = .ok (.iconst 1, 1) := by decide +kernel
theorem dX1_keepMark_19 : decode cX1_keepMark 19 = .ok (.iadd, 1) := by decide +kernel
theorem dX1_keepMark_20 : decode cX1_keepMark 20 = .ok (.bipush 6, 2) := by decide +kernel
theorem dX1_keepMark_22 : decode cX1_keepMark 22 = .ok (.invokestatic 29, 3) := by decide +kernel
theorem dX1_keepMark_25 : decode cX1_keepMark 25 = .ok (.putfield 26, 3) := by decide +kernel
theorem dX1_keepMark_28 : decode cX1_keepMark 28 = .ok (.return_, 1) := by decide +kernel
theorem dX1_returnToMark_0 : decode cX1_returnToMark 0 = .ok (.aload_n 1, 1) := by decide +kernel
theorem dX1_returnToMark_1 : decode cX1_returnToMark 1 = .ok (.aload_n 0, 1) := by decide +kernel
theorem dX1_returnToMark_2 : decode cX1_returnToMark 2 = .ok (.getfield 13, 3) := by decide +kernel
theorem dX1_returnToMark_5 : decode cX1_returnToMark 5 = .ok (.aload_n 0, 1) := by decide +kernel
theorem dX1_returnToMark_6 : decode cX1_returnToMark 6 = .ok (.getfield 18, 3) := by decide +kernel
theorem dX1_returnToMark_9 : decode cX1_returnToMark 9 = .ok (.aaload, 1) := by decide +kernel
theorem dX1_returnToMark_10 : decode cX1_returnToMark 10 = .ok (.invokevirtual 22, 3) := by decide +kernel
theorem dX1_returnToMark_13 : decode cX1_returnToMark 13 = .ok (.return_, 1) := by decide +kernel
theorem dX1_goBack_0 : decode cX1_goBack 0 = .ok (.aload_n 0, 1) := by decide +kernel
theorem dX1_goBack_1 : decode cX1_goBack 1 = .ok (.getfield 26, 3) := by decide +kernel
theorem dX1_goBack_4 : decode cX1_goBack 4 = .ok (.ifCond .ne 6, 3) := by decide +kernel
theorem dX1_goBack_7 : decode cX1_goBack 7 = .ok (.bipush (-4), 2) := by decide +kernel
theorem dX1_goBack_9 : decode cX1_goBack 9 = .ok (.ireturn, 1) := by decide +kernel
theorem dX1_goBack_10 : decode cX1_goBack 10 = .ok (.aload_n 0, 1) := by decide +kernel
theorem dX1_goBack_11 : decode cX1_goBack 11 = .ok (.dup, 1) := by decide +kernel
theorem dX1_goBack_12 : decode cX1_goBack 12 = .ok (.getfield 26, 3) := by decide +kernel
theorem dX1_goBack_15 : decode cX1_goBack 15 = .ok (.iconst 1, 1) := by decide +kernel
theorem dX1_goBack_16 : decode cX1_goBack 16 = .ok (.isub, 1) := by decide +kernel
theorem dX1_goBack_17 : decode cX1_goBack 17 = .ok (.putfield 26, 3) := by decide +kernel
theorem dX1_goBack_20 : decode cX1_goBack 20 = .ok (.aload_n 0, 1) := by decide +kernel
theorem dX1_goBack_21 : decode cX1_goBack 21 = .ok (.aload_n 0, 1) := by decide +kernel
theorem dX1_goBack_22 : decode cX1_goBack 22 = .ok (.getfield 18, 3) := by decide +kernel
theorem dX1_goBack_25 : decode cX1_goBack 25 = .ok (.bipush 7, 2) := by decide +kernel
theorem dX1_goBack_27 : decode cX1_goBack 27 = .ok (.iadd, 1) := by decide +kernel
theorem dX1_goBack_28 : decode cX1_goBack 28 = .ok (.iconst 1, 1) := by decide +kernel
theorem dX1_goBack_29 : decode cX1_goBack 29 = .ok (.isub, 1) := by decide +kernel
theorem dX1_goBack_30 : decode cX1_goBack 30 = .ok (.bipush 7, 2) := by decide +kernel
theorem dX1_goBack_32 : decode cX1_goBack 32 = .ok (.irem, 1) := by decide +kernel
theorem dX1_goBack_33 : decode cX1_goBack 33 = .ok (.putfield 18, 3) := by decide +kernel
theorem dX1_goBack_36 : decode cX1_goBack 36 = .ok (.aload_n 0, 1) := by decide +kernel
theorem dX1_goBack_37 : decode cX1_goBack 37 = .ok (.aload_n 1, 1) := by decide +kernel
theorem dX1_goBack_38 : decode cX1_goBack 38 = .ok (.invokevirtual 35, 3) := by decide +kernel
theorem dX1_goBack_41 : decode cX1_goBack 41 = .ok (.aload_n 0, 1) := by decide +kernel
theorem dX1_goBack_42 : decode cX1_goBack 42 = .ok (.getfield 26, 3) := by decide +kernel
theorem dX1_goBack_45 : decode cX1_goBack 45 = .ok (.ireturn, 1) := by decide +kernel
theorem dX1_forget_0 : decode cX1_forget 0 = .ok (.aload_n 0, 1) := by decide +kernel
theorem dX1_forget_1 : decode cX1_forget 1 = .ok (.iconst 0, 1) := by decide +kernel
theorem dX1_forget_2 : decode cX1_forget 2 = .ok (.putfield 26, 3) := by decide +kernel
theorem dX1_forget_5 : decode cX1_forget 5 = .ok (.return_, 1) := by decide +kernel
theorem dX2_init_0 : decode cX2_init 0 = .ok (.aload_n 0, 1) := by decide +kernel
theorem dX2_init_1 : decode cX2_init 1 = .ok (.invokespecial 3, 3) := by decide +kernel
theorem dX2_init_4 : decode cX2_init 4 = .ok (.aload_n 0, 1) := by decide +kernel
theorem dX2_init_5 : decode cX2_init 5 = .ok (.bipush 24, 2) := by decide +kernel
theorem dX2_init_7 : decode cX2_init 7 = .ok (.newarray .int, 2) := by decide +kernel
theorem dX2_init_9 : decode cX2_init 9 = .ok (.putfield 9, 3) := by decide +kernel
theorem dX2_init_12 : decode cX2_init 12 = .ok (.aload_n 0, 1) := by decide +kernel
theorem dX2_init_13 : decode cX2_init 13 = .ok (.bipush 24, 2) := by decide +kernel
theorem dX2_init_15 : decode cX2_init 15 = .ok (.newarray .int, 2) := by decide +kernel
theorem dX2_init_17 : decode cX2_init 17 = .ok (.putfield 15, 3) := by decide +kernel
theorem dX2_init_20 : decode cX2_init 20 = .ok (.aload_n 0, 1) := by decide +kernel
theorem dX2_init_21 : decode cX2_init 21 = .ok (.bipush 24, 2) := by decide +kernel
theorem dX2_init_23 : decode cX2_init 23 = .ok (.newarray .long, 2) := by decide +kernel
theorem dX2_init_25 : decode cX2_init 25 = .ok (.putfield 18, 3) := by decide +kernel
theorem dX2_init_28 : decode cX2_init 28 = .ok (.return_, 1) := by decide +kernel
theorem dX2_shareOut_0 : decode cX2_shareOut 0 = .ok (.aload_n 0, 1) := by decide +kernel
theorem dX2_shareOut_1 : decode cX2_shareOut 1 = .ok (.getfield 9, 3) := by decide +kernel
theorem dX2_shareOut_4 : decode cX2_shareOut 4 = .ok (.iload_n 2, 1) := by decide +kernel
theorem dX2_shareOut_5 : decode cX2_shareOut 5 = .ok (.invokestatic 22, 3) := by decide +kernel
theorem dX2_shareOut_8 : decode cX2_shareOut 8 = .ok (.istore_n 3, 1) := by decide +kernel
theorem dX2_shareOut_9 : decode cX2_shareOut 9 = .ok (.iload_n 1, 1) := by decide +kernel
theorem dX2_shareOut_10 : decode cX2_shareOut 10 = .ok (.istore 4, 2) := by decide +kernel
theorem dX2_shareOut_12 : decode cX2_shareOut 12 = .ok (.iconst 0, 1) := by decide +kernel
theorem dX2_shareOut_13 : decode cX2_shareOut 13 = .ok (.istore 5, 2) := by decide +kernel
theorem dX2_shareOut_15 : decode cX2_shareOut 15 = .ok (.iload 5, 2) := by decide +kernel
theorem dX2_shareOut_17 : decode cX2_shareOut 17 = .ok (.iload_n 2, 1) := by decide +kernel
theorem dX2_shareOut_18 : decode cX2_shareOut 18 = .ok (.if_icmp .ge 69, 3) := by decide +kernel
theorem dX2_shareOut_21 : decode cX2_shareOut 21 = .ok (.iload_n 1, 1) := by decide +kernel
theorem dX2_shareOut_22 : decode cX2_shareOut 22 = .ok (.i2l, 1) := by decide +kernel
theorem dX2_shareOut_23 : decode cX2_shareOut 23 = .ok (.aload_n 0, 1) := by decide +kernel
theorem dX2_shareOut_24 : decode cX2_shareOut 24 = .ok (.getfield 9, 3) := by decide +kernel
theorem dX2_shareOut_27 : decode cX2_shareOut 27 = .ok (.iload 5, 2) := by decide +kernel
theorem dX2_shareOut_29 : decode cX2_shareOut 29 = .ok (.iaload, 1) := by decide +kernel
theorem dX2_shareOut_30 : decode cX2_shareOut 30 = .ok (.i2l, 1) := by decide +kernel
theorem dX2_shareOut_31 : decode cX2_shareOut 31 = .ok (.lmul, 1) := by decide +kernel
theorem dX2_shareOut_32 : decode cX2_shareOut 32 = .ok (.lstore 6, 2) := by decide +kernel
theorem dX2_shareOut_34 : decode cX2_shareOut 34 = .ok (.aload_n 0, 1) := by decide +kernel
theorem dX2_shareOut_35 : decode cX2_shareOut 35 = .ok (.getfield 15, 3) := by decide +kernel
theorem dX2_shareOut_38 : decode cX2_shareOut 38 = .ok (.iload 5, 2) := by decide +kernel
theorem dX2_shareOut_40 : decode cX2_shareOut 40 = .ok (.lload 6, 2) := by decide +kernel
theorem dX2_shareOut_42 : decode cX2_shareOut 42 = .ok (.iload_n 3, 1) := by decide +kernel
theorem dX2_shareOut_43 : decode cX2_shareOut 43 = .ok (.i2l, 1) := by decide +kernel
theorem dX2_shareOut_44 : decode cX2_shareOut 44 = .ok (.invokestatic 26, 3) := by decide +kernel
theorem dX2_shareOut_47 : decode cX2_shareOut 47 = .ok (.iastore, 1) := by decide +kernel
theorem dX2_shareOut_48 : decode cX2_shareOut 48 = .ok (.aload_n 0, 1) := by decide +kernel
theorem dX2_shareOut_49 : decode cX2_shareOut 49 = .ok (.getfield 18, 3) := by decide +kernel
theorem dX2_shareOut_52 : decode cX2_shareOut 52 = .ok (.iload 5, 2) := by decide +kernel
theorem dX2_shareOut_54 : decode cX2_shareOut 54 = .ok (.lload 6, 2) := by decide +kernel
theorem dX2_shareOut_56 : decode cX2_shareOut 56 = .ok (.aload_n 0, 1) := by decide +kernel
theorem dX2_shareOut_57 : decode cX2_shareOut 57 = .ok (.getfield 15, 3) := by decide +kernel
theorem dX2_shareOut_60 : decode cX2_shareOut 60 = .ok (.iload 5, 2) := by decide +kernel
theorem dX2_shareOut_62 : decode cX2_shareOut 62 = .ok (.iaload, 1) := by decide +kernel
theorem dX2_shareOut_63 : decode cX2_shareOut 63 = .ok (.i2l, 1) := by decide +kernel
theorem dX2_shareOut_64 : decode cX2_shareOut 64 = .ok (.iload_n 3, 1) := by decide +kernel
theorem dX2_shareOut_65 : decode cX2_shareOut 65 = .ok (.i2l, 1) := by decide +kernel
theorem dX2_shareOut_66 : decode cX2_shareOut 66 = .ok (.lmul, 1) := by decide +kernel
theorem dX2_shareOut_67 : decode cX2_shareOut 67 = .ok (.lsub, 1) := by decide +kernel
theorem dX2_shareOut_68 : decode cX2_shareOut 68 = .ok (.lastore, 1) := by decide +kernel
theorem dX2_shareOut_69 : decode cX2_shareOut 69 = .ok (.iload 4, 2) := by decide +kernel
theorem dX2_shareOut_71 : decode cX2_shareOut 71 = .ok (.aload_n 0, 1) := by decide +kernel
theorem dX2_shareOut_72 : decode cX2_shareOut 72 = .ok (.getfield 15, 3) := by decide +kernel
theorem dX2_shareOut_75 : decode cX2_shareOut 75 = .ok (.iload 5, 2) := by decide +kernel
theorem dX2_shareOut_77 : decode cX2_shareOut 77 = .ok (.iaload, 1) := by decide +kernel
theorem dX2_shareOut_78 : decode cX2_shareOut 78 = .ok (.isub, 1) := by decide +kernel
theorem dX2_shareOut_79 : decode cX2_shareOut 79 = .ok (.istore 4, 2) := by decide +kernel
theorem dX2_shareOut_81 : decode cX2_shareOut 81 = .ok (.iinc 5 1, 3) := by decide +kernel
theorem dX2_shareOut_84 : decode cX2_shareOut 84 = .ok (.goto (-69), 3) := by decide +kernel
theorem dX2_shareOut_87 : decode cX2_shareOut 87 = .ok (.iconst 0, 1) := by decide +kernel
theorem dX2_shareOut_88 : decode cX2_shareOut 88 = .ok (.istore 5, 2) := by decide +kernel
theorem dX2_shareOut_90 : decode cX2_shareOut 90 = .ok (.iload 5, 2) := by decide +kernel
theorem dX2_shareOut_92 : decode cX2_shareOut 92 = .ok (.iload_n 2, 1) := by decide +kernel
theorem dX2_shareOut_93 : decode cX2_shareOut 93 = .ok (.if_icmp .ge 45, 3) := by decide +kernel
theorem dX2_shareOut_96 : decode cX2_shareOut 96 = .ok (.iload 4, 2) := by decide +kernel
theorem dX2_shareOut_98 : decode cX2_shareOut 98 = .ok (.ifCond .le 40, 3) := by decide +kernel
theorem dX2_shareOut_101 : decode cX2_shareOut 101 = .ok (.aload_n 0, 1) := by decide +kernel
theorem dX2_shareOut_102 : decode cX2_shareOut 102 = .ok (.iload_n 2, 1) := by decide +kernel
theorem dX2_shareOut_103 : decode cX2_shareOut 103 = .ok (.invokevirtual 30, 3) := by decide +kernel
theorem dX2_shareOut_106 : decode cX2_shareOut 106 = .ok (.istore 6, 2) := by decide +kernel
theorem dX2_shareOut_108 : decode cX2_shareOut 108 = .ok (.aload_n 0, 1) := by decide +kernel
theorem dX2_shareOut_109 : decode cX2_shareOut 109 = .ok (.getfield 15, 3) := by decide +kernel
theorem dX2_shareOut_112 : decode cX2_shareOut 112 = .ok (.iload 6, 2) := by decide +kernel
theorem dX2_shareOut_114 : decode cX2_shareOut 114 = .ok (.dup2, 1) := by decide +kernel
theorem dX2_shareOut_115 : decode cX2_shareOut 115 = .ok (.iaload, 1) := by decide +kernel
theorem dX2_shareOut_116 : decode cX2_shareOut 116 = .ok (.iconst 1, 1) := by decide +kernel
theorem dX2_shareOut_117 : decode cX2_shareOut 117 = .ok (.iadd, 1) := by decide +kernel
theorem dX2_shareOut_118 : decode cX2_shareOut 118 = .ok (.iastore, 1) := by decide +kernel
theorem dX2_shareOut_119 : decode cX2_shareOut 119 = .ok (.aload_n 0, 1) := by decide +kernel
theorem dX2_shareOut_120 : decode cX2_shareOut 120 = .ok (.getfield 18, 3) := by decide +kernel
theorem dX2_shareOut_123 : decode cX2_shareOut 123 = .ok (.iload 6, 2) := by decide +kernel
theorem dX2_shareOut_125 : decode cX2_shareOut 125 = .ok (.ldc2_w 34, 3) := by decide +kernel
theorem dX2_shareOut_128 : decode cX2_shareOut 128 = .ok (.lastore, 1) := by decide +kernel
theorem dX2_shareOut_129 : decode cX2_shareOut 129 = .ok (.iinc 4 (-1), 3) := by decide +kernel
theorem dX2_shareOut_132 : decode cX2_shareOut 132 = .ok (.iinc 5 1, 3) := by decide +kernel
theorem dX2_shareOut_135 : decode cX2_shareOut 135 = .ok (.goto (-45), 3) := by decide +kernel
theorem dX2_shareOut_138 : decode cX2_shareOut 138 = .ok (.return_, 1) := by decide +kernel
theorem dX2_greatestRemainder_0 : decode cX2_greatestRemainder 0 = .ok (.iconst 0, 1) := by decide +kernel
theorem dX2_greatestRemainder_1 : decode cX2_greatestRemainder 1 = .ok (.istore_n 2, 1) := by decide +kernel
theorem dX2_greatestRemainder_2 : decode cX2_greatestRemainder 2 = .ok (.iconst 1, 1) := by decide +kernel
theorem dX2_greatestRemainder_3 : decode cX2_greatestRemainder 3 = .ok (.istore_n 3, 1) := by decide +kernel
theorem dX2_greatestRemainder_4 : decode cX2_greatestRemainder 4 = .ok (.iload_n 3, 1) := by decide +kernel
theorem dX2_greatestRemainder_5 : decode cX2_greatestRemainder 5 = .ok (.iload_n 1, 1) := by decide +kernel
theorem dX2_greatestRemainder_6 : decode cX2_greatestRemainder 6 = .ok (.if_icmp .ge 27, 3) := by decide +kernel
theorem dX2_greatestRemainder_9 : decode cX2_greatestRemainder 9 = .ok (.aload_n 0, 1) := by decide +kernel
theorem dX2_greatestRemainder_10 : decode cX2_greatestRemainder 10 = .ok (.getfield 18, 3) := by decide +kernel
theorem dX2_greatestRemainder_13 : decode cX2_greatestRemainder 13 = .ok (.iload_n 3, 1) := by decide +kernel
theorem dX2_greatestRemainder_14 : decode cX2_greatestRemainder 14 = .ok (.laload, 1) := by decide +kernel
theorem dX2_greatestRemainder_15 : decode cX2_greatestRemainder 15 = .ok (.aload_n 0, 1) := by decide +kernel
theorem dX2_greatestRemainder_16 : decode cX2_greatestRemainder 16 = .ok (.getfield 18, 3) := by decide +kernel
theorem dX2_greatestRemainder_19 : decode cX2_greatestRemainder 19 = .ok (.iload_n 2, 1) := by decide +kernel
theorem dX2_greatestRemainder_20 : decode cX2_greatestRemainder 20 = .ok (.laload, 1) := by decide +kernel
theorem dX2_greatestRemainder_21 : decode cX2_greatestRemainder 21 = .ok (.lcmp, 1) := by decide +kernel
theorem dX2_greatestRemainder_22 : decode cX2_greatestRemainder 22 = .ok (.ifCond .le 5, 3) := by decide +kernel
theorem dX2_greatestRemainder_25 : decode cX2_greatestRemainder 25 = .ok (.iload_n 3, 1) := by decide +kernel
theorem dX2_greatestRemainder_26 : decode cX2_greatestRemainder 26 = .ok (.istore_n 2, 1) := by decide +kernel
theorem dX2_greatestRemainder_27 : decode cX2_greatestRemainder 27 = .ok (.iinc 3 1, 3) := by decide +kernel
theorem dX2_greatestRemainder_30 : decode cX2_greatestRemainder 30 = .ok (.goto (-26), 3) := by decide +kernel
theorem dX2_greatestRemainder_33 : decode cX2_greatestRemainder 33 = .ok (.iload_n 2, 1) := by decide +kernel
theorem dX2_greatestRemainder_34 : decode cX2_greatestRemainder 34 = .ok (.ireturn, 1) := by decide +kernel
theorem dX3_init_0 : decode cX3_init 0 = .ok (.aload_n 0, 1) := by decide +kernel
theorem dX3_init_1 : decode cX3_init 1 = .ok (.invokespecial 5, 3) := by decide +kernel
theorem dX3_init_4 : decode cX3_init 4 = .ok (.aload_n 0, 1) := by decide +kernel
theorem dX3_init_5 : decode cX3_init 5 = .ok (.bipush 60, 2) := by decide +kernel
theorem dX3_init_7 : decode cX3_init 7 = .ok (.newarray .char, 2) := by decide +kernel
theorem dX3_init_9 : decode cX3_init 9 = .ok (.putfield 11, 3) := by decide +kernel
theorem dX3_init_12 : decode cX3_init 12 = .ok (.aload_n 0, 1) := by decide +kernel
theorem dX3_init_13 : decode cX3_init 13 = .ok (.bipush 20, 2) := by decide +kernel
theorem dX3_init_15 : decode cX3_init 15 = .ok (.newarray .char, 2) := by decide +kernel
theorem dX3_init_17 : decode cX3_init 17 = .ok (.putfield 15, 3) := by decide +kernel
theorem dX3_init_20 : decode cX3_init 20 = .ok (.aload_n 0, 1) := by decide +kernel
theorem dX3_init_21 : decode cX3_init 21 = .ok (.bipush 20, 2) := by decide +kernel
theorem dX3_init_23 : decode cX3_init 23 = .ok (.newarray .int, 2) := by decide +kernel
theorem dX3_init_25 : decode cX3_init 25 = .ok (.putfield 18, 3) := by decide +kernel
theorem dX3_init_28 : decode cX3_init 28 = .ok (.aload_n 0, 1) := by decide +kernel
theorem dX3_init_29 : decode cX3_init 29 = .ok (.bipush 20, 2) := by decide +kernel
theorem dX3_init_31 : decode cX3_init 31 = .ok (.iconst 3, 1) := by decide +kernel
theorem dX3_init_32 : decode cX3_init 32 = .ok (.multianewarray 22 2, 4) := by decide +kernel
theorem dX3_init_36 : decode cX3_init 36 = .ok (.putfield 24, 3) := by decide +kernel
theorem dX3_init_39 : decode cX3_init 39 = .ok (.return_, 1) := by decide +kernel
theorem dX3_extend_0 : decode cX3_extend 0 = .ok (.iconst 0, 1) := by decide +kernel
theorem dX3_extend_1 : decode cX3_extend 1 = .ok (.istore_n 2, 1) := by decide +kernel
theorem dX3_extend_2 : decode cX3_extend 2 = .ok (.bipush 24, 2) := by decide +kernel
theorem dX3_extend_4 : decode cX3_extend 4 = .ok (.istore_n 3, 1) := by decide +kernel
theorem dX3_extend_5 : decode cX3_extend 5 = .ok (.iload_n 3, 1) := by decide +kernel
theorem dX3_extend_6 : decode cX3_extend 6 = .ok (.ifCond .lt 51, 3) := by decide +kernel
theorem dX3_extend_9 : decode cX3_extend 9 = .ok (.iload_n 1, 1) := by decide +kernel
theorem dX3_extend_10 : decode cX3_extend 10 = .ok (.iload_n 3, 1) := by decide +kernel
theorem dX3_extend_11 : decode cX3_extend 11 = .ok (.iushr, 1) := by decide +kernel
theorem dX3_extend_12 : decode cX3_extend 12 = .ok (.sipush 255, 3) := by decide +kernel
theorem dX3_extend_15 : decode cX3_extend 15 = .ok (.iand, 1) := by decide +kernel
theorem dX3_extend_16 : decode cX3_extend 16 = .ok (.istore 4, 2) := by decide +kernel
theorem dX3_extend_18 : decode cX3_extend 18 = .ok (.iload 4, 2) := by decide +kernel
theorem dX3_extend_20 : decode cX3_extend 20 = .ok (.ifCond .eq 18, 3) := by decide +kernel
theorem dX3_extend_23 : decode cX3_extend 23 = .ok (.iload 4, 2) := by decide +kernel
theorem dX3_extend_25 : decode cX3_extend 25 = .ok (.bipush 33, 2) := by decide +kernel
theorem dX3_extend_27 : decode cX3_extend 27 = .ok (.bipush 126, 2) := by decide +kernel
theorem dX3_extend_29 : decode cX3_extend 29 = .ok (.invokestatic 27, 3) := by decide +kernel
theorem dX3_extend_32 : decode cX3_extend 32 = .ok (.ifCond .ne 6, 3) := by decide +kernel
theorem dX3_extend_35 : decode cX3_extend 35 = .ok (.bipush (-2), 2) := by decide +kernel
theorem dX3_extend_37 : decode cX3_extend 37 = .ok (.ireturn, 1) := by decide +kernel
theorem dX3_extend_38 : decode cX3_extend 38 = .ok (.iload_n 2, 1) := by decide +kernel
theorem dX3_extend_39 : decode cX3_extend 39 = .ok (.iload 4, 2) := by decide +kernel
theorem dX3_extend_41 : decode cX3_extend 41 = .ok (.ifCond .ne 7, 3) := by decide +kernel
theorem dX3_extend_44 : decode cX3_extend 44 = .ok (.iconst 0, 1) := by decide +kernel
theorem dX3_extend_45 : decode cX3_extend 45 = .ok (.goto 4, 3) := by decide +kernel
theorem dX3_extend_48 : decode cX3_extend 48 = .ok (.iconst 1, 1) := by decide +kernel
theorem dX3_extend_49 : decode cX3_extend 49 = .ok (.iadd, 1) := by decide +kernel
theorem dX3_extend_50 : decode cX3_extend 50 = .ok (.istore_n 2, 1) := by decide +kernel
theorem dX3_extend_51 : decode cX3_extend 51 = .ok (.iinc 3 (-8), 3) := by decide +kernel
theorem dX3_extend_54 : decode cX3_extend 54 = .ok (.goto (-49), 3) := by decide +kernel
theorem dX3_extend_57 : decode cX3_extend 57 = .ok (.aload_n 0, 1) := by decide +kernel
theorem dX3_extend_58 : decode cX3_extend 58 = .ok (.getfield 31, 3) := by decide +kernel
theorem dX3_extend_61 : decode cX3_extend 61 = .ok (.iload_n 2, 1) := by decide +kernel
theorem dX3_extend_62 : decode cX3_extend 62 = .ok (.iadd, 1) := by decide +kernel
theorem dX3_extend_63 : decode cX3_extend 63 = .ok (.bipush 60, 2) := by decide +kernel
theorem dX3_extend_65 : decode cX3_extend 65 = .ok (.if_icmp .le 6, 3) := by decide +kernel
theorem dX3_extend_68 : decode cX3_extend 68 = .ok (.bipush (-3), 2) := by decide +kernel
theorem dX3_extend_70 : decode cX3_extend 70 = .ok (.ireturn, 1) := by decide +kernel
theorem dX3_extend_71 : decode cX3_extend 71 = .ok (.bipush 24, 2) := by decide +kernel
theorem dX3_extend_73 : decode cX3_extend 73 = .ok (.istore_n 3, 1) := by decide +kernel
theorem dX3_extend_74 : decode cX3_extend 74 = .ok (.iload_n 3, 1) := by decide +kernel
theorem dX3_extend_75 : decode cX3_extend 75 = .ok (.ifCond .lt 45, 3) := by decide +kernel
theorem dX3_extend_78 : decode cX3_extend 78 = .ok (.iload_n 1, 1) := by decide +kernel
theorem dX3_extend_79 : decode cX3_extend 79 = .ok (.iload_n 3, 1) := by decide +kernel
theorem dX3_extend_80 : decode cX3_extend 80 = .ok (.iushr, 1) := by decide +kernel
theorem dX3_extend_81 : decode cX3_extend 81 = .ok (.sipush 255, 3) := by decide +kernel
theorem dX3_extend_84 : decode cX3_extend 84 = .ok (.iand, 1) := by decide +kernel
theorem dX3_extend_85 : decode cX3_extend 85 = .ok (.istore 4, 2) := by decide +kernel
theorem dX3_extend_87 : decode cX3_extend 87 = .ok (.iload 4, 2) := by decide +kernel
theorem dX3_extend_89 : decode cX3_extend 89 = .ok (.ifCond .eq 25, 3) := by decide +kernel
theorem dX3_extend_92 : decode cX3_extend 92 = .ok (.aload_n 0, 1) := by decide +kernel
theorem dX3_extend_93 : decode cX3_extend 93 = .ok (.getfield 11, 3) := by decide +kernel
theorem dX3_extend_96 : decode cX3_extend 96 = .ok (.aload_n 0, 1) := by decide +kernel
theorem dX3_extend_97 : decode cX3_extend 97 = .ok (.getfield 31, 3) := by decide +kernel
theorem dX3_extend_100 : decode cX3_extend 100 = .ok (.iload 4, 2) := by decide +kernel
theorem dX3_extend_102 : decode cX3_extend 102 = .ok (.i2c, 1) := by decide +kernel
theorem dX3_extend_103 : decode cX3_extend 103 = .ok (.castore, 1) := by decide +kernel
theorem dX3_extend_104 : decode cX3_extend 104 = .ok (.aload_n 0, 1) := by decide +kernel
theorem dX3_extend_105 : decode cX3_extend 105 = .ok (.dup, 1) := by decide +kernel
theorem dX3_extend_106 : decode cX3_extend 106 = .ok (.getfield 31, 3) := by decide +kernel
theorem dX3_extend_109 : decode cX3_extend 109 = .ok (.iconst 1, 1) := by decide +kernel
theorem dX3_extend_110 : decode cX3_extend 110 = .ok (.iadd, 1) := by decide +kernel
theorem dX3_extend_111 : decode cX3_extend 111 = .ok (.putfield 31, 3) := by decide +kernel
theorem dX3_extend_114 : decode cX3_extend 114 = .ok (.iinc 3 (-8), 3) := by decide +kernel
theorem dX3_extend_117 : decode cX3_extend 117 = .ok (.goto (-43), 3) := by decide +kernel
theorem dX3_extend_120 : decode cX3_extend 120 = .ok (.aload_n 0, 1) := by decide +kernel
theorem dX3_extend_121 : decode cX3_extend 121 = .ok (.getfield 31, 3) := by decide +kernel
theorem dX3_extend_124 : decode cX3_extend 124 = .ok (.ireturn, 1) := by decide +kernel
theorem dX3_clear_0 : decode cX3_clear 0 = .ok (.aload_n 0, 1) := by decide +kernel
theorem dX3_clear_1 : decode cX3_clear 1 = .ok (.iconst 0, 1) := by decide +kernel
theorem dX3_clear_2 : decode cX3_clear 2 = .ok (.putfield 31, 3) := by decide +kernel
theorem dX3_clear_5 : decode cX3_clear 5 = .ok (.return_, 1) := by decide +kernel
theorem dX3_scan_0 : decode cX3_scan 0 = .ok (.aload_n 0, 1) := by decide +kernel
theorem dX3_scan_1 : decode cX3_scan 1 = .ok (.iconst 0, 1) := by decide +kernel
theorem dX3_scan_2 : decode cX3_scan 2 = .ok (.putfield 35, 3) := by decide +kernel
theorem dX3_scan_5 : decode cX3_scan 5 = .ok (.iconst 0, 1) := by decide +kernel
theorem dX3_scan_6 : decode cX3_scan 6 = .ok (.istore_n 1, 1) := by decide +kernel
theorem dX3_scan_7 : decode cX3_scan 7 = .ok (.iload_n 1, 1) := by decide +kernel
theorem dX3_scan_8 : decode cX3_scan 8 = .ok (.bipush 20, 2) := by decide +kernel
theorem dX3_scan_10 : decode cX3_scan 10 = .ok (.if_icmp .ge 48, 3) := by decide +kernel
theorem dX3_scan_13 : decode cX3_scan 13 = .ok (.aload_n 0, 1) := by decide +kernel
theorem dX3_scan_14 : decode cX3_scan 14 = .ok (.iload_n 1, 1) := by decide +kernel
theorem dX3_scan_15 : decode cX3_scan 15 = .ok (.invokevirtual 38, 3) := by decide +kernel
theorem dX3_scan_18 : decode cX3_scan 18 = .ok (.ifCond .eq 40, 3) := by decide +kernel
theorem dX3_scan_21 : decode cX3_scan 21 = .ok (.aload_n 0, 1) := by decide +kernel
theorem dX3_scan_22 : decode cX3_scan 22 = .ok (.getfield 35, 3) := by decide +kernel
theorem dX3_scan_25 : decode cX3_scan 25 = .ok (.aload_n 0, 1) := by decide +kernel
theorem dX3_scan_26 : decode cX3_scan 26 = .ok (.getfield 31, 3) := by decide +kernel
theorem dX3_scan_29 : decode cX3_scan 29 = .ok (.if_icmp .ne 12, 3) := by decide +kernel
theorem dX3_scan_32 : decode cX3_scan 32 = .ok (.aload_n 0, 1) := by decide +kernel
theorem dX3_scan_33 : decode cX3_scan 33 = .ok (.iload_n 1, 1) := by decide +kernel
theorem dX3_scan_34 : decode cX3_scan 34 = .ok (.iconst 1, 1) := by decide +kernel
theorem dX3_scan_35 : decode cX3_scan 35 = .ok (.iadd, 1) := by decide +kernel
theorem dX3_scan_36 : decode cX3_scan 36 = .ok (.putfield 42, 3) := by decide +kernel
theorem dX3_scan_39 : decode cX3_scan 39 = .ok (.iconst 1, 1) := by decide +kernel
theorem dX3_scan_40 : decode cX3_scan 40 = .ok (.ireturn, 1) := by decide +kernel
theorem dX3_scan_41 : decode cX3_scan 41 = .ok (.aload_n 0, 1) := by decide +kernel
theorem dX3_scan_42 : decode cX3_scan 42 = .ok (.bipush 59, 2) := by decide +kernel
theorem dX3_scan_44 : decode cX3_scan 44 = .ok (.invokevirtual 45, 3) := by decide +kernel
theorem dX3_scan_47 : decode cX3_scan 47 = .ok (.ifCond .ne 5, 3) := by decide +kernel
theorem dX3_scan_50 : decode cX3_scan 50 = .ok (.iconst 0, 1) := by decide +kernel
theorem dX3_scan_51 : decode cX3_scan 51 = .ok (.ireturn, 1) := by decide +kernel
theorem dX3_scan_52 : decode cX3_scan 52 = .ok (.iinc 1 1, 3) := by decide +kernel
theorem dX3_scan_55 : decode cX3_scan 55 = .ok (.goto (-48), 3) := by decide +kernel
theorem dX3_scan_58 : decode cX3_scan 58 = .ok (.iconst 0, 1) := by decide +kernel
theorem dX3_scan_59 : decode cX3_scan 59 = .ok (.ireturn, 1) := by decide +kernel
theorem dX3_scanEntry_0 : decode cX3_scanEntry 0 = .ok (.aload_n 0, 1) := by decide +kernel
theorem dX3_scanEntry_1 : decode cX3_scanEntry 1 = .ok (.getfield 24, 3) := by decide +kernel
theorem dX3_scanEntry_4 : decode cX3_scanEntry 4 = .ok (.iload_n 1, 1) := by decide +kernel
theorem dX3_scanEntry_5 : decode cX3_scanEntry 5 = .ok (.aaload, 1) := by decide +kernel
theorem dX3_scanEntry_6 : decode cX3_scanEntry 6 = .ok (.astore_n 2, 1) := by decide +kernel
theorem dX3_scanEntry_7 : decode cX3_scanEntry 7 = .ok (.aload_n 0, 1) := by decide +kernel
theorem dX3_scanEntry_8 : decode cX3_scanEntry 8 = .ok (.getfield 18, 3) := by decide +kernel
theorem dX3_scanEntry_11 : decode cX3_scanEntry 11 = .ok (.iload_n 1, 1) := by decide +kernel
theorem dX3_scanEntry_12 : decode cX3_scanEntry 12 = .ok (.aload_n 0, 1) := by decide +kernel
theorem dX3_scanEntry_13 : decode cX3_scanEntry 13 = .ok (.getfield 35, 3) := by decide +kernel
theorem dX3_scanEntry_16 : decode cX3_scanEntry 16 = .ok (.iastore, 1) := by decide +kernel
theorem dX3_scanEntry_17 : decode cX3_scanEntry 17 = .ok (.aload_n 0, 1) := by decide +kernel
theorem dX3_scanEntry_18 : decode cX3_scanEntry 18 = .ok (.bipush 101, 2) := by decide +kernel
theorem dX3_scanEntry_20 : decode cX3_scanEntry 20 = .ok (.invokevirtual 45, 3) := by decide +kernel
theorem dX3_scanEntry_23 : decode cX3_scanEntry 23 = .ok (.ifCond .eq 18, 3) := by decide +kernel
theorem dX3_scanEntry_26 : decode cX3_scanEntry 26 = .ok (.aload_n 0, 1) := by decide +kernel
theorem dX3_scanEntry_27 : decode cX3_scanEntry 27 = .ok (.getfield 15, 3) := by decide +kernel
theorem dX3_scanEntry_30 : decode cX3_scanEntry 30 = .ok (.iload_n 1, 1) := by decide +kernel
theorem dX3_scanEntry_31 : decode cX3_scanEntry 31 = .ok (.bipush 101, 2) := by decide +kernel
theorem dX3_scanEntry_33 : decode cX3_scanEntry 33 = .ok (.castore, 1) := by decide +kernel
theorem dX3_scanEntry_34 : decode cX3_scanEntry 34 = .ok (.aload_n 0, 1) := by decide +kernel
theorem dX3_scanEntry_35 : decode cX3_scanEntry 35 = .ok (.aload_n 2, 1) := by decide +kernel
theorem dX3_scanEntry_36 : decode cX3_scanEntry 36 = .ok (.iconst 0, 1) := by decide +kernel
theorem dX3_scanEntry_37 : decode cX3_scanEntry 37 = .ok (.invokevirtual 49, 3) := by decide +kernel
theorem dX3_scanEntry_40 : decode cX3_scanEntry 40 = .ok (.ireturn, 1) := by decide +kernel
theorem dX3_scanEntry_41 : decode cX3_scanEntry 41 = .ok (.aload_n 0, 1) := by decide +kernel
theorem dX3_scanEntry_42 : decode cX3_scanEntry 42 = .ok (.bipush 99, 2) := by decide +kernel
theorem dX3_scanEntry_44 : decode cX3_scanEntry 44 = .ok (.invokevirtual 45, 3) := by decide +kernel
theorem dX3_scanEntry_47 : decode cX3_scanEntry 47 = .ok (.ifCond .eq 62, 3) := by decide +kernel
theorem dX3_scanEntry_50 : decode cX3_scanEntry 50 = .ok (.aload_n 0, 1) := by decide +kernel
theorem dX3_scanEntry_51 : decode cX3_scanEntry 51 = .ok (.getfield 15, 3) := by decide +kernel
theorem dX3_scanEntry_54 : decode cX3_scanEntry 54 = .ok (.iload_n 1, 1) := by decide +kernel
theorem dX3_scanEntry_55 : decode cX3_scanEntry 55 = .ok (.bipush 99, 2) := by decide +kernel
theorem dX3_scanEntry_57 : decode cX3_scanEntry 57 = .ok (.castore, 1) := by decide +kernel
theorem dX3_scanEntry_58 : decode cX3_scanEntry 58 = .ok (.aload_n 0, 1) := by decide +kernel
theorem dX3_scanEntry_59 : decode cX3_scanEntry 59 = .ok (.aload_n 2, 1) := by decide +kernel
theorem dX3_scanEntry_60 : decode cX3_scanEntry 60 = .ok (.iconst 0, 1) := by decide +kernel
theorem dX3_scanEntry_61 : decode cX3_scanEntry 61 = .ok (.invokevirtual 49, 3) := by decide +kernel
theorem dX3_scanEntry_64 : decode cX3_scanEntry 64 = .ok (.ifCond .eq 43, 3) := by decide +kernel
theorem dX3_scanEntry_67 : decode cX3_scanEntry 67 = .ok (.aload_n 0, 1) := by decide +kernel
theorem dX3_scanEntry_68 : decode cX3_scanEntry 68 = .ok (.bipush 44, 2) := by decide +kernel
theorem dX3_scanEntry_70 : decode cX3_scanEntry 70 = .ok (.invokevirtual 45, 3) := by decide +kernel
theorem dX3_scanEntry_73 : decode cX3_scanEntry 73 = .ok (.ifCond .eq 34, 3) := by decide +kernel
theorem dX3_scanEntry_76 : decode cX3_scanEntry 76 = .ok (.aload_n 0, 1) := by decide +kernel
theorem dX3_scanEntry_77 : decode cX3_scanEntry 77 = .ok (.aload_n 2, 1) := by decide +kernel
theorem dX3_scanEntry_78 : decode cX3_scanEntry 78 = .ok (.iconst 1, 1) := by decide +kernel
theorem dX3_scanEntry_79 : decode cX3_scanEntry 79 = .ok (.invokevirtual 49, 3) := by decide +kernel
theorem dX3_scanEntry_82 : decode cX3_scanEntry 82 = .ok (.ifCond .eq 25, 3) := by decide +kernel
theorem dX3_scanEntry_85 : decode cX3_scanEntry 85 = .ok (.aload_n 0, 1) := by decide +kernel
theorem dX3_scanEntry_86 : decode cX3_scanEntry 86 = .ok (.bipush 44, 2) := by decide +kernel
theorem dX3_scanEntry_88 : decode cX3_scanEntry 88 = .ok (.invokevirtual 45, 3) := by decide +kernel
theorem dX3_scanEntry_91 : decode cX3_scanEntry 91 = .ok (.ifCond .eq 16, 3) := by decide +kernel
theorem dX3_scanEntry_94 : decode cX3_scanEntry 94 = .ok (.aload_n 0, 1) := by decide +kernel
theorem dX3_scanEntry_95 : decode cX3_scanEntry 95 = .ok (.aload_n 2, 1) := by decide +kernel
theorem dX3_scanEntry_96 : decode cX3_scanEntry 96 = .ok (.iconst 2, 1) := by decide +kernel
theorem dX3_scanEntry_97 : decode cX3_scanEntry 97 = .ok (.invokevirtual 49, 3) := by decide +kernel
theorem dX3_scanEntry_100 : decode cX3_scanEntry 100 = .ok (.ifCond .eq 7, 3) := by decide +kernel
theorem dX3_scanEntry_103 : decode cX3_scanEntry 103 = .ok (.iconst 1, 1) := by decide +kernel
theorem dX3_scanEntry_104 : decode cX3_scanEntry 104 = .ok (.goto 4, 3) := by decide +kernel
theorem dX3_scanEntry_107 : decode cX3_scanEntry 107 = .ok (.iconst 0, 1) := by decide +kernel
theorem dX3_scanEntry_108 : decode cX3_scanEntry 108 = .ok (.ireturn, 1) := by decide +kernel
theorem dX3_scanEntry_109 : decode cX3_scanEntry 109 = .ok (.aload_n 0, 1) := by decide +kernel
theorem dX3_scanEntry_110 : decode cX3_scanEntry 110 = .ok (.bipush 114, 2) := by decide +kernel
theorem dX3_scanEntry_112 : decode cX3_scanEntry 112 = .ok (.invokevirtual 45, 3) := by decide +kernel
theorem dX3_scanEntry_115 : decode cX3_scanEntry 115 = .ok (.ifCond .eq 44, 3) := by decide +kernel
theorem dX3_scanEntry_118 : decode cX3_scanEntry 118 = .ok (.aload_n 0, 1) := by decide +kernel
theorem dX3_scanEntry_119 : decode cX3_scanEntry 119 = .ok (.getfield 15, 3) := by decide +kernel
theorem dX3_scanEntry_122 : decode cX3_scanEntry 122 = .ok (.iload_n 1, 1) := by decide +kernel
theorem dX3_scanEntry_123 : decode cX3_scanEntry 123 = .ok (.bipush 114, 2) := by decide +kernel
theorem dX3_scanEntry_125 : decode cX3_scanEntry 125 = .ok (.castore, 1) := by decide +kernel
theorem dX3_scanEntry_126 : decode cX3_scanEntry 126 = .ok (.aload_n 0, 1) := by decide +kernel
theorem dX3_scanEntry_127 : decode cX3_scanEntry 127 = .ok (.aload_n 2, 1) := by decide +kernel
theorem dX3_scanEntry_128 : decode cX3_scanEntry 128 = .ok (.iconst 0, 1) := by decide +kernel
theorem dX3_scanEntry_129 : decode cX3_scanEntry 129 = .ok (.invokevirtual 49, 3) := by decide +kernel
theorem dX3_scanEntry_132 : decode cX3_scanEntry 132 = .ok (.ifCond .eq 25, 3) := by decide +kernel
theorem dX3_scanEntry_135 : decode cX3_scanEntry 135 = .ok (.aload_n 0, 1) := by decide +kernel
theorem dX3_scanEntry_136 : decode cX3_scanEntry 136 = .ok (.bipush 61, 2) := by decide +kernel
theorem dX3_scanEntry_138 : decode cX3_scanEntry 138 = .ok (.invokevirtual 45, 3) := by decide +kernel
theorem dX3_scanEntry_141 : decode cX3_scanEntry 141 = .ok (.ifCond .eq 16, 3) := by decide +kernel
theorem dX3_scanEntry_144 : decode cX3_scanEntry 144 = .ok (.aload_n 0, 1) := by decide +kernel
theorem dX3_scanEntry_145 : decode cX3_scanEntry 145 = .ok (.aload_n 2, 1) := by decide +kernel
theorem dX3_scanEntry_146 : decode cX3_scanEntry 146 = .ok (.iconst 1, 1) := by decide +kernel
theorem dX3_scanEntry_147 : decode cX3_scanEntry 147 = .ok (.invokevirtual 49, 3) := by decide +kernel
theorem dX3_scanEntry_150 : decode cX3_scanEntry 150 = .ok (.ifCond .eq 7, 3) := by decide +kernel
theorem dX3_scanEntry_153 : decode cX3_scanEntry 153 = .ok (.iconst 1, 1) := by decide +kernel
theorem dX3_scanEntry_154 : decode cX3_scanEntry 154 = .ok (.goto 4, 3) := by decide +kernel
theorem dX3_scanEntry_157 : decode cX3_scanEntry 157 = .ok (.iconst 0, 1) := by decide +kernel
theorem dX3_scanEntry_158 : decode cX3_scanEntry 158 = .ok (.ireturn, 1) := by decide +kernel
theorem dX3_scanEntry_159 : decode cX3_scanEntry 159 = .ok (.iconst 0, 1) := by decide +kernel
theorem dX3_scanEntry_160 : decode cX3_scanEntry 160 = .ok (.ireturn, 1) := by decide +kernel
theorem dX3_skipSign_0 : decode cX3_skipSign 0 = .ok (.aload_n 0, 1) := by decide +kernel
theorem dX3_skipSign_1 : decode cX3_skipSign 1 = .ok (.getfield 35, 3) := by decide +kernel
theorem dX3_skipSign_4 : decode cX3_skipSign 4 = .ok (.aload_n 0, 1) := by decide +kernel
theorem dX3_skipSign_5 : decode cX3_skipSign 5 = .ok (.getfield 31, 3) := by decide +kernel
theorem dX3_skipSign_8 : decode cX3_skipSign 8 = .ok (.if_icmp .ge 16, 3) := by decide +kernel
theorem dX3_skipSign_11 : decode cX3_skipSign 11 = .ok (.aload_n 0, 1) := by decide +kernel
theorem dX3_skipSign_12 : decode cX3_skipSign 12 = .ok (.getfield 11, 3) := by decide +kernel
theorem dX3_skipSign_15 : decode cX3_skipSign 15 = .ok (.aload_n 0, 1) := by decide +kernel
theorem dX3_skipSign_16 : decode cX3_skipSign 16 = .ok (.getfield 35, 3) := by decide +kernel
theorem dX3_skipSign_19 : decode cX3_skipSign 19 = .ok (.caload, 1) := by decide +kernel
theorem dX3_skipSign_20 : decode cX3_skipSign 20 = .ok (.iload_n 1, 1) := by decide +kernel
theorem dX3_skipSign_21 : decode cX3_skipSign 21 = .ok (.if_icmp .eq 5, 3) := by decide +kernel
theorem dX3_skipSign_24 : decode cX3_skipSign 24 = .ok (.iconst 0, 1) := by decide +kernel
theorem dX3_skipSign_25 : decode cX3_skipSign 25 = .ok (.ireturn, 1) := by decide +kernel
theorem dX3_skipSign_26 : decode cX3_skipSign 26 = .ok (.aload_n 0, 1) := by decide +kernel
theorem dX3_skipSign_27 : decode cX3_skipSign 27 = .ok (.dup, 1) := by decide +kernel
theorem dX3_skipSign_28 : decode cX3_skipSign 28 = .ok (.getfield 35, 3) := by decide +kernel
theorem dX3_skipSign_31 : decode cX3_skipSign 31 = .ok (.iconst 1, 1) := by decide +kernel
theorem dX3_skipSign_32 : decode cX3_skipSign 32 = .ok (.iadd, 1) := by decide +kernel
theorem dX3_skipSign_33 : decode cX3_skipSign 33 = .ok (.putfield 35, 3) := by decide +kernel
theorem dX3_skipSign_36 : decode cX3_skipSign 36 = .ok (.iconst 1, 1) := by decide +kernel
theorem dX3_skipSign_37 : decode cX3_skipSign 37 = .ok (.ireturn, 1) := by decide +kernel
theorem dX3_scanNumber_0 : decode cX3_scanNumber 0 = .ok (.iconst 0, 1) := by decide +kernel
theorem dX3_scanNumber_1 : decode cX3_scanNumber 1 = .ok (.istore_n 3, 1) := by decide +kernel
theorem dX3_scanNumber_2 : decode cX3_scanNumber 2 = .ok (.iconst 0, 1) := by decide +kernel
theorem dX3_scanNumber_3 : decode cX3_scanNumber 3 = .ok (.istore 4, 2) := by decide +kernel
theorem dX3_scanNumber_5 : decode cX3_scanNumber 5 = .ok (.iload 4, 2) := by decide +kernel
theorem dX3_scanNumber_7 : decode cX3_scanNumber 7 = .ok (.bipush 6, 2) := by decide +kernel
theorem dX3_scanNumber_9 : decode cX3_scanNumber 9 = .ok (.if_icmp .ge 67, 3) := by decide +kernel
theorem dX3_scanNumber_12 : decode cX3_scanNumber 12 = .ok (.aload_n 0, 1) := by decide +kernel
theorem dX3_scanNumber_13 : decode cX3_scanNumber 13 = .ok (.getfield 35, 3) := by decide +kernel
theorem dX3_scanNumber_16 : decode cX3_scanNumber 16 = .ok (.aload_n 0, 1) := by decide +kernel
theorem dX3_scanNumber_17 : decode cX3_scanNumber 17 = .ok (.getfield 31, 3) := by decide +kernel
theorem dX3_scanNumber_20 : decode cX3_scanNumber 20 = .ok (.if_icmp .ge 56, 3) := by decide +kernel
theorem dX3_scanNumber_23 : decode cX3_scanNumber 23 = .ok (.aload_n 0, 1) := by decide +kernel
theorem dX3_scanNumber_24 : decode cX3_scanNumber 24 = .ok (.getfield 11, 3) := by decide +kernel
theorem dX3_scanNumber_27 : decode cX3_scanNumber 27 = .ok (.aload_n 0, 1) := by decide +kernel
theorem dX3_scanNumber_28 : decode cX3_scanNumber 28 = .ok (.getfield 35, 3) := by decide +kernel
theorem dX3_scanNumber_31 : decode cX3_scanNumber 31 = .ok (.caload, 1) := by decide +kernel
theorem dX3_scanNumber_32 : decode cX3_scanNumber 32 = .ok (.bipush 48, 2) := by decide +kernel
theorem dX3_scanNumber_34 : decode cX3_scanNumber 34 = .ok (.bipush 57, 2) := by decide +kernel
theorem dX3_scanNumber_36 : decode cX3_scanNumber 36 = .ok (.invokestatic 27, 3) := by decide +kernel
theorem dX3_scanNumber_39 : decode cX3_scanNumber 39 = .ok (.ifCond .eq 37, 3) := by decide +kernel
theorem dX3_scanNumber_42 : decode cX3_scanNumber 42 = .ok (.iload_n 3, 1) := by decide +kernel
theorem dX3_scanNumber_43 : decode cX3_scanNumber 43 = .ok (.bipush 10, 2) := by decide +kernel
theorem dX3_scanNumber_45 : decode cX3_scanNumber 45 = .ok (.imul, 1) := by decide +kernel
theorem dX3_scanNumber_46 : decode cX3_scanNumber 46 = .ok (.aload_n 0, 1) := by decide +kernel
theorem dX3_scanNumber_47 : decode cX3_scanNumber 47 = .ok (.getfield 11, 3) := by decide +kernel
theorem dX3_scanNumber_50 : decode cX3_scanNumber 50 = .ok (.aload_n 0, 1) := by decide +kernel
theorem dX3_scanNumber_51 : decode cX3_scanNumber 51 = .ok (.getfield 35, 3) := by decide +kernel
theorem dX3_scanNumber_54 : decode cX3_scanNumber 54 = .ok (.caload, 1) := by decide +kernel
theorem dX3_scanNumber_55 : decode cX3_scanNumber 55 = .ok (.iadd, 1) := by decide +kernel
theorem dX3_scanNumber_56 : decode cX3_scanNumber 56 = .ok (.bipush 48, 2) := by decide +kernel
theorem dX3_scanNumber_58 : decode cX3_scanNumber 58 = .ok (.isub, 1) := by decide +kernel
theorem dX3_scanNumber_59 : decode cX3_scanNumber 59 = .ok (.istore_n 3, 1) := by decide +kernel
theorem dX3_scanNumber_60 : decode cX3_scanNumber 60 = .ok (.iinc 4 1, 3) := by decide +kernel
theorem dX3_scanNumber_63 : decode cX3_scanNumber 63 = .ok (.aload_n 0, 1) := by decide +kernel
theorem dX3_scanNumber_64 : decode cX3_scanNumber 64 = .ok (.dup, 1) := by decide +kernel
theorem dX3_scanNumber_65 : decode cX3_scanNumber 65 = .ok (.getfield 35, 3) := by decide +kernel
theorem dX3_scanNumber_68 : decode cX3_scanNumber 68 = .ok (.iconst 1, 1) := by decide +kernel
theorem dX3_scanNumber_69 : decode cX3_scanNumber 69 = .ok (.iadd, 1) := by decide +kernel
theorem dX3_scanNumber_70 : decode cX3_scanNumber 70 = .ok (.putfield 35, 3) := by decide +kernel
theorem dX3_scanNumber_73 : decode cX3_scanNumber 73 = .ok (.goto (-68), 3) := by decide +kernel
theorem dX3_scanNumber_76 : decode cX3_scanNumber 76 = .ok (.aload_n 1, 1) := by decide +kernel
theorem dX3_scanNumber_77 : decode cX3_scanNumber 77 = .ok (.iload_n 2, 1) := by decide +kernel
theorem dX3_scanNumber_78 : decode cX3_scanNumber 78 = .ok (.iload_n 3, 1) := by decide +kernel
theorem dX3_scanNumber_79 : decode cX3_scanNumber 79 = .ok (.iastore, 1) := by decide +kernel
theorem dX3_scanNumber_80 : decode cX3_scanNumber 80 = .ok (.iload 4, 2) := by decide +kernel
theorem dX3_scanNumber_82 : decode cX3_scanNumber 82 = .ok (.ifCond .le 7, 3) := by decide +kernel
theorem dX3_scanNumber_85 : decode cX3_scanNumber 85 = .ok (.iconst 1, 1) := by decide +kernel
theorem dX3_scanNumber_86 : decode cX3_scanNumber 86 = .ok (.goto 4, 3) := by decide +kernel
theorem dX3_scanNumber_89 : decode cX3_scanNumber 89 = .ok (.iconst 0, 1) := by decide +kernel
theorem dX3_scanNumber_90 : decode cX3_scanNumber 90 = .ok (.ireturn, 1) := by decide +kernel
theorem dX4_init_0 : decode cX4_init 0 = .ok (.aload_n 0, 1) := by decide +kernel
theorem dX4_init_1 : decode cX4_init 1 = .ok (.invokespecial 3, 3) := by decide +kernel
theorem dX4_init_4 : decode cX4_init 4 = .ok (.aload_n 0, 1) := by decide +kernel
theorem dX4_init_5 : decode cX4_init 5 = .ok (.bipush 12, 2) := by decide +kernel
theorem dX4_init_7 : decode cX4_init 7 = .ok (.newarray .int, 2) := by decide +kernel
theorem dX4_init_9 : decode cX4_init 9 = .ok (.putfield 11, 3) := by decide +kernel
theorem dX4_init_12 : decode cX4_init 12 = .ok (.aload_n 0, 1) := by decide +kernel
theorem dX4_init_13 : decode cX4_init 13 = .ok (.bipush 12, 2) := by decide +kernel
theorem dX4_init_15 : decode cX4_init 15 = .ok (.iconst 4, 1) := by decide +kernel
theorem dX4_init_16 : decode cX4_init 16 = .ok (.multianewarray 15 2, 4) := by decide +kernel
theorem dX4_init_20 : decode cX4_init 20 = .ok (.putfield 17, 3) := by decide +kernel
theorem dX4_init_23 : decode cX4_init 23 = .ok (.iconst 0, 1) := by decide +kernel
theorem dX4_init_24 : decode cX4_init 24 = .ok (.istore_n 1, 1) := by decide +kernel
theorem dX4_init_25 : decode cX4_init 25 = .ok (.iload_n 1, 1) := by decide +kernel
theorem dX4_init_26 : decode cX4_init 26 = .ok (.bipush 12, 2) := by decide +kernel
theorem dX4_init_28 : decode cX4_init 28 = .ok (.if_icmp .ge 17, 3) := by decide +kernel
theorem dX4_init_31 : decode cX4_init 31 = .ok (.aload_n 0, 1) := by decide +kernel
theorem dX4_init_32 : decode cX4_init 32 = .ok (.getfield 11, 3) := by decide +kernel
theorem dX4_init_35 : decode cX4_init 35 = .ok (.iload_n 1, 1) := by decide +kernel
theorem dX4_init_36 : decode cX4_init 36 = .ok (.bipush (-4), 2) := by decide +kernel
theorem dX4_init_38 : decode cX4_init 38 = .ok (.iastore, 1) := by decide +kernel
theorem dX4_init_39 : decode cX4_init 39 = .ok (.iinc 1 1, 3) := by decide +kernel
theorem dX4_init_42 : decode cX4_init 42 = .ok (.goto (-17), 3) := by decide +kernel
theorem dX4_init_45 : decode cX4_init 45 = .ok (.return_, 1) := by decide +kernel
theorem dX4_hasPlace_0 : decode cX4_hasPlace 0 = .ok (.iload_n 1, 1) := by decide +kernel
theorem dX4_hasPlace_1 : decode cX4_hasPlace 1 = .ok (.iconst 0, 1) := by decide +kernel
theorem dX4_hasPlace_2 : decode cX4_hasPlace 2 = .ok (.iconst 2, 1) := by decide +kernel
theorem dX4_hasPlace_3 : decode cX4_hasPlace 3 = .ok (.invokestatic 20, 3) := by decide +kernel
theorem dX4_hasPlace_6 : decode cX4_hasPlace 6 = .ok (.ifCond .eq 16, 3) := by decide +kernel
theorem dX4_hasPlace_9 : decode cX4_hasPlace 9 = .ok (.iload_n 2, 1) := by decide +kernel
theorem dX4_hasPlace_10 : decode cX4_hasPlace 10 = .ok (.iconst 0, 1) := by decide +kernel
theorem dX4_hasPlace_11 : decode cX4_hasPlace 11 = .ok (.iconst 3, 1) := by decide +kernel
theorem dX4_hasPlace_12 : decode cX4_hasPlace 12 = .ok (.invokestatic 20, 3) := by decide +kernel
theorem dX4_hasPlace_15 : decode cX4_hasPlace 15 = .ok (.ifCond .eq 7, 3) := by decide +kernel
theorem dX4_hasPlace_18 : decode cX4_hasPlace 18 = .ok (.iconst 1, 1) := by decide +kernel
theorem dX4_hasPlace_19 : decode cX4_hasPlace 19 = .ok (.goto 4, 3) := by decide +kernel
theorem dX4_hasPlace_22 : decode cX4_hasPlace 22 = .ok (.iconst 0, 1) := by decide +kernel
theorem dX4_hasPlace_23 : decode cX4_hasPlace 23 = .ok (.ireturn, 1) := by decide +kernel
theorem dX4_takesKind_0 : decode cX4_takesKind 0 = .ok (.iload_n 1, 1) := by decide +kernel
theorem dX4_takesKind_1 : decode cX4_takesKind 1 = .ok (.iconst 2, 1) := by decide +kernel
theorem dX4_takesKind_2 : decode cX4_takesKind 2 = .ok (.if_icmp .eq 8, 3) := by decide +kernel
theorem dX4_takesKind_5 : decode cX4_takesKind 5 = .ok (.iload_n 1, 1) := by decide +kernel
theorem dX4_takesKind_6 : decode cX4_takesKind 6 = .ok (.iload_n 2, 1) := by decide +kernel
theorem dX4_takesKind_7 : decode cX4_takesKind 7 = .ok (.if_icmp .ne 7, 3) := by decide +kernel
theorem dX4_takesKind_10 : decode cX4_takesKind 10 = .ok (.iconst 1, 1) := by decide +kernel
theorem dX4_takesKind_11 : decode cX4_takesKind 11 = .ok (.goto 4, 3) := by decide +kernel
theorem dX4_takesKind_14 : decode cX4_takesKind 14 = .ok (.iconst 0, 1) := by decide +kernel
theorem dX4_takesKind_15 : decode cX4_takesKind 15 = .ok (.ireturn, 1) := by decide +kernel
theorem dX4_fill_0 : decode cX4_fill 0 = .ok (.aload_n 0, 1) := by decide +kernel
theorem dX4_fill_1 : decode cX4_fill 1 = .ok (.getfield 11, 3) := by decide +kernel
theorem dX4_fill_4 : decode cX4_fill 4 = .ok (.iload_n 1, 1) := by decide +kernel
theorem dX4_fill_5 : decode cX4_fill 5 = .ok (.iconst 4, 1) := by decide +kernel
theorem dX4_fill_6 : decode cX4_fill 6 = .ok (.imul, 1) := by decide +kernel
theorem dX4_fill_7 : decode cX4_fill 7 = .ok (.iload_n 2, 1) := by decide +kernel
theorem dX4_fill_8 : decode cX4_fill 8 = .ok (.iadd, 1) := by decide +kernel
theorem dX4_fill_9 : decode cX4_fill 9 = .ok (.iload_n 3, 1) := by decide +kernel
theorem dX4_fill_10 : decode cX4_fill 10 = .ok (.iastore, 1) := by decide +kernel
theorem dX4_fill_11 : decode cX4_fill 11 = .ok (.aload_n 0, 1) := by decide +kernel
theorem dX4_fill_12 : decode cX4_fill 12 = .ok (.iload_n 1, 1) := by decide +kernel
theorem dX4_fill_13 : decode cX4_fill 13 = .ok (.iload_n 2, 1) := by decide +kernel
theorem dX4_fill_14 : decode cX4_fill 14 = .ok (.invokevirtual 24, 3) := by decide +kernel
theorem dX4_fill_17 : decode cX4_fill 17 = .ok (.areturn, 1) := by decide +kernel
theorem dX4_rowAt_0 : decode cX4_rowAt 0 = .ok (.aload_n 0, 1) := by decide +kernel
theorem dX4_rowAt_1 : decode cX4_rowAt 1 = .ok (.getfield 17, 3) := by decide +kernel
theorem dX4_rowAt_4 : decode cX4_rowAt 4 = .ok (.iload_n 1, 1) := by decide +kernel
theorem dX4_rowAt_5 : decode cX4_rowAt 5 = .ok (.iconst 4, 1) := by decide +kernel
theorem dX4_rowAt_6 : decode cX4_rowAt 6 = .ok (.imul, 1) := by decide +kernel
theorem dX4_rowAt_7 : decode cX4_rowAt 7 = .ok (.iload_n 2, 1) := by decide +kernel
theorem dX4_rowAt_8 : decode cX4_rowAt 8 = .ok (.iadd, 1) := by decide +kernel
theorem dX4_rowAt_9 : decode cX4_rowAt 9 = .ok (.aaload, 1) := by decide +kernel
theorem dX4_rowAt_10 : decode cX4_rowAt 10 = .ok (.areturn, 1) := by decide +kernel
theorem dX4_kindAt_0 : decode cX4_kindAt 0 = .ok (.aload_n 0, 1) := by decide +kernel
theorem dX4_kindAt_1 : decode cX4_kindAt 1 = .ok (.getfield 11, 3) := by decide +kernel
theorem dX4_kindAt_4 : decode cX4_kindAt 4 = .ok (.iload_n 1, 1) := by decide +kernel
theorem dX4_kindAt_5 : decode cX4_kindAt 5 = .ok (.iconst 4, 1) := by decide +kernel
theorem dX4_kindAt_6 : decode cX4_kindAt 6 = .ok (.imul, 1) := by decide +kernel
theorem dX4_kindAt_7 : decode cX4_kindAt 7 = .ok (.iload_n 2, 1) := by decide +kernel
theorem dX4_kindAt_8 : decode cX4_kindAt 8 = .ok (.iadd, 1) := by decide +kernel
theorem dX4_kindAt_9 : decode cX4_kindAt 9 = .ok (.iaload, 1) := by decide +kernel
theorem dX4_kindAt_10 : decode cX4_kindAt 10 = .ok (.ireturn, 1) := by decide +kernel
theorem dX4_filledPlaces_0 : decode cX4_filledPlaces 0 = .ok (.iconst 0, 1) := by decide +kernel
theorem dX4_filledPlaces_1 : decode cX4_filledPlaces 1 = .ok (.istore_n 2, 1) := by decide +kernel
theorem dX4_filledPlaces_2 : decode cX4_filledPlaces 2 = .ok (.iconst 0, 1) := by decide +kernel
theorem dX4_filledPlaces_3 : decode cX4_filledPlaces 3 = .ok (.istore_n 3, 1) := by decide +kernel
theorem dX4_filledPlaces_4 : decode cX4_filledPlaces 4 = .ok (.iload_n 3, 1) := by decide +kernel
theorem dX4_filledPlaces_5 : decode cX4_filledPlaces 5 = .ok (.iconst 4, 1) := by decide +kernel
theorem dX4_filledPlaces_6 : decode cX4_filledPlaces 6 = .ok (.if_icmp .ge 23, 3) := by decide +kernel
theorem dX4_filledPlaces_9 : decode cX4_filledPlaces 9 = .ok (.aload_n 0, 1) := by decide +kernel
theorem dX4_filledPlaces_10 : decode cX4_filledPlaces 10 = .ok (.iload_n 1, 1) := by decide +kernel
theorem dX4_filledPlaces_11 : decode cX4_filledPlaces 11 = .ok (.iload_n 3, 1) := by decide +kernel
theorem dX4_filledPlaces_12 : decode cX4_filledPlaces 12 = .ok (.invokevirtual 28, 3) := by decide +kernel
theorem dX4_filledPlaces_15 : decode cX4_filledPlaces 15 = .ok (.bipush (-4), 2) := by decide +kernel
theorem dX4_filledPlaces_17 : decode cX4_filledPlaces 17 = .ok (.if_icmp .eq 6, 3) := by decide +kernel
theorem dX4_filledPlaces_20 : decode cX4_filledPlaces 20 = .ok (.iinc 2 1, 3) := by decide +kernel
theorem dX4_filledPlaces_23 : decode cX4_filledPlaces 23 = .ok (.iinc 3 1, 3) := by decide +kernel
theorem dX4_filledPlaces_26 : decode cX4_filledPlaces 26 = .ok (.goto (-22), 3) := by decide +kernel
theorem dX4_filledPlaces_29 : decode cX4_filledPlaces 29 = .ok (.iload_n 2, 1) := by decide +kernel
theorem dX4_filledPlaces_30 : decode cX4_filledPlaces 30 = .ok (.ireturn, 1) := by decide +kernel
theorem dX5_init_0 : decode cX5_init 0 = .ok (.aload_n 0, 1) := by decide +kernel
theorem dX5_init_1 : decode cX5_init 1 = .ok (.invokespecial 3, 3) := by decide +kernel
theorem dX5_init_4 : decode cX5_init 4 = .ok (.aload_n 0, 1) := by decide +kernel
theorem dX5_init_5 : decode cX5_init 5 = .ok (.new 9, 3) := by decide +kernel
theorem dX5_init_8 : decode cX5_init 8 = .ok (.dup, 1) := by decide +kernel
theorem dX5_init_9 : decode cX5_init 9 = .ok (.invokespecial 11, 3) := by decide +kernel
theorem dX5_init_12 : decode cX5_init 12 = .ok (.putfield 12, 3) := by decide +kernel
theorem dX5_init_15 : decode cX5_init 15 = .ok (.aload_n 0, 1) := by decide +kernel
theorem dX5_init_16 : decode cX5_init 16 = .ok (.bipush 8, 2) := by decide +kernel
theorem dX5_init_18 : decode cX5_init 18 = .ok (.newarray .int, 2) := by decide +kernel
theorem dX5_init_20 : decode cX5_init 20 = .ok (.putfield 18, 3) := by decide +kernel
theorem dX5_init_23 : decode cX5_init 23 = .ok (.aload_n 0, 1) := by decide +kernel
theorem dX5_init_24 : decode cX5_init 24 = .ok (.bipush 8, 2) := by decide +kernel
theorem dX5_init_26 : decode cX5_init 26 = .ok (.newarray .int, 2) := by decide +kernel
theorem dX5_init_28 : decode cX5_init 28 = .ok (.putfield 22, 3) := by decide +kernel
theorem dX5_init_31 : decode cX5_init 31 = .ok (.aload_n 0, 1) := by decide +kernel
theorem dX5_init_32 : decode cX5_init 32 = .ok (.bipush 24, 2) := by decide +kernel
theorem dX5_init_34 : decode cX5_init 34 = .ok (.newarray .int, 2) := by decide +kernel
theorem dX5_init_36 : decode cX5_init 36 = .ok (.putfield 25, 3) := by decide +kernel
theorem dX5_init_39 : decode cX5_init 39 = .ok (.aload_n 0, 1) := by decide +kernel
theorem dX5_init_40 : decode cX5_init 40 = .ok (.bipush 8, 2) := by decide +kernel
theorem dX5_init_42 : decode cX5_init 42 = .ok (.bipush 6, 2) := by decide +kernel
theorem dX5_init_44 : decode cX5_init 44 = .ok (.multianewarray 28 2, 4) := by decide +kernel
theorem dX5_init_48 : decode cX5_init 48 = .ok (.putfield 30, 3) := by decide +kernel
theorem dX5_init_51 : decode cX5_init 51 = .ok (.aload_n 0, 1) := by decide +kernel
theorem dX5_init_52 : decode cX5_init 52 = .ok (.bipush 8, 2) := by decide +kernel
theorem dX5_init_54 : decode cX5_init 54 = .ok (.bipush 6, 2) := by decide +kernel
theorem dX5_init_56 : decode cX5_init 56 = .ok (.multianewarray 28 2, 4) := by decide +kernel
theorem dX5_init_60 : decode cX5_init 60 = .ok (.putfield 33, 3) := by decide +kernel
theorem dX5_init_63 : decode cX5_init 63 = .ok (.aload_n 0, 1) := by decide +kernel
theorem dX5_init_64 : decode cX5_init 64 = .ok (.bipush 8, 2) := by decide +kernel
theorem dX5_init_66 : decode cX5_init 66 = .ok (.bipush 6, 2) := by decide +kernel
theorem dX5_init_68 : decode cX5_init 68 = .ok (.multianewarray 28 2, 4) := by decide +kernel
theorem dX5_init_72 : decode cX5_init 72 = .ok (.putfield 36, 3) := by decide +kernel
theorem dX5_init_75 : decode cX5_init 75 = .ok (.aload_n 0, 1) := by decide +kernel
theorem dX5_init_76 : decode cX5_init 76 = .ok (.bipush 8, 2) := by decide +kernel
theorem dX5_init_78 : decode cX5_init 78 = .ok (.bipush 6, 2) := by decide +kernel
theorem dX5_init_80 : decode cX5_init 80 = .ok (.multianewarray 28 2, 4) := by decide +kernel
theorem dX5_init_84 : decode cX5_init 84 = .ok (.putfield 39, 3) := by decide +kernel
theorem dX5_init_87 : decode cX5_init 87 = .ok (.aload_n 0, 1) := by decide +kernel
theorem dX5_init_88 : decode cX5_init 88 = .ok (.bipush 8, 2) := by decide +kernel
theorem dX5_init_90 : decode cX5_init 90 = .ok (.bipush 6, 2) := by decide +kernel
theorem dX5_init_92 : decode cX5_init 92 = .ok (.multianewarray 28 2, 4) := by decide +kernel
theorem dX5_init_96 : decode cX5_init 96 = .ok (.putfield 42, 3) := by decide +kernel
theorem dX5_init_99 : decode cX5_init 99 = .ok (.aload_n 0, 1) := by decide +kernel
theorem dX5_init_100 : decode cX5_init 100 = .ok (.bipush 6, 2) := by decide +kernel
theorem dX5_init_102 : decode cX5_init 102 = .ok (.newarray .int, 2) := by decide +kernel
theorem dX5_init_104 : decode cX5_init 104 = .ok (.putfield 45, 3) := by decide +kernel
theorem dX5_init_107 : decode cX5_init 107 = .ok (.aload_n 0, 1) := by decide +kernel
theorem dX5_init_108 : decode cX5_init 108 = .ok (.bipush 8, 2) := by decide +kernel
theorem dX5_init_110 : decode cX5_init 110 = .ok (.newarray .int, 2) := by decide +kernel
theorem dX5_init_112 : decode cX5_init 112 = .ok (.putfield 48, 3) := by decide +kernel
theorem dX5_init_115 : decode cX5_init 115 = .ok (.aload_n 0, 1) := by decide +kernel
theorem dX5_init_116 : decode cX5_init 116 = .ok (.bipush 8, 2) := by decide +kernel
theorem dX5_init_118 : decode cX5_init 118 = .ok (.iconst 4, 1) := by decide +kernel
theorem dX5_init_119 : decode cX5_init 119 = .ok (.multianewarray 28 2, 4) := by decide +kernel
theorem dX5_init_123 : decode cX5_init 123 = .ok (.putfield 51, 3) := by decide +kernel
theorem dX5_init_126 : decode cX5_init 126 = .ok (.aload_n 0, 1) := by decide +kernel
theorem dX5_init_127 : decode cX5_init 127 = .ok (.iconst 4, 1) := by decide +kernel
theorem dX5_init_128 : decode cX5_init 128 = .ok (.newarray .int, 2) := by decide +kernel
theorem dX5_init_130 : decode cX5_init 130 = .ok (.putfield 54, 3) := by decide +kernel
theorem dX5_init_133 : decode cX5_init 133 = .ok (.aload_n 0, 1) := by decide +kernel
theorem dX5_init_134 : decode cX5_init 134 = .ok (.bipush 8, 2) := by decide +kernel
theorem dX5_init_136 : decode cX5_init 136 = .ok (.newarray .int, 2) := by decide +kernel
theorem dX5_init_138 : decode cX5_init 138 = .ok (.putfield 57, 3) := by decide +kernel
theorem dX5_init_141 : decode cX5_init 141 = .ok (.aload_n 0, 1) := by decide +kernel
theorem dX5_init_142 : decode cX5_init 142 = .ok (.bipush 24, 2) := by decide +kernel
theorem dX5_init_144 : decode cX5_init 144 = .ok (.newarray .int, 2) := by decide +kernel
theorem dX5_init_146 : decode cX5_init 146 = .ok (.putfield 60, 3) := by decide +kernel
theorem dX5_init_149 : decode cX5_init 149 = .ok (.aload_n 0, 1) := by decide +kernel
theorem dX5_init_150 : decode cX5_init 150 = .ok (.new 63, 3) := by decide +kernel
theorem dX5_init_153 : decode cX5_init 153 = .ok (.dup, 1) := by decide +kernel
theorem dX5_init_154 : decode cX5_init 154 = .ok (.invokespecial 65, 3) := by decide +kernel
theorem dX5_init_157 : decode cX5_init 157 = .ok (.putfield 66, 3) := by decide +kernel
theorem dX5_init_160 : decode cX5_init 160 = .ok (.return_, 1) := by decide +kernel
theorem dX5_reckon_0 : decode cX5_reckon 0 = .ok (.aload_n 0, 1) := by decide +kernel
theorem dX5_reckon_1 : decode cX5_reckon 1 = .ok (.invokevirtual 70, 3) := by decide +kernel
theorem dX5_reckon_4 : decode cX5_reckon 4 = .ok (.aload_n 0, 1) := by decide +kernel
theorem dX5_reckon_5 : decode cX5_reckon 5 = .ok (.invokevirtual 73, 3) := by decide +kernel
theorem dX5_reckon_8 : decode cX5_reckon 8 = .ok (.iconst 0, 1) := by decide +kernel
theorem dX5_reckon_9 : decode cX5_reckon 9 = .ok (.istore_n 1, 1) := by decide +kernel
theorem dX5_reckon_10 : decode cX5_reckon 10 = .ok (.iload_n 1, 1) := by decide +kernel
theorem dX5_reckon_11 : decode cX5_reckon 11 = .ok (.aload_n 0, 1) := by decide +kernel
theorem dX5_reckon_12 : decode cX5_reckon 12 = .ok (.getfield 12, 3) := by decide +kernel
theorem dX5_reckon_15 : decode cX5_reckon 15 = .ok (.getfield 76, 3) := by decide +kernel
theorem dX5_reckon_18 : decode cX5_reckon 18 = .ok (.if_icmp .ge 24, 3) := by decide +kernel
theorem dX5_reckon_21 : decode cX5_reckon 21 = .ok (.aload_n 0, 1) := by decide +kernel
theorem dX5_reckon_22 : decode cX5_reckon 22 = .ok (.getfield 45, 3) := by decide +kernel
theorem dX5_reckon_25 : decode cX5_reckon 25 = .ok (.iload_n 1, 1) := by decide +kernel
theorem dX5_reckon_26 : decode cX5_reckon 26 = .ok (.aload_n 0, 1) := by decide +kernel
theorem dX5_reckon_27 : decode cX5_reckon 27 = .ok (.getfield 12, 3) := by decide +kernel
theorem dX5_reckon_30 : decode cX5_reckon 30 = .ok (.getfield 80, 3) := by decide +kernel
theorem dX5_reckon_33 : decode cX5_reckon 33 = .ok (.iload_n 1, 1) := by decide +kernel
theorem dX5_reckon_34 : decode cX5_reckon 34 = .ok (.iaload, 1) := by decide +kernel
theorem dX5_reckon_35 : decode cX5_reckon 35 = .ok (.iastore, 1) := by decide +kernel
theorem dX5_reckon_36 : decode cX5_reckon 36 = .ok (.iinc 1 1, 3) := by decide +kernel
theorem dX5_reckon_39 : decode cX5_reckon 39 = .ok (.goto (-29), 3) := by decide +kernel
theorem dX5_reckon_42 : decode cX5_reckon 42 = .ok (.iconst 0, 1) := by decide +kernel
theorem dX5_reckon_43 : decode cX5_reckon 43 = .ok (.istore_n 1, 1) := by decide +kernel
theorem dX5_reckon_44 : decode cX5_reckon 44 = .ok (.iload_n 1, 1) := by decide +kernel
theorem dX5_reckon_45 : decode cX5_reckon 45 = .ok (.aload_n 0, 1) := by decide +kernel
theorem dX5_reckon_46 : decode cX5_reckon 46 = .ok (.getfield 12, 3) := by decide +kernel
theorem dX5_reckon_49 : decode cX5_reckon 49 = .ok (.getfield 83, 3) := by decide +kernel
theorem dX5_reckon_52 : decode cX5_reckon 52 = .ok (.if_icmp .ge 20, 3) := by decide +kernel
theorem dX5_reckon_55 : decode cX5_reckon 55 = .ok (.aload_n 0, 1) := by decide +kernel
theorem dX5_reckon_56 : decode cX5_reckon 56 = .ok (.getfield 54, 3) := by decide +kernel
theorem dX5_reckon_59 : decode cX5_reckon 59 = .ok (.iload_n 1, 1) := by decide +kernel
theorem dX5_reckon_60 : decode cX5_reckon 60 = .ok (.aload_n 0, 1) := by decide +kernel
theorem dX5_reckon_61 : decode cX5_reckon 61 = .ok (.iload_n 1, 1) := by decide +kernel
theorem dX5_reckon_62 : decode cX5_reckon 62 = .ok (.invokevirtual 86, 3) := by decide +kernel
theorem dX5_reckon_65 : decode cX5_reckon 65 = .ok (.iastore, 1) := by decide +kernel
theorem dX5_reckon_66 : decode cX5_reckon 66 = .ok (.iinc 1 1, 3) := by decide +kernel
theorem dX5_reckon_69 : decode cX5_reckon 69 = .ok (.goto (-25), 3) := by decide +kernel
theorem dX5_reckon_72 : decode cX5_reckon 72 = .ok (.iconst 0, 1) := by decide +kernel
theorem dX5_reckon_73 : decode cX5_reckon 73 = .ok (.istore_n 1, 1) := by decide +kernel
theorem dX5_reckon_74 : decode cX5_reckon 74 = .ok (.iload_n 1, 1) := by decide +kernel
theorem dX5_reckon_75 : decode cX5_reckon 75 = .ok (.aload_n 0, 1) := by decide +kernel
theorem dX5_reckon_76 : decode cX5_reckon 76 = .ok (.getfield 12, 3) := by decide +kernel
theorem dX5_reckon_79 : decode cX5_reckon 79 = .ok (.getfield 90, 3) := by decide +kernel
theorem dX5_reckon_82 : decode cX5_reckon 82 = .ok (.if_icmp .ge 50, 3) := by decide +kernel
theorem dX5_reckon_85 : decode cX5_reckon 85 = .ok (.aload_n 0, 1) := by decide +kernel
theorem dX5_reckon_86 : decode cX5_reckon 86 = .ok (.getfield 18, 3) := by decide +kernel
theorem dX5_reckon_89 : decode cX5_reckon 89 = .ok (.iload_n 1, 1) := by decide +kernel
theorem dX5_reckon_90 : decode cX5_reckon 90 = .ok (.iaload, 1) := by decide +kernel
theorem dX5_reckon_91 : decode cX5_reckon 91 = .ok (.istore_n 2, 1) := by decide +kernel
theorem dX5_reckon_92 : decode cX5_reckon 92 = .ok (.aload_n 0, 1) := by decide +kernel
theorem dX5_reckon_93 : decode cX5_reckon 93 = .ok (.iload_n 2, 1) := by decide +kernel
theorem dX5_reckon_94 : decode cX5_reckon 94 = .ok (.invokevirtual 93, 3) := by decide +kernel
theorem dX5_reckon_97 : decode cX5_reckon 97 = .ok (.iconst 0, 1) := by decide +kernel
theorem dX5_reckon_98 : decode cX5_reckon 98 = .ok (.istore_n 3, 1) := by decide +kernel
theorem dX5_reckon_99 : decode cX5_reckon 99 = .ok (.iload_n 3, 1) := by decide +kernel
theorem dX5_reckon_100 : decode cX5_reckon 100 = .ok (.iconst 3, 1) := by decide +kernel
theorem dX5_reckon_101 : decode cX5_reckon 101 = .ok (.if_icmp .ge 15, 3) := by decide +kernel
theorem dX5_reckon_104 : decode cX5_reckon 104 = .ok (.aload_n 0, 1) := by decide +kernel
theorem dX5_reckon_105 : decode cX5_reckon 105 = .ok (.iload_n 2, 1) := by decide +kernel
theorem dX5_reckon_106 : decode cX5_reckon 106 = .ok (.iload_n 3, 1) := by decide +kernel
theorem dX5_reckon_107 : decode cX5_reckon 107 = .ok (.invokevirtual 97, 3) := by decide +kernel
theorem dX5_reckon_110 : decode cX5_reckon 110 = .ok (.iinc 3 1, 3) := by decide +kernel
theorem dX5_reckon_113 : decode cX5_reckon 113 = .ok (.goto (-14), 3) := by decide +kernel
theorem dX5_reckon_116 : decode cX5_reckon 116 = .ok (.aload_n 0, 1) := by decide +kernel
theorem dX5_reckon_117 : decode cX5_reckon 117 = .ok (.iload_n 2, 1) := by decide +kernel
theorem dX5_reckon_118 : decode cX5_reckon 118 = .ok (.invokevirtual 101, 3) := by decide +kernel
theorem dX5_reckon_121 : decode cX5_reckon 121 = .ok (.aload_n 0, 1) := by decide +kernel
theorem dX5_reckon_122 : decode cX5_reckon 122 = .ok (.iload_n 2, 1) := by decide +kernel
theorem dX5_reckon_123 : decode cX5_reckon 123 = .ok (.invokevirtual 104, 3) := by decide +kernel
theorem dX5_reckon_126 : decode cX5_reckon 126 = .ok (.iinc 1 1, 3) := by decide +kernel
theorem dX5_reckon_129 : decode cX5_reckon 129 = .ok (.goto (-55), 3) := by decide +kernel
theorem dX5_reckon_132 : decode cX5_reckon 132 = .ok (.return_, 1) := by decide +kernel
theorem dX5_orderEvents_0 : decode cX5_orderEvents 0 = .ok (.iconst 0, 1) := by decide +kernel
theorem dX5_orderEvents_1 : decode cX5_orderEvents 1 = .ok (.istore_n 1, 1) := by decide +kernel
theorem dX5_orderEvents_2 : decode cX5_orderEvents 2 = .ok (.iload_n 1, 1) := by decide +kernel
theorem dX5_orderEvents_3 : decode cX5_orderEvents 3 = .ok (.aload_n 0, 1) := by decide +kernel
theorem dX5_orderEvents_4 : decode cX5_orderEvents 4 = .ok (.getfield 12, 3) := by decide +kernel
theorem dX5_orderEvents_7 : decode cX5_orderEvents 7 = .ok (.getfield 90, 3) := by decide +kernel
theorem dX5_orderEvents_10 : decode cX5_orderEvents 10 = .ok (.if_icmp .ge 83, 3) := by decide +kernel
theorem dX5_orderEvents_13 : decode cX5_orderEvents 13 = .ok (.iconst 0, 1) := by decide +kernel
theorem dX5_orderEvents_14 : decode cX5_orderEvents 14 = .ok (.istore_n 2, 1) := by decide +kernel
theorem dX5_orderEvents_15 : decode cX5_orderEvents 15 = .ok (.iconst 0, 1) := by decide +kernel
theorem dX5_orderEvents_16 : decode cX5_orderEvents 16 = .ok (.istore_n 3, 1) := by decide +kernel
theorem dX5_orderEvents_17 : decode cX5_orderEvents 17 = .ok (.iload_n 3, 1) := by decide +kernel
theorem dX5_orderEvents_18 : decode cX5_orderEvents 18 = .ok (.aload_n 0, 1) := by decide +kernel
theorem dX5_orderEvents_19 : decode cX5_orderEvents 19 = .ok (.getfield 12, 3) := by decide +kernel
theorem dX5_orderEvents_22 : decode cX5_orderEvents 22 = .ok (.getfield 90, 3) := by decide +kernel
theorem dX5_orderEvents_25 : decode cX5_orderEvents 25 = .ok (.if_icmp .ge 48, 3) := by decide +kernel
theorem dX5_orderEvents_28 : decode cX5_orderEvents 28 = .ok (.aload_n 0, 1) := by decide +kernel
theorem dX5_orderEvents_29 : decode cX5_orderEvents 29 = .ok (.getfield 12, 3) := by decide +kernel
theorem dX5_orderEvents_32 : decode cX5_orderEvents 32 = .ok (.getfield 107, 3) := by decide +kernel
theorem dX5_orderEvents_35 : decode cX5_orderEvents 35 = .ok (.iload_n 3, 1) := by decide +kernel
theorem dX5_orderEvents_36 : decode cX5_orderEvents 36 = .ok (.iaload, 1) := by decide +kernel
theorem dX5_orderEvents_37 : decode cX5_orderEvents 37 = .ok (.aload_n 0, 1) := by decide +kernel
theorem dX5_orderEvents_38 : decode cX5_orderEvents 38 = .ok (.getfield 12, 3) := by decide +kernel
theorem dX5_orderEvents_41 : decode cX5_orderEvents 41 = .ok (.getfield 107, 3) := by decide +kernel
theorem dX5_orderEvents_44 : decode cX5_orderEvents 44 = .ok (.iload_n 1, 1) := by decide +kernel
theorem dX5_orderEvents_45 : decode cX5_orderEvents 45 = .ok (.iaload, 1) := by decide +kernel
theorem dX5_orderEvents_46 : decode cX5_orderEvents 46 = .ok (.isub, 1) := by decide +kernel
theorem dX5_orderEvents_47 : decode cX5_orderEvents 47 = .ok (.istore 4, 2) := by decide +kernel
theorem dX5_orderEvents_49 : decode cX5_orderEvents 49 = .ok (.iload 4, 2) := by decide +kernel
theorem dX5_orderEvents_51 : decode cX5_orderEvents 51 = .ok (.ifCond .lt 13, 3) := by decide +kernel
theorem dX5_orderEvents_54 : decode cX5_orderEvents 54 = .ok (.iload 4, 2) := by decide +kernel
theorem dX5_orderEvents_56 : decode cX5_orderEvents 56 = .ok (.ifCond .ne 11, 3) := by decide +kernel
theorem dX5_orderEvents_59 : decode cX5_orderEvents 59 = .ok (.iload_n 3, 1) := by decide +kernel
theorem dX5_orderEvents_60 : decode cX5_orderEvents 60 = .ok (.iload_n 1, 1) := by decide +kernel
theorem dX5_orderEvents_61 : decode cX5_orderEvents 61 = .ok (.if_icmp .ge 6, 3) := by decide +kernel
theorem dX5_orderEvents_64 : decode cX5_orderEvents 64 = .ok (.iinc 2 1, 3) := by decide +kernel
theorem dX5_orderEvents_67 : decode cX5_orderEvents 67 = .ok (.iinc 3 1, 3) := by decide +kernel
theorem dX5_orderEvents_70 : decode cX5_orderEvents 70 = .ok (.goto (-53), 3) := by decide +kernel
theorem dX5_orderEvents_73 : decode cX5_orderEvents 73 = .ok (.aload_n 0, 1) := by decide +kernel
theorem dX5_orderEvents_74 : decode cX5_orderEvents 74 = .ok (.getfield 22, 3) := by decide +kernel
theorem dX5_orderEvents_77 : decode cX5_orderEvents 77 = .ok (.iload_n 1, 1) := by decide +kernel
theorem dX5_orderEvents_78 : decode cX5_orderEvents 78 = .ok (.iload_n 2, 1) := by decide +kernel
theorem dX5_orderEvents_79 : decode cX5_orderEvents 79 = .ok (.iastore, 1) := by decide +kernel
theorem dX5_orderEvents_80 : decode cX5_orderEvents 80 = .ok (.aload_n 0, 1) := by decide +kernel
theorem dX5_orderEvents_81 : decode cX5_orderEvents 81 = .ok (.getfield 18, 3) := by decide +kernel
theorem dX5_orderEvents_84 : decode cX5_orderEvents 84 = .ok (.iload_n 2, 1) := by decide +kernel
theorem dX5_orderEvents_85 : decode cX5_orderEvents 85 = .ok (.iload_n 1, 1) := by decide +kernel
theorem dX5_orderEvents_86 : decode cX5_orderEvents 86 = .ok (.iastore, 1) := by decide +kernel
theorem dX5_orderEvents_87 : decode cX5_orderEvents 87 = .ok (.iinc 1 1, 3) := by decide +kernel
theorem dX5_orderEvents_90 : decode cX5_orderEvents 90 = .ok (.goto (-88), 3) := by decide +kernel
theorem dX5_orderEvents_93 : decode cX5_orderEvents 93 = .ok (.return_, 1) := by decide +kernel
theorem dX5_sumLosses_0 : decode cX5_sumLosses 0 = .ok (.iconst 0, 1) := by decide +kernel
theorem dX5_sumLosses_1 : decode cX5_sumLosses 1 = .ok (.istore_n 1, 1) := by decide +kernel
theorem dX5_sumLosses_2 : decode cX5_sumLosses 2 = .ok (.iload_n 1, 1) := by decide +kernel
theorem dX5_sumLosses_3 : decode cX5_sumLosses 3 = .ok (.aload_n 0, 1) := by decide +kernel
theorem dX5_sumLosses_4 : decode cX5_sumLosses 4 = .ok (.getfield 12, 3) := by decide +kernel
theorem dX5_sumLosses_7 : decode cX5_sumLosses 7 = .ok (.getfield 90, 3) := by decide +kernel
theorem dX5_sumLosses_10 : decode cX5_sumLosses 10 = .ok (.if_icmp .ge 37, 3) := by decide +kernel
theorem dX5_sumLosses_13 : decode cX5_sumLosses 13 = .ok (.iconst 0, 1) := by decide +kernel
theorem dX5_sumLosses_14 : decode cX5_sumLosses 14 = .ok (.istore_n 2, 1) := by decide +kernel
theorem dX5_sumLosses_15 : decode cX5_sumLosses 15 = .ok (.iload_n 2, 1) := by decide +kernel
theorem dX5_sumLosses_16 : decode cX5_sumLosses 16 = .ok (.aload_n 0, 1) := by decide +kernel
theorem dX5_sumLosses_17 : decode cX5_sumLosses 17 = .ok (.getfield 12, 3) := by decide +kernel
theorem dX5_sumLosses_20 : decode cX5_sumLosses 20 = .ok (.getfield 76, 3) := by decide +kernel
theorem dX5_sumLosses_23 : decode cX5_sumLosses 23 = .ok (.if_icmp .ge 18, 3) := by decide +kernel
theorem dX5_sumLosses_26 : decode cX5_sumLosses 26 = .ok (.aload_n 0, 1) := by decide +kernel
theorem dX5_sumLosses_27 : decode cX5_sumLosses 27 = .ok (.getfield 30, 3) := by decide +kernel
theorem dX5_sumLosses_30 : decode cX5_sumLosses 30 = .ok (.iload_n 1, 1) := by decide +kernel
theorem dX5_sumLosses_31 : decode cX5_sumLosses 31 = .ok (.aaload, 1) := by decide +kernel
theorem dX5_sumLosses_32 : decode cX5_sumLosses 32 = .ok (.iload_n 2, 1) := by decide +kernel
theorem dX5_sumLosses_33 : decode cX5_sumLosses 33 = .ok (.iconst 0, 1) := by decide +kernel
theorem dX5_sumLosses_34 : decode cX5_sumLosses 34 = .ok (.iastore, 1) := by decide +kernel
theorem dX5_sumLosses_35 : decode cX5_sumLosses 35 = .ok (.iinc 2 1, 3) := by decide +kernel
theorem dX5_sumLosses_38 : decode cX5_sumLosses 38 = .ok (.goto (-23), 3) := by decide +kernel
theorem dX5_sumLosses_41 : decode cX5_sumLosses 41 = .ok (.iinc 1 1, 3) := by decide +kernel
theorem dX5_sumLosses_44 : decode cX5_sumLosses 44 = .ok (.goto (-42), 3) := by decide +kernel
theorem dX5_sumLosses_47 : decode cX5_sumLosses 47 = .ok (.iconst 0, 1) := by decide +kernel
theorem dX5_sumLosses_48 : decode cX5_sumLosses 48 = .ok (.istore_n 1, 1) := by decide +kernel
theorem dX5_sumLosses_49 : decode cX5_sumLosses 49 = .ok (.iload_n 1, 1) := by decide +kernel
theorem dX5_sumLosses_50 : decode cX5_sumLosses 50 = .ok (.aload_n 0, 1) := by decide +kernel
theorem dX5_sumLosses_51 : decode cX5_sumLosses 51 = .ok (.getfield 12, 3) := by decide +kernel
theorem dX5_sumLosses_54 : decode cX5_sumLosses 54 = .ok (.getfield 110, 3) := by decide +kernel
theorem dX5_sumLosses_57 : decode cX5_sumLosses 57 = .ok (.if_icmp .ge 67, 3) := by decide +kernel
theorem dX5_sumLosses_60 : decode cX5_sumLosses 60 = .ok (.aload_n 0, 1) := by decide +kernel
theorem dX5_sumLosses_61 : decode cX5_sumLosses 61 = .ok (.getfield 12, 3) := by decide +kernel
theorem dX5_sumLosses_64 : decode cX5_sumLosses 64 = .ok (.getfield 113, 3) := by decide +kernel
theorem dX5_sumLosses_67 : decode cX5_sumLosses 67 = .ok (.iload_n 1, 1) := by decide +kernel
theorem dX5_sumLosses_68 : decode cX5_sumLosses 68 = .ok (.iaload, 1) := by decide +kernel
theorem dX5_sumLosses_69 : decode cX5_sumLosses 69 = .ok (.istore_n 2, 1) := by decide +kernel
theorem dX5_sumLosses_70 : decode cX5_sumLosses 70 = .ok (.aload_n 0, 1) := by decide +kernel
theorem dX5_sumLosses_71 : decode cX5_sumLosses 71 = .ok (.getfield 25, 3) := by decide +kernel
theorem dX5_sumLosses_74 : decode cX5_sumLosses 74 = .ok (.iload_n 1, 1) := by decide +kernel
theorem dX5_sumLosses_75 : decode cX5_sumLosses 75 = .ok (.aload_n 0, 1) := by decide +kernel
theorem dX5_sumLosses_76 : decode cX5_sumLosses 76 = .ok (.getfield 12, 3) := by decide +kernel
theorem dX5_sumLosses_79 : decode cX5_sumLosses 79 = .ok (.getfield 116, 3) := by decide +kernel
theorem dX5_sumLosses_82 : decode cX5_sumLosses 82 = .ok (.iload_n 1, 1) := by decide +kernel
theorem dX5_sumLosses_83 : decode cX5_sumLosses 83 = .ok (.iaload, 1) := by decide +kernel
theorem dX5_sumLosses_84 : decode cX5_sumLosses 84 = .ok (.i2f, 1) := by decide +kernel
theorem dX5_sumLosses_85 : decode cX5_sumLosses 85 = .ok (.aload_n 0, 1) := by decide +kernel
theorem dX5_sumLosses_86 : decode cX5_sumLosses 86 = .ok (.iload_n 2, 1) := by decide +kernel
theorem dX5_sumLosses_87 : decode cX5_sumLosses 87 = .ok (.invokevirtual 119, 3) := by decide +kernel
theorem dX5_sumLosses_90 : decode cX5_sumLosses 90 = .ok (.fmul, 1) := by decide +kernel
theorem dX5_sumLosses_91 : decode cX5_sumLosses 91 = .ok (.f2i, 1) := by decide +kernel
theorem dX5_sumLosses_92 : decode cX5_sumLosses 92 = .ok (.iastore, 1) := by decide +kernel
theorem dX5_sumLosses_93 : decode cX5_sumLosses 93 = .ok (.aload_n 0, 1) := by decide +kernel
theorem dX5_sumLosses_94 : decode cX5_sumLosses 94 = .ok (.getfield 30, 3) := by decide +kernel
theorem dX5_sumLosses_97 : decode cX5_sumLosses 97 = .ok (.iload_n 2, 1) := by decide +kernel
theorem dX5_sumLosses_98 : decode cX5_sumLosses 98 = .ok (.aaload, 1) := by decide +kernel
theorem dX5_sumLosses_99 : decode cX5_sumLosses 99 = .ok (.aload_n 0, 1) := by decide +kernel
theorem dX5_sumLosses_100 : decode cX5_sumLosses 100 = .ok (.getfield 12, 3) := by decide +kernel
theorem dX5_sumLosses_103 : decode cX5_sumLosses 103 = .ok (.getfield 123, 3) := by decide +kernel
theorem dX5_sumLosses_106 : decode cX5_sumLosses 106 = .ok (.iload_n 1, 1) := by decide +kernel
theorem dX5_sumLosses_107 : decode cX5_sumLosses 107 = .ok (.iaload, 1) := by decide +kernel
theorem dX5_sumLosses_108 : decode cX5_sumLosses 108 = .ok (.dup2, 1) := by decide +kernel
theorem dX5_sumLosses_109 : decode cX5_sumLosses 109 = .ok (.iaload, 1) := by decide +kernel
theorem dX5_sumLosses_110 : decode cX5_sumLosses 110 = .ok (.aload_n 0, 1) := by decide +kernel
theorem dX5_sumLosses_111 : decode cX5_sumLosses 111 = .ok (.getfield 25, 3) := by decide +kernel
theorem dX5_sumLosses_114 : decode cX5_sumLosses 114 = .ok (.iload_n 1, 1) := by decide +kernel
theorem dX5_sumLosses_115 : decode cX5_sumLosses 115 = .ok (.iaload, 1) := by decide +kernel
theorem dX5_sumLosses_116 : decode cX5_sumLosses 116 = .ok (.iadd, 1) := by decide +kernel
theorem dX5_sumLosses_117 : decode cX5_sumLosses 117 = .ok (.iastore, 1) := by decide +kernel
theorem dX5_sumLosses_118 : decode cX5_sumLosses 118 = .ok (.iinc 1 1, 3) := by decide +kernel
theorem dX5_sumLosses_121 : decode cX5_sumLosses 121 = .ok (.goto (-72), 3) := by decide +kernel
theorem dX5_sumLosses_124 : decode cX5_sumLosses 124 = .ok (.return_, 1) := by decide +kernel
theorem dX5_factorOfEvent_0 : decode cX5_factorOfEvent 0 = .ok (.aload_n 0, 1) := by decide +kernel
theorem dX5_factorOfEvent_1 : decode cX5_factorOfEvent 1 = .ok (.getfield 12, 3) := by decide +kernel
theorem dX5_factorOfEvent_4 : decode cX5_factorOfEvent 4 = .ok (.getfield 126, 3) := by decide +kernel
theorem dX5_factorOfEvent_7 : decode cX5_factorOfEvent 7 = .ok (.aload_n 0, 1) := by decide +kernel
theorem dX5_factorOfEvent_8 : decode cX5_factorOfEvent 8 = .ok (.getfield 12, 3) := by decide +kernel
theorem dX5_factorOfEvent_11 : decode cX5_factorOfEvent 11 = .ok (.getfield 107, 3) := by decide +kernel
theorem dX5_factorOfEvent_14 : decode cX5_factorOfEvent 14 = .ok (.iload_n 1, 1) := by decide +kernel
theorem dX5_factorOfEvent_15 : decode cX5_factorOfEvent 15 = .ok (.iaload, 1) := by decide +kernel
theorem dX5_factorOfEvent_16 : decode cX5_factorOfEvent 16 = .ok (.imul, 1) := by decide +kernel
theorem dX5_factorOfEvent_17 : decode cX5_factorOfEvent 17 = .ok (.bipush 30, 2) := by decide +kernel
theorem dX5_factorOfEvent_19 : decode cX5_factorOfEvent 19 = .ok (.idiv, 1) := by decide +kernel
theorem dX5_factorOfEvent_20 : decode cX5_factorOfEvent 20 = .ok (.istore_n 2, 1) := by decide +kernel
theorem dX5_factorOfEvent_21 : decode cX5_factorOfEvent 21 = .ok (.fconst 1, 1) := by decide +kernel
theorem dX5_factorOfEvent_22 : decode cX5_factorOfEvent 22 = .ok (.iload_n 2, 1) := by decide +kernel
theorem dX5_factorOfEvent_23 : decode cX5_factorOfEvent 23 = .ok (.i2f, 1) := by decide +kernel
theorem dX5_factorOfEvent_24 : decode cX5_factorOfEvent 24 = .ok (.ldc 129, 2) := by decide +kernel
theorem dX5_factorOfEvent_26 : decode cX5_factorOfEvent 26 = .ok (.fdiv, 1) := by decide +kernel
theorem dX5_factorOfEvent_27 : decode cX5_factorOfEvent 27 = .ok (.fadd, 1) := by decide +kernel
theorem dX5_factorOfEvent_28 : decode cX5_factorOfEvent 28 = .ok (.freturn, 1) := by decide +kernel
theorem dX5_limitLosses_0 : decode cX5_limitLosses 0 = .ok (.iconst 0, 1) := by decide +kernel
theorem dX5_limitLosses_1 : decode cX5_limitLosses 1 = .ok (.istore_n 2, 1) := by decide +kernel
theorem dX5_limitLosses_2 : decode cX5_limitLosses 2 = .ok (.iload_n 2, 1) := by decide +kernel
theorem dX5_limitLosses_3 : decode cX5_limitLosses 3 = .ok (.aload_n 0, 1) := by decide +kernel
theorem dX5_limitLosses_4 : decode cX5_limitLosses 4 = .ok (.getfield 12, 3) := by decide +kernel
theorem dX5_limitLosses_7 : decode cX5_limitLosses 7 = .ok (.getfield 76, 3) := by decide +kernel
theorem dX5_limitLosses_10 : decode cX5_limitLosses 10 = .ok (.if_icmp .ge 37, 3) := by decide +kernel
theorem dX5_limitLosses_13 : decode cX5_limitLosses 13 = .ok (.aload_n 0, 1) := by decide +kernel
theorem dX5_limitLosses_14 : decode cX5_limitLosses 14 = .ok (.getfield 33, 3) := by decide +kernel
theorem dX5_limitLosses_17 : decode cX5_limitLosses 17 = .ok (.iload_n 1, 1) := by decide +kernel
theorem dX5_limitLosses_18 : decode cX5_limitLosses 18 = .ok (.aaload, 1) := by decide +kernel
theorem dX5_limitLosses_19 : decode cX5_limitLosses 19 = .ok (.iload_n 2, 1) := by decide +kernel
theorem dX5_limitLosses_20 : decode cX5_limitLosses 20 = .ok (.aload_n 0, 1) := by decide +kernel
theorem dX5_limitLosses_21 : decode cX5_limitLosses 21 = .ok (.getfield 30, 3) := by decide +kernel
theorem dX5_limitLosses_24 : decode cX5_limitLosses 24 = .ok (.iload_n 1, 1) := by decide +kernel
theorem dX5_limitLosses_25 : decode cX5_limitLosses 25 = .ok (.aaload, 1) := by decide +kernel
theorem dX5_limitLosses_26 : decode cX5_limitLosses 26 = .ok (.iload_n 2, 1) := by decide +kernel
theorem dX5_limitLosses_27 : decode cX5_limitLosses 27 = .ok (.iaload, 1) := by decide +kernel
theorem dX5_limitLosses_28 : decode cX5_limitLosses 28 = .ok (.aload_n 0, 1) := by decide +kernel
theorem dX5_limitLosses_29 : decode cX5_limitLosses 29 = .ok (.getfield 12, 3) := by decide +kernel
theorem dX5_limitLosses_32 : decode cX5_limitLosses 32 = .ok (.getfield 130, 3) := by decide +kernel
theorem dX5_limitLosses_35 : decode cX5_limitLosses 35 = .ok (.iload_n 2, 1) := by decide +kernel
theorem dX5_limitLosses_36 : decode cX5_limitLosses 36 = .ok (.iaload, 1) := by decide +kernel
theorem dX5_limitLosses_37 : decode cX5_limitLosses 37 = .ok (.invokestatic 133, 3) := by decide +kernel
theorem dX5_limitLosses_40 : decode cX5_limitLosses 40 = .ok (.iastore, 1) := by decide +kernel
theorem dX5_limitLosses_41 : decode cX5_limitLosses 41 = .ok (.iinc 2 1, 3) := by decide +kernel
theorem dX5_limitLosses_44 : decode cX5_limitLosses 44 = .ok (.goto (-42), 3) := by decide +kernel
theorem dX5_limitLosses_47 : decode cX5_limitLosses 47 = .ok (.return_, 1) := by decide +kernel
theorem dX5_deductFromGroup_0 : decode cX5_deductFromGroup 0 = .ok (.iconst 0, 1) := by decide +kernel
theorem dX5_deductFromGroup_1 : decode cX5_deductFromGroup 1 = .ok (.istore_n 3, 1) := by decide +kernel
theorem dX5_deductFromGroup_2 : decode cX5_deductFromGroup 2 = .ok (.iconst 0, 1) := by decide +kernel
theorem dX5_deductFromGroup_3 : decode cX5_deductFromGroup 3 = .ok (.istore 4, 2) := by decide +kernel
theorem dX5_deductFromGroup_5 : decode cX5_deductFromGroup 5 = .ok (.iload 4, 2) := by decide +kernel
theorem dX5_deductFromGroup_7 : decode cX5_deductFromGroup 7 = .ok (.aload_n 0, 1) := by decide +kernel
theorem dX5_deductFromGroup_8 : decode cX5_deductFromGroup 8 = .ok (.getfield 12, 3) := by decide +kernel
theorem dX5_deductFromGroup_11 : decode cX5_deductFromGroup 11 = .ok (.getfield 76, 3) := by decide +kernel
theorem dX5_deductFromGroup_14 : decode cX5_deductFromGroup 14 = .ok (.if_icmp .ge 59, 3) := by decide +kernel
theorem dX5_deductFromGroup_17 : decode cX5_deductFromGroup 17 = .ok (.aload_n 0, 1) := by decide +kernel
theorem dX5_deductFromGroup_18 : decode cX5_deductFromGroup 18 = .ok (.getfield 66, 3) := by decide +kernel
theorem dX5_deductFromGroup_21 : decode cX5_deductFromGroup 21 = .ok (.getfield 139, 3) := by decide +kernel
theorem dX5_deductFromGroup_24 : decode cX5_deductFromGroup 24 = .ok (.iload 4, 2) := by decide +kernel
theorem dX5_deductFromGroup_26 : decode cX5_deductFromGroup 26 = .ok (.aload_n 0, 1) := by decide +kernel
theorem dX5_deductFromGroup_27 : decode cX5_deductFromGroup 27 = .ok (.getfield 12, 3) := by decide +kernel
theorem dX5_deductFromGroup_30 : decode cX5_deductFromGroup 30 = .ok (.getfield 142, 3) := by decide +kernel
theorem dX5_deductFromGroup_33 : decode cX5_deductFromGroup 33 = .ok (.iload 4, 2) := by decide +kernel
theorem dX5_deductFromGroup_35 : decode cX5_deductFromGroup 35 = .ok (.iaload, 1) := by decide +kernel
theorem dX5_deductFromGroup_36 : decode cX5_deductFromGroup 36 = .ok (.iload_n 2, 1) := by decide +kernel
theorem dX5_deductFromGroup_37 : decode cX5_deductFromGroup 37 = .ok (.if_icmp .ne 15, 3) := by decide +kernel
theorem dX5_deductFromGroup_40 : decode cX5_deductFromGroup 40 = .ok (.aload_n 0, 1) := by decide +kernel
theorem dX5_deductFromGroup_41 : decode cX5_deductFromGroup 41 = .ok (.getfield 33, 3) := by decide +kernel
theorem dX5_deductFromGroup_44 : decode cX5_deductFromGroup 44 = .ok (.iload_n 1, 1) := by decide +kernel
theorem dX5_deductFromGroup_45 : decode cX5_deductFromGroup 45 = .ok (.aaload, 1) := by decide +kernel
theorem dX5_deductFromGroup_46 : decode cX5_deductFromGroup 46 = .ok (.iload 4, 2) := by decide +kernel
theorem dX5_deductFromGroup_48 : decode cX5_deductFromGroup 48 = .ok (.iaload, 1) := by decide +kernel
theorem dX5_deductFromGroup_49 : decode cX5_deductFromGroup 49 = .ok (.goto 4, 3) := by decide +kernel
theorem dX5_deductFromGroup_52 : decode cX5_deductFromGroup 52 = .ok (.iconst 0, 1) := by decide +kernel
theorem dX5_deductFromGroup_53 : decode cX5_deductFromGroup 53 = .ok (.iastore, 1) := by decide +kernel
theorem dX5_deductFromGroup_54 : decode cX5_deductFromGroup 54 = .ok (.iload_n 3, 1) := by decide +kernel
theorem dX5_deductFromGroup_55 : decode cX5_deductFromGroup 55 = .ok (.aload_n 0, 1) := by decide +kernel
theorem dX5_deductFromGroup_56 : decode cX5_deductFromGroup 56 = .ok (.getfield 66, 3) := by decide +kernel
theorem dX5_deductFromGroup_59 : decode cX5_deductFromGroup 59 = .ok (.getfield 139, 3) := by decide +kernel
theorem dX5_deductFromGroup_62 : decode cX5_deductFromGroup 62 = .ok (.iload 4, 2) := by decide +kernel
theorem dX5_deductFromGroup_64 : decode cX5_deductFromGroup 64 = .ok (.iaload, 1) := by decide +kernel
theorem dX5_deductFromGroup_65 : decode cX5_deductFromGroup 65 = .ok (.iadd, 1) := by decide +kernel
theorem dX5_deductFromGroup_66 : decode cX5_deductFromGroup 66 = .ok (.istore_n 3, 1) := by decide +kernel
theorem dX5_deductFromGroup_67 : decode cX5_deductFromGroup 67 = .ok (.iinc 4 1, 3) := by decide +kernel
theorem dX5_deductFromGroup_70 : decode cX5_deductFromGroup 70 = .ok (.goto (-65), 3) := by decide +kernel
theorem dX5_deductFromGroup_73 : decode cX5_deductFromGroup 73 = .ok (.aload_n 0, 1) := by decide +kernel
theorem dX5_deductFromGroup_74 : decode cX5_deductFromGroup 74 = .ok (.getfield 66, 3) := by decide +kernel
theorem dX5_deductFromGroup_77 : decode cX5_deductFromGroup 77 = .ok (.aload_n 0, 1) := by decide +kernel
theorem dX5_deductFromGroup_78 : decode cX5_deductFromGroup 78 = .ok (.getfield 12, 3) := by decide +kernel
theorem dX5_deductFromGroup_81 : decode cX5_deductFromGroup 81 = .ok (.getfield 145, 3) := by decide +kernel
theorem dX5_deductFromGroup_84 : decode cX5_deductFromGroup 84 = .ok (.iload_n 2, 1) := by decide +kernel
theorem dX5_deductFromGroup_85 : decode cX5_deductFromGroup 85 = .ok (.iaload, 1) := by decide +kernel
theorem dX5_deductFromGroup_86 : decode cX5_deductFromGroup 86 = .ok (.iload_n 3, 1) := by decide +kernel
theorem dX5_deductFromGroup_87 : decode cX5_deductFromGroup 87 = .ok (.invokestatic 133, 3) := by decide +kernel
theorem dX5_deductFromGroup_90 : decode cX5_deductFromGroup 90 = .ok (.aload_n 0, 1) := by decide +kernel
theorem dX5_deductFromGroup_91 : decode cX5_deductFromGroup 91 = .ok (.getfield 12, 3) := by decide +kernel
theorem dX5_deductFromGroup_94 : decode cX5_deductFromGroup 94 = .ok (.getfield 76, 3) := by decide +kernel
theorem dX5_deductFromGroup_97 : decode cX5_deductFromGroup 97 = .ok (.invokevirtual 148, 3) := by decide +kernel
theorem dX5_deductFromGroup_100 : decode cX5_deductFromGroup 100 = .ok (.iconst 0, 1) := by decide +kernel
theorem dX5_deductFromGroup_101 : decode cX5_deductFromGroup 101 = .ok (.istore 4, 2) := by decide +kernel
theorem dX5_deductFromGroup_103 : decode cX5_deductFromGroup 103 = .ok (.iload 4, 2) := by decide +kernel
theorem dX5_deductFromGroup_105 : decode cX5_deductFromGroup 105 = .ok (.aload_n 0, 1) := by decide +kernel
theorem dX5_deductFromGroup_106 : decode cX5_deductFromGroup 106 = .ok (.getfield 12, 3) := by decide +kernel
theorem dX5_deductFromGroup_109 : decode cX5_deductFromGroup 109 = .ok (.getfield 76, 3) := by decide +kernel
theorem dX5_deductFromGroup_112 : decode cX5_deductFromGroup 112 = .ok (.if_icmp .ge 42, 3) := by decide +kernel
theorem dX5_deductFromGroup_115 : decode cX5_deductFromGroup 115 = .ok (.aload_n 0, 1) := by decide +kernel
theorem dX5_deductFromGroup_116 : decode cX5_deductFromGroup 116 = .ok (.getfield 12, 3) := by decide +kernel
theorem dX5_deductFromGroup_119 : decode cX5_deductFromGroup 119 = .ok (.getfield 142, 3) := by decide +kernel
theorem dX5_deductFromGroup_122 : decode cX5_deductFromGroup 122 = .ok (.iload 4, 2) := by decide +kernel
theorem dX5_deductFromGroup_124 : decode cX5_deductFromGroup 124 = .ok (.iaload, 1) := by decide +kernel
theorem dX5_deductFromGroup_125 : decode cX5_deductFromGroup 125 = .ok (.iload_n 2, 1) := by decide +kernel
theorem dX5_deductFromGroup_126 : decode cX5_deductFromGroup 126 = .ok (.if_icmp .ne 22, 3) := by decide +kernel
theorem dX5_deductFromGroup_129 : decode cX5_deductFromGroup 129 = .ok (.aload_n 0, 1) := by decide +kernel
theorem dX5_deductFromGroup_130 : decode cX5_deductFromGroup 130 = .ok (.getfield 36, 3) := by decide +kernel
theorem dX5_deductFromGroup_133 : decode cX5_deductFromGroup 133 = .ok (.iload_n 1, 1) := by decide +kernel
theorem dX5_deductFromGroup_134 : decode cX5_deductFromGroup 134 = .ok (.aaload, 1) := by decide +kernel
theorem dX5_deductFromGroup_135 : decode cX5_deductFromGroup 135 = .ok (.iload 4, 2) := by decide +kernel
theorem dX5_deductFromGroup_137 : decode cX5_deductFromGroup 137 = .ok (.aload_n 0, 1) := by decide +kernel
theorem dX5_deductFromGroup_138 : decode cX5_deductFromGroup 138 = .ok (.getfield 66, 3) := by decide +kernel
theorem dX5_deductFromGroup_141 : decode cX5_deductFromGroup 141 = .ok (.getfield 151, 3) := by decide +kernel
theorem dX5_deductFromGroup_144 : decode cX5_deductFromGroup 144 = .ok (.iload 4, 2) := by decide +kernel
theorem dX5_deductFromGroup_146 : decode cX5_deductFromGroup 146 = .ok (.iaload, 1) := by decide +kernel
theorem dX5_deductFromGroup_147 : decode cX5_deductFromGroup 147 = .ok (.iastore, 1) := by decide +kernel
theorem dX5_deductFromGroup_148 : decode cX5_deductFromGroup 148 = .ok (.iinc 4 1, 3) := by decide +kernel
theorem dX5_deductFromGroup_151 : decode cX5_deductFromGroup 151 = .ok (.goto (-48), 3) := by decide +kernel
theorem dX5_deductFromGroup_154 : decode cX5_deductFromGroup 154 = .ok (.return_, 1) := by decide +kernel
theorem dX5_payFromCovers_0 : decode cX5_payFromCovers 0 = .ok (.iconst 0, 1) := by decide +kernel
theorem dX5_payFromCovers_1 : decode cX5_payFromCovers 1 = .ok (.istore_n 2, 1) := by decide +kernel
theorem dX5_payFromCovers_2 : decode cX5_payFromCovers 2 = .ok (.iload_n 2, 1) := by decide +kernel
theorem dX5_payFromCovers_3 : decode cX5_payFromCovers 3 = .ok (.aload_n 0, 1) := by decide +kernel
theorem dX5_payFromCovers_4 : decode cX5_payFromCovers 4 = .ok (.getfield 12, 3) := by decide +kernel
theorem dX5_payFromCovers_7 : decode cX5_payFromCovers 7 = .ok (.getfield 76, 3) := by decide +kernel
theorem dX5_payFromCovers_10 : decode cX5_payFromCovers 10 = .ok (.if_icmp .ge 63, 3) := by decide +kernel
theorem dX5_payFromCovers_13 : decode cX5_payFromCovers 13 = .ok (.aload_n 0, 1) := by decide +kernel
theorem dX5_payFromCovers_14 : decode cX5_payFromCovers 14 = .ok (.getfield 39, 3) := by decide +kernel
theorem dX5_payFromCovers_17 : decode cX5_payFromCovers 17 = .ok (.iload_n 1, 1) := by decide +kernel
theorem dX5_payFromCovers_18 : decode cX5_payFromCovers 18 = .ok (.aaload, 1) := by decide +kernel
theorem dX5_payFromCovers_19 : decode cX5_payFromCovers 19 = .ok (.iload_n 2, 1) := by decide +kernel
theorem dX5_payFromCovers_20 : decode cX5_payFromCovers 20 = .ok (.aload_n 0, 1) := by decide +kernel
theorem dX5_payFromCovers_21 : decode cX5_payFromCovers 21 = .ok (.getfield 45, 3) := by decide +kernel
theorem dX5_payFromCovers_24 : decode cX5_payFromCovers 24 = .ok (.iload_n 2, 1) := by decide +kernel
theorem dX5_payFromCovers_25 : decode cX5_payFromCovers 25 = .ok (.iaload, 1) := by decide +kernel
theorem dX5_payFromCovers_26 : decode cX5_payFromCovers 26 = .ok (.iastore, 1) := by decide +kernel
theorem dX5_payFromCovers_27 : decode cX5_payFromCovers 27 = .ok (.aload_n 0, 1) := by decide +kernel
theorem dX5_payFromCovers_28 : decode cX5_payFromCovers 28 = .ok (.getfield 42, 3) := by decide +kernel
theorem dX5_payFromCovers_31 : decode cX5_payFromCovers 31 = .ok (.iload_n 1, 1) := by decide +kernel
theorem dX5_payFromCovers_32 : decode cX5_payFromCovers 32 = .ok (.aaload, 1) := by decide +kernel
theorem dX5_payFromCovers_33 : decode cX5_payFromCovers 33 = .ok (.iload_n 2, 1) := by decide +kernel
theorem dX5_payFromCovers_34 : decode cX5_payFromCovers 34 = .ok (.aload_n 0, 1) := by decide +kernel
theorem dX5_payFromCovers_35 : decode cX5_payFromCovers 35 = .ok (.iload_n 1, 1) := by decide +kernel
theorem dX5_payFromCovers_36 : decode cX5_payFromCovers 36 = .ok (.iload_n 2, 1) := by decide +kernel
theorem dX5_payFromCovers_37 : decode cX5_payFromCovers 37 = .ok (.invokevirtual 154, 3) := by decide +kernel
theorem dX5_payFromCovers_40 : decode cX5_payFromCovers 40 = .ok (.aload_n 0, 1) := by decide +kernel
theorem dX5_payFromCovers_41 : decode cX5_payFromCovers 41 = .ok (.getfield 45, 3) := by decide +kernel
theorem dX5_payFromCovers_44 : decode cX5_payFromCovers 44 = .ok (.iload_n 2, 1) := by decide +kernel
theorem dX5_payFromCovers_45 : decode cX5_payFromCovers 45 = .ok (.iaload, 1) := by decide +kernel
theorem dX5_payFromCovers_46 : decode cX5_payFromCovers 46 = .ok (.invokestatic 133, 3) := by decide +kernel
theorem dX5_payFromCovers_49 : decode cX5_payFromCovers 49 = .ok (.iastore, 1) := by decide +kernel
theorem dX5_payFromCovers_50 : decode cX5_payFromCovers 50 = .ok (.aload_n 0, 1) := by decide +kernel
theorem dX5_payFromCovers_51 : decode cX5_payFromCovers 51 = .ok (.getfield 45, 3) := by decide +kernel
theorem dX5_payFromCovers_54 : decode cX5_payFromCovers 54 = .ok (.iload_n 2, 1) := by decide +kernel
theorem dX5_payFromCovers_55 : decode cX5_payFromCovers 55 = .ok (.dup2, 1) := by decide +kernel
theorem dX5_payFromCovers_56 : decode cX5_payFromCovers 56 = .ok (.iaload, 1) := by decide +kernel
theorem dX5_payFromCovers_57 : decode cX5_payFromCovers 57 = .ok (.aload_n 0, 1) := by decide +kernel
theorem dX5_payFromCovers_58 : decode cX5_payFromCovers 58 = .ok (.getfield 42, 3) := by decide +kernel
theorem dX5_payFromCovers_61 : decode cX5_payFromCovers 61 = .ok (.iload_n 1, 1) := by decide +kernel
theorem dX5_payFromCovers_62 : decode cX5_payFromCovers 62 = .ok (.aaload, 1) := by decide +kernel
theorem dX5_payFromCovers_63 : decode cX5_payFromCovers 63 = .ok (.iload_n 2, 1) := by decide +kernel
theorem dX5_payFromCovers_64 : decode cX5_payFromCovers 64 = .ok (.iaload, 1) := by decide +kernel
theorem dX5_payFromCovers_65 : decode cX5_payFromCovers 65 = .ok (.isub, 1) := by decide +kernel
theorem dX5_payFromCovers_66 : decode cX5_payFromCovers 66 = .ok (.iastore, 1) := by decide +kernel
theorem dX5_payFromCovers_67 : decode cX5_payFromCovers 67 = .ok (.iinc 2 1, 3) := by decide +kernel
theorem dX5_payFromCovers_70 : decode cX5_payFromCovers 70 = .ok (.goto (-68), 3) := by decide +kernel
theorem dX5_payFromCovers_73 : decode cX5_payFromCovers 73 = .ok (.return_, 1) := by decide +kernel
theorem dX5_dueFromCover_0 : decode cX5_dueFromCover 0 = .ok (.aload_n 0, 1) := by decide +kernel
theorem dX5_dueFromCover_1 : decode cX5_dueFromCover 1 = .ok (.getfield 33, 3) := by decide +kernel
theorem dX5_dueFromCover_4 : decode cX5_dueFromCover 4 = .ok (.iload_n 1, 1) := by decide +kernel
theorem dX5_dueFromCover_5 : decode cX5_dueFromCover 5 = .ok (.aaload, 1) := by decide +kernel
theorem dX5_dueFromCover_6 : decode cX5_dueFromCover 6 = .ok (.iload_n 2, 1) := by decide +kernel
theorem dX5_dueFromCover_7 : decode cX5_dueFromCover 7 = .ok (.iaload, 1) := by decide +kernel
theorem dX5_dueFromCover_8 : decode cX5_dueFromCover 8 = .ok (.aload_n 0, 1) := by decide +kernel
theorem dX5_dueFromCover_9 : decode cX5_dueFromCover 9 = .ok (.getfield 36, 3) := by decide +kernel
theorem dX5_dueFromCover_12 : decode cX5_dueFromCover 12 = .ok (.iload_n 1, 1) := by decide +kernel
theorem dX5_dueFromCover_13 : decode cX5_dueFromCover 13 = .ok (.aaload, 1) := by decide +kernel
theorem dX5_dueFromCover_14 : decode cX5_dueFromCover 14 = .ok (.iload_n 2, 1) := by decide +kernel
theorem dX5_dueFromCover_15 : decode cX5_dueFromCover 15 = .ok (.iaload, 1) := by decide +kernel
theorem dX5_dueFromCover_16 : decode cX5_dueFromCover 16 = .ok (.isub, 1) := by decide +kernel
theorem dX5_dueFromCover_17 : decode cX5_dueFromCover 17 = .ok (.ireturn, 1) := by decide +kernel
theorem dX5_bearBurden_0 : decode cX5_bearBurden 0 = .ok (.iconst 0, 1) := by decide +kernel
theorem dX5_bearBurden_1 : decode cX5_bearBurden 1 = .ok (.aload_n 0, 1) := by decide +kernel
theorem dX5_bearBurden_2 : decode cX5_bearBurden 2 = .ok (.iload_n 1, 1) := by decide +kernel
theorem dX5_bearBurden_3 : decode cX5_bearBurden 3 = .ok (.invokevirtual 157, 3) := by decide +kernel
theorem dX5_bearBurden_6 : decode cX5_bearBurden 6 = .ok (.aload_n 0, 1) := by decide +kernel
theorem dX5_bearBurden_7 : decode cX5_bearBurden 7 = .ok (.getfield 12, 3) := by decide +kernel
theorem dX5_bearBurden_10 : decode cX5_bearBurden 10 = .ok (.getfield 160, 3) := by decide +kernel
theorem dX5_bearBurden_13 : decode cX5_bearBurden 13 = .ok (.iload_n 1, 1) := by decide +kernel
theorem dX5_bearBurden_14 : decode cX5_bearBurden 14 = .ok (.iaload, 1) := by decide +kernel
theorem dX5_bearBurden_15 : decode cX5_bearBurden 15 = .ok (.isub, 1) := by decide +kernel
theorem dX5_bearBurden_16 : decode cX5_bearBurden 16 = .ok (.invokestatic 163, 3) := by decide +kernel
theorem dX5_bearBurden_19 : decode cX5_bearBurden 19 = .ok (.istore_n 2, 1) := by decide +kernel
theorem dX5_bearBurden_20 : decode cX5_bearBurden 20 = .ok (.iload_n 2, 1) := by decide +kernel
theorem dX5_bearBurden_21 : decode cX5_bearBurden 21 = .ok (.istore_n 3, 1) := by decide +kernel
theorem dX5_bearBurden_22 : decode cX5_bearBurden 22 = .ok (.iconst 0, 1) := by decide +kernel
theorem dX5_bearBurden_23 : decode cX5_bearBurden 23 = .ok (.istore 4, 2) := by decide +kernel
theorem dX5_bearBurden_25 : decode cX5_bearBurden 25 = .ok (.iload 4, 2) := by decide +kernel
theorem dX5_bearBurden_27 : decode cX5_bearBurden 27 = .ok (.aload_n 0, 1) := by decide +kernel
theorem dX5_bearBurden_28 : decode cX5_bearBurden 28 = .ok (.getfield 12, 3) := by decide +kernel
theorem dX5_bearBurden_31 : decode cX5_bearBurden 31 = .ok (.getfield 83, 3) := by decide +kernel
theorem dX5_bearBurden_34 : decode cX5_bearBurden 34 = .ok (.if_icmp .ge 82, 3) := by decide +kernel
theorem dX5_bearBurden_37 : decode cX5_bearBurden 37 = .ok (.iconst 0, 1) := by decide +kernel
theorem dX5_bearBurden_38 : decode cX5_bearBurden 38 = .ok (.iload_n 2, 1) := by decide +kernel
theorem dX5_bearBurden_39 : decode cX5_bearBurden 39 = .ok (.aload_n 0, 1) := by decide +kernel
theorem dX5_bearBurden_40 : decode cX5_bearBurden 40 = .ok (.getfield 12, 3) := by decide +kernel
theorem dX5_bearBurden_43 : decode cX5_bearBurden 43 = .ok (.getfield 166, 3) := by decide +kernel
theorem dX5_bearBurden_46 : decode cX5_bearBurden 46 = .ok (.iload 4, 2) := by decide +kernel
theorem dX5_bearBurden_48 : decode cX5_bearBurden 48 = .ok (.iaload, 1) := by decide +kernel
theorem dX5_bearBurden_49 : decode cX5_bearBurden 49 = .ok (.isub, 1) := by decide +kernel
theorem dX5_bearBurden_50 : decode cX5_bearBurden 50 = .ok (.invokestatic 163, 3) := by decide +kernel
theorem dX5_bearBurden_53 : decode cX5_bearBurden 53 = .ok (.istore 5, 2) := by decide +kernel
theorem dX5_bearBurden_55 : decode cX5_bearBurden 55 = .ok (.iload 5, 2) := by decide +kernel
theorem dX5_bearBurden_57 : decode cX5_bearBurden 57 = .ok (.aload_n 0, 1) := by decide +kernel
theorem dX5_bearBurden_58 : decode cX5_bearBurden 58 = .ok (.getfield 12, 3) := by decide +kernel
theorem dX5_bearBurden_61 : decode cX5_bearBurden 61 = .ok (.getfield 169, 3) := by decide +kernel
theorem dX5_bearBurden_64 : decode cX5_bearBurden 64 = .ok (.iload 4, 2) := by decide +kernel
theorem dX5_bearBurden_66 : decode cX5_bearBurden 66 = .ok (.iaload, 1) := by decide +kernel
theorem dX5_bearBurden_67 : decode cX5_bearBurden 67 = .ok (.invokestatic 133, 3) := by decide +kernel
theorem dX5_bearBurden_70 : decode cX5_bearBurden 70 = .ok (.aload_n 0, 1) := by decide +kernel
theorem dX5_bearBurden_71 : decode cX5_bearBurden 71 = .ok (.getfield 54, 3) := by decide +kernel
theorem dX5_bearBurden_74 : decode cX5_bearBurden 74 = .ok (.iload 4, 2) := by decide +kernel
theorem dX5_bearBurden_76 : decode cX5_bearBurden 76 = .ok (.iaload, 1) := by decide +kernel
theorem dX5_bearBurden_77 : decode cX5_bearBurden 77 = .ok (.invokestatic 133, 3) := by decide +kernel
theorem dX5_bearBurden_80 : decode cX5_bearBurden 80 = .ok (.istore 6, 2) := by decide +kernel
theorem dX5_bearBurden_82 : decode cX5_bearBurden 82 = .ok (.aload_n 0, 1) := by decide +kernel
theorem dX5_bearBurden_83 : decode cX5_bearBurden 83 = .ok (.getfield 51, 3) := by decide +kernel
theorem dX5_bearBurden_86 : decode cX5_bearBurden 86 = .ok (.iload_n 1, 1) := by decide +kernel
theorem dX5_bearBurden_87 : decode cX5_bearBurden 87 = .ok (.aaload, 1) := by decide +kernel
theorem dX5_bearBurden_88 : decode cX5_bearBurden 88 = .ok (.iload 4, 2) := by decide +kernel
theorem dX5_bearBurden_90 : decode cX5_bearBurden 90 = .ok (.iload 6, 2) := by decide +kernel
theorem dX5_bearBurden_92 : decode cX5_bearBurden 92 = .ok (.iastore, 1) := by decide +kernel
theorem dX5_bearBurden_93 : decode cX5_bearBurden 93 = .ok (.aload_n 0, 1) := by decide +kernel
theorem dX5_bearBurden_94 : decode cX5_bearBurden 94 = .ok (.getfield 54, 3) := by decide +kernel
theorem dX5_bearBurden_97 : decode cX5_bearBurden 97 = .ok (.iload 4, 2) := by decide +kernel
theorem dX5_bearBurden_99 : decode cX5_bearBurden 99 = .ok (.dup2, 1) := by decide +kernel
theorem dX5_bearBurden_100 : decode cX5_bearBurden 100 = .ok (.iaload, 1) := by decide +kernel
theorem dX5_bearBurden_101 : decode cX5_bearBurden 101 = .ok (.iload 6, 2) := by decide +kernel
theorem dX5_bearBurden_103 : decode cX5_bearBurden 103 = .ok (.isub, 1) := by decide +kernel
theorem dX5_bearBurden_104 : decode cX5_bearBurden 104 = .ok (.iastore, 1) := by decide +kernel
theorem dX5_bearBurden_105 : decode cX5_bearBurden 105 = .ok (.iload_n 3, 1) := by decide +kernel
theorem dX5_bearBurden_106 : decode cX5_bearBurden 106 = .ok (.iload 6, 2) := by decide +kernel
theorem dX5_bearBurden_108 : decode cX5_bearBurden 108 = .ok (.isub, 1) := by decide +kernel
theorem dX5_bearBurden_109 : decode cX5_bearBurden 109 = .ok (.istore_n 3, 1) := by decide +kernel
theorem dX5_bearBurden_110 : decode cX5_bearBurden 110 = .ok (.iinc 4 1, 3) := by decide +kernel
theorem dX5_bearBurden_113 : decode cX5_bearBurden 113 = .ok (.goto (-88), 3) := by decide +kernel
theorem dX5_bearBurden_116 : decode cX5_bearBurden 116 = .ok (.aload_n 0, 1) := by decide +kernel
theorem dX5_bearBurden_117 : decode cX5_bearBurden 117 = .ok (.getfield 48, 3) := by decide +kernel
theorem dX5_bearBurden_120 : decode cX5_bearBurden 120 = .ok (.iload_n 1, 1) := by decide +kernel
theorem dX5_bearBurden_121 : decode cX5_bearBurden 121 = .ok (.iload_n 2, 1) := by decide +kernel
theorem dX5_bearBurden_122 : decode cX5_bearBurden 122 = .ok (.iastore, 1) := by decide +kernel
theorem dX5_bearBurden_123 : decode cX5_bearBurden 123 = .ok (.aload_n 0, 1) := by decide +kernel
theorem dX5_bearBurden_124 : decode cX5_bearBurden 124 = .ok (.getfield 57, 3) := by decide +kernel
theorem dX5_bearBurden_127 : decode cX5_bearBurden 127 = .ok (.iload_n 1, 1) := by decide +kernel
theorem dX5_bearBurden_128 : decode cX5_bearBurden 128 = .ok (.iload_n 3, 1) := by decide +kernel
theorem dX5_bearBurden_129 : decode cX5_bearBurden 129 = .ok (.iastore, 1) := by decide +kernel
theorem dX5_bearBurden_130 : decode cX5_bearBurden 130 = .ok (.return_, 1) := by decide +kernel
theorem dX5_payClaims_0 : decode cX5_payClaims 0 = .ok (.iconst 0, 1) := by decide +kernel
theorem dX5_payClaims_1 : decode cX5_payClaims 1 = .ok (.istore_n 3, 1) := by decide +kernel
theorem dX5_payClaims_2 : decode cX5_payClaims 2 = .ok (.iload_n 3, 1) := by decide +kernel
theorem dX5_payClaims_3 : decode cX5_payClaims 3 = .ok (.aload_n 0, 1) := by decide +kernel
theorem dX5_payClaims_4 : decode cX5_payClaims 4 = .ok (.getfield 12, 3) := by decide +kernel
theorem dX5_payClaims_7 : decode cX5_payClaims 7 = .ok (.getfield 110, 3) := by decide +kernel
theorem dX5_payClaims_10 : decode cX5_payClaims 10 = .ok (.if_icmp .ge 38, 3) := by decide +kernel
theorem dX5_payClaims_13 : decode cX5_payClaims 13 = .ok (.aload_n 0, 1) := by decide +kernel
theorem dX5_payClaims_14 : decode cX5_payClaims 14 = .ok (.getfield 66, 3) := by decide +kernel
theorem dX5_payClaims_17 : decode cX5_payClaims 17 = .ok (.getfield 139, 3) := by decide +kernel
theorem dX5_payClaims_20 : decode cX5_payClaims 20 = .ok (.iload_n 3, 1) := by decide +kernel
theorem dX5_payClaims_21 : decode cX5_payClaims 21 = .ok (.aload_n 0, 1) := by decide +kernel
theorem dX5_payClaims_22 : decode cX5_payClaims 22 = .ok (.iload_n 3, 1) := by decide +kernel
theorem dX5_payClaims_23 : decode cX5_payClaims 23 = .ok (.iload_n 1, 1) := by decide +kernel
theorem dX5_payClaims_24 : decode cX5_payClaims 24 = .ok (.iload_n 2, 1) := by decide +kernel
theorem dX5_payClaims_25 : decode cX5_payClaims 25 = .ok (.invokevirtual 172, 3) := by decide +kernel
theorem dX5_payClaims_28 : decode cX5_payClaims 28 = .ok (.ifCond .eq 12, 3) := by decide +kernel
theorem dX5_payClaims_31 : decode cX5_payClaims 31 = .ok (.aload_n 0, 1) := by decide +kernel
theorem dX5_payClaims_32 : decode cX5_payClaims 32 = .ok (.getfield 25, 3) := by decide +kernel
theorem dX5_payClaims_35 : decode cX5_payClaims 35 = .ok (.iload_n 3, 1) := by decide +kernel
theorem dX5_payClaims_36 : decode cX5_payClaims 36 = .ok (.iaload, 1) := by decide +kernel
theorem dX5_payClaims_37 : decode cX5_payClaims 37 = .ok (.goto 4, 3) := by decide +kernel
theorem dX5_payClaims_40 : decode cX5_payClaims 40 = .ok (.iconst 0, 1) := by decide +kernel
theorem dX5_payClaims_41 : decode cX5_payClaims 41 = .ok (.iastore, 1) := by decide +kernel
theorem dX5_payClaims_42 : decode cX5_payClaims 42 = .ok (.iinc 3 1, 3) := by decide +kernel
theorem dX5_payClaims_45 : decode cX5_payClaims 45 = .ok (.goto (-43), 3) := by decide +kernel
theorem dX5_payClaims_48 : decode cX5_payClaims 48 = .ok (.aload_n 0, 1) := by decide +kernel
theorem dX5_payClaims_49 : decode cX5_payClaims 49 = .ok (.getfield 66, 3) := by decide +kernel
theorem dX5_payClaims_52 : decode cX5_payClaims 52 = .ok (.aload_n 0, 1) := by decide +kernel
theorem dX5_payClaims_53 : decode cX5_payClaims 53 = .ok (.getfield 42, 3) := by decide +kernel
theorem dX5_payClaims_56 : decode cX5_payClaims 56 = .ok (.iload_n 1, 1) := by decide +kernel
theorem dX5_payClaims_57 : decode cX5_payClaims 57 = .ok (.aaload, 1) := by decide +kernel
theorem dX5_payClaims_58 : decode cX5_payClaims 58 = .ok (.iload_n 2, 1) := by decide +kernel
theorem dX5_payClaims_59 : decode cX5_payClaims 59 = .ok (.iaload, 1) := by decide +kernel
theorem dX5_payClaims_60 : decode cX5_payClaims 60 = .ok (.aload_n 0, 1) := by decide +kernel
theorem dX5_payClaims_61 : decode cX5_payClaims 61 = .ok (.getfield 12, 3) := by decide +kernel
theorem dX5_payClaims_64 : decode cX5_payClaims 64 = .ok (.getfield 110, 3) := by decide +kernel
theorem dX5_payClaims_67 : decode cX5_payClaims 67 = .ok (.invokevirtual 148, 3) := by decide +kernel
theorem dX5_payClaims_70 : decode cX5_payClaims 70 = .ok (.iconst 0, 1) := by decide +kernel
theorem dX5_payClaims_71 : decode cX5_payClaims 71 = .ok (.istore_n 3, 1) := by decide +kernel
theorem dX5_payClaims_72 : decode cX5_payClaims 72 = .ok (.iload_n 3, 1) := by decide +kernel
theorem dX5_payClaims_73 : decode cX5_payClaims 73 = .ok (.aload_n 0, 1) := by decide +kernel
theorem dX5_payClaims_74 : decode cX5_payClaims 74 = .ok (.getfield 12, 3) := by decide +kernel
theorem dX5_payClaims_77 : decode cX5_payClaims 77 = .ok (.getfield 110, 3) := by decide +kernel
theorem dX5_payClaims_80 : decode cX5_payClaims 80 = .ok (.if_icmp .ge 34, 3) := by decide +kernel
theorem dX5_payClaims_83 : decode cX5_payClaims 83 = .ok (.aload_n 0, 1) := by decide +kernel
theorem dX5_payClaims_84 : decode cX5_payClaims 84 = .ok (.iload_n 3, 1) := by decide +kernel
theorem dX5_payClaims_85 : decode cX5_payClaims 85 = .ok (.iload_n 1, 1) := by decide +kernel
theorem dX5_payClaims_86 : decode cX5_payClaims 86 = .ok (.iload_n 2, 1) := by decide +kernel
theorem dX5_payClaims_87 : decode cX5_payClaims 87 = .ok (.invokevirtual 172, 3) := by decide +kernel
theorem dX5_payClaims_90 : decode cX5_payClaims 90 = .ok (.ifCond .eq 18, 3) := by decide +kernel
theorem dX5_payClaims_93 : decode cX5_payClaims 93 = .ok (.aload_n 0, 1) := by decide +kernel
theorem dX5_payClaims_94 : decode cX5_payClaims 94 = .ok (.getfield 60, 3) := by decide +kernel
theorem dX5_payClaims_97 : decode cX5_payClaims 97 = .ok (.iload_n 3, 1) := by decide +kernel
theorem dX5_payClaims_98 : decode cX5_payClaims 98 = .ok (.aload_n 0, 1) := by decide +kernel
theorem dX5_payClaims_99 : decode cX5_payClaims 99 = .ok (.getfield 66, 3) := by decide +kernel
theorem dX5_payClaims_102 : decode cX5_payClaims 102 = .ok (.getfield 151, 3) := by decide +kernel
theorem dX5_payClaims_105 : decode cX5_payClaims 105 = .ok (.iload_n 3, 1) := by decide +kernel
theorem dX5_payClaims_106 : decode cX5_payClaims 106 = .ok (.iaload, 1) := by decide +kernel
theorem dX5_payClaims_107 : decode cX5_payClaims 107 = .ok (.iastore, 1) := by decide +kernel
theorem dX5_payClaims_108 : decode cX5_payClaims 108 = .ok (.iinc 3 1, 3) := by decide +kernel
theorem dX5_payClaims_111 : decode cX5_payClaims 111 = .ok (.goto (-39), 3) := by decide +kernel
theorem dX5_payClaims_114 : decode cX5_payClaims 114 = .ok (.return_, 1) := by decide +kernel
theorem dX5_isClaimOf_0 : decode cX5_isClaimOf 0 = .ok (.aload_n 0, 1) := by decide +kernel
theorem dX5_isClaimOf_1 : decode cX5_isClaimOf 1 = .ok (.getfield 12, 3) := by decide +kernel
theorem dX5_isClaimOf_4 : decode cX5_isClaimOf 4 = .ok (.getfield 113, 3) := by decide +kernel
theorem dX5_isClaimOf_7 : decode cX5_isClaimOf 7 = .ok (.iload_n 1, 1) := by decide +kernel
theorem dX5_isClaimOf_8 : decode cX5_isClaimOf 8 = .ok (.iaload, 1) := by decide +kernel
theorem dX5_isClaimOf_9 : decode cX5_isClaimOf 9 = .ok (.iload_n 2, 1) := by decide +kernel
theorem dX5_isClaimOf_10 : decode cX5_isClaimOf 10 = .ok (.if_icmp .ne 20, 3) := by decide +kernel
theorem dX5_isClaimOf_13 : decode cX5_isClaimOf 13 = .ok (.aload_n 0, 1) := by decide +kernel
theorem dX5_isClaimOf_14 : decode cX5_isClaimOf 14 = .ok (.getfield 12, 3) := by decide +kernel
theorem dX5_isClaimOf_17 : decode cX5_isClaimOf 17 = .ok (.getfield 123, 3) := by decide +kernel
theorem dX5_isClaimOf_20 : decode cX5_isClaimOf 20 = .ok (.iload_n 1, 1) := by decide +kernel
theorem dX5_isClaimOf_21 : decode cX5_isClaimOf 21 = .ok (.iaload, 1) := by decide +kernel
theorem dX5_isClaimOf_22 : decode cX5_isClaimOf 22 = .ok (.iload_n 3, 1) := by decide +kernel
theorem dX5_isClaimOf_23 : decode cX5_isClaimOf 23 = .ok (.if_icmp .ne 7, 3) := by decide +kernel
theorem dX5_isClaimOf_26 : decode cX5_isClaimOf 26 = .ok (.iconst 1, 1) := by decide +kernel
theorem dX5_isClaimOf_27 : decode cX5_isClaimOf 27 = .ok (.goto 4, 3) := by decide +kernel
theorem dX5_isClaimOf_30 : decode cX5_isClaimOf 30 = .ok (.iconst 0, 1) := by decide +kernel
theorem dX5_isClaimOf_31 : decode cX5_isClaimOf 31 = .ok (.ireturn, 1) := by decide +kernel
theorem dX5_reasonOfClaim_0 : decode cX5_reasonOfClaim 0 = .ok (.aload_n 0, 1) := by decide +kernel
theorem dX5_reasonOfClaim_1 : decode cX5_reasonOfClaim 1 = .ok (.getfield 12, 3) := by decide +kernel
theorem dX5_reasonOfClaim_4 : decode cX5_reasonOfClaim 4 = .ok (.getfield 113, 3) := by decide +kernel
theorem dX5_reasonOfClaim_7 : decode cX5_reasonOfClaim 7 = .ok (.iload_n 1, 1) := by decide +kernel
theorem dX5_reasonOfClaim_8 : decode cX5_reasonOfClaim 8 = .ok (.iaload, 1) := by decide +kernel
theorem dX5_reasonOfClaim_9 : decode cX5_reasonOfClaim 9 = .ok (.istore_n 2, 1) := by decide +kernel
theorem dX5_reasonOfClaim_10 : decode cX5_reasonOfClaim 10 = .ok (.aload_n 0, 1) := by decide +kernel
theorem dX5_reasonOfClaim_11 : decode cX5_reasonOfClaim 11 = .ok (.getfield 12, 3) := by decide +kernel
theorem dX5_reasonOfClaim_14 : decode cX5_reasonOfClaim 14 = .ok (.getfield 123, 3) := by decide +kernel
theorem dX5_reasonOfClaim_17 : decode cX5_reasonOfClaim 17 = .ok (.iload_n 1, 1) := by decide +kernel
theorem dX5_reasonOfClaim_18 : decode cX5_reasonOfClaim 18 = .ok (.iaload, 1) := by decide +kernel
theorem dX5_reasonOfClaim_19 : decode cX5_reasonOfClaim 19 = .ok (.istore_n 3, 1) := by decide +kernel
theorem dX5_reasonOfClaim_20 : decode cX5_reasonOfClaim 20 = .ok (.aload_n 0, 1) := by decide +kernel
theorem dX5_reasonOfClaim_21 : decode cX5_reasonOfClaim 21 = .ok (.getfield 60, 3) := by decide +kernel
theorem dX5_reasonOfClaim_24 : decode cX5_reasonOfClaim 24 = .ok (.iload_n 1, 1) := by decide +kernel
theorem dX5_reasonOfClaim_25 : decode cX5_reasonOfClaim 25 = .ok (.iaload, 1) := by decide +kernel
theorem dX5_reasonOfClaim_26 : decode cX5_reasonOfClaim 26 = .ok (.ifCond .ne 20, 3) := by decide +kernel
theorem dX5_reasonOfClaim_29 : decode cX5_reasonOfClaim 29 = .ok (.aload_n 0, 1) := by decide +kernel
theorem dX5_reasonOfClaim_30 : decode cX5_reasonOfClaim 30 = .ok (.getfield 39, 3) := by decide +kernel
theorem dX5_reasonOfClaim_33 : decode cX5_reasonOfClaim 33 = .ok (.iload_n 2, 1) := by decide +kernel
theorem dX5_reasonOfClaim_34 : decode cX5_reasonOfClaim 34 = .ok (.aaload, 1) := by decide +kernel
theorem dX5_reasonOfClaim_35 : decode cX5_reasonOfClaim 35 = .ok (.iload_n 3, 1) := by decide +kernel
theorem dX5_reasonOfClaim_36 : decode cX5_reasonOfClaim 36 = .ok (.iaload, 1) := by decide +kernel
theorem dX5_reasonOfClaim_37 : decode cX5_reasonOfClaim 37 = .ok (.ifCond .ne 7, 3) := by decide +kernel
theorem dX5_reasonOfClaim_40 : decode cX5_reasonOfClaim 40 = .ok (.iconst 1, 1) := by decide +kernel
theorem dX5_reasonOfClaim_41 : decode cX5_reasonOfClaim 41 = .ok (.goto 4, 3) := by decide +kernel
theorem dX5_reasonOfClaim_44 : decode cX5_reasonOfClaim 44 = .ok (.iconst 2, 1) := by decide +kernel
theorem dX5_reasonOfClaim_45 : decode cX5_reasonOfClaim 45 = .ok (.ireturn, 1) := by decide +kernel
theorem dX5_reasonOfClaim_46 : decode cX5_reasonOfClaim 46 = .ok (.aload_n 0, 1) := by decide +kernel
theorem dX5_reasonOfClaim_47 : decode cX5_reasonOfClaim 47 = .ok (.getfield 42, 3) := by decide +kernel
theorem dX5_reasonOfClaim_50 : decode cX5_reasonOfClaim 50 = .ok (.iload_n 2, 1) := by decide +kernel
theorem dX5_reasonOfClaim_51 : decode cX5_reasonOfClaim 51 = .ok (.aaload, 1) := by decide +kernel
theorem dX5_reasonOfClaim_52 : decode cX5_reasonOfClaim 52 = .ok (.iload_n 3, 1) := by decide +kernel
theorem dX5_reasonOfClaim_53 : decode cX5_reasonOfClaim 53 = .ok (.iaload, 1) := by decide +kernel
theorem dX5_reasonOfClaim_54 : decode cX5_reasonOfClaim 54 = .ok (.aload_n 0, 1) := by decide +kernel
theorem dX5_reasonOfClaim_55 : decode cX5_reasonOfClaim 55 = .ok (.iload_n 2, 1) := by decide +kernel
theorem dX5_reasonOfClaim_56 : decode cX5_reasonOfClaim 56 = .ok (.iload_n 3, 1) := by decide +kernel
theorem dX5_reasonOfClaim_57 : decode cX5_reasonOfClaim 57 = .ok (.invokevirtual 154, 3) := by decide +kernel
theorem dX5_reasonOfClaim_60 : decode cX5_reasonOfClaim 60 = .ok (.if_icmp .ge 5, 3) := by decide +kernel
theorem dX5_reasonOfClaim_63 : decode cX5_reasonOfClaim 63 = .ok (.iconst 3, 1) := by decide +kernel
theorem dX5_reasonOfClaim_64 : decode cX5_reasonOfClaim 64 = .ok (.ireturn, 1) := by decide +kernel
theorem dX5_reasonOfClaim_65 : decode cX5_reasonOfClaim 65 = .ok (.aload_n 0, 1) := by decide +kernel
theorem dX5_reasonOfClaim_66 : decode cX5_reasonOfClaim 66 = .ok (.getfield 33, 3) := by decide +kernel
theorem dX5_reasonOfClaim_69 : decode cX5_reasonOfClaim 69 = .ok (.iload_n 2, 1) := by decide +kernel
theorem dX5_reasonOfClaim_70 : decode cX5_reasonOfClaim 70 = .ok (.aaload, 1) := by decide +kernel
theorem dX5_reasonOfClaim_71 : decode cX5_reasonOfClaim 71 = .ok (.iload_n 3, 1) := by decide +kernel
theorem dX5_reasonOfClaim_72 : decode cX5_reasonOfClaim 72 = .ok (.iaload, 1) := by decide +kernel
theorem dX5_reasonOfClaim_73 : decode cX5_reasonOfClaim 73 = .ok (.aload_n 0, 1) := by decide +kernel
theorem dX5_reasonOfClaim_74 : decode cX5_reasonOfClaim 74 = .ok (.getfield 30, 3) := by decide +kernel
theorem dX5_reasonOfClaim_77 : decode cX5_reasonOfClaim 77 = .ok (.iload_n 2, 1) := by decide +kernel
theorem dX5_reasonOfClaim_78 : decode cX5_reasonOfClaim 78 = .ok (.aaload, 1) := by decide +kernel
theorem dX5_reasonOfClaim_79 : decode cX5_reasonOfClaim 79 = .ok (.iload_n 3, 1) := by decide +kernel
theorem dX5_reasonOfClaim_80 : decode cX5_reasonOfClaim 80 = .ok (.iaload, 1) := by decide +kernel
theorem dX5_reasonOfClaim_81 : decode cX5_reasonOfClaim 81 = .ok (.if_icmp .ge 5, 3) := by decide +kernel
theorem dX5_reasonOfClaim_84 : decode cX5_reasonOfClaim 84 = .ok (.iconst 4, 1) := by decide +kernel
theorem dX5_reasonOfClaim_85 : decode cX5_reasonOfClaim 85 = .ok (.ireturn, 1) := by decide +kernel
theorem dX5_reasonOfClaim_86 : decode cX5_reasonOfClaim 86 = .ok (.aload_n 0, 1) := by decide +kernel
theorem dX5_reasonOfClaim_87 : decode cX5_reasonOfClaim 87 = .ok (.getfield 36, 3) := by decide +kernel
theorem dX5_reasonOfClaim_90 : decode cX5_reasonOfClaim 90 = .ok (.iload_n 2, 1) := by decide +kernel
theorem dX5_reasonOfClaim_91 : decode cX5_reasonOfClaim 91 = .ok (.aaload, 1) := by decide +kernel
theorem dX5_reasonOfClaim_92 : decode cX5_reasonOfClaim 92 = .ok (.iload_n 3, 1) := by decide +kernel
theorem dX5_reasonOfClaim_93 : decode cX5_reasonOfClaim 93 = .ok (.iaload, 1) := by decide +kernel
theorem dX5_reasonOfClaim_94 : decode cX5_reasonOfClaim 94 = .ok (.ifCond .le 7, 3) := by decide +kernel
theorem dX5_reasonOfClaim_97 : decode cX5_reasonOfClaim 97 = .ok (.iconst 5, 1) := by decide +kernel
theorem dX5_reasonOfClaim_98 : decode cX5_reasonOfClaim 98 = .ok (.goto 4, 3) := by decide +kernel
theorem dX5_reasonOfClaim_101 : decode cX5_reasonOfClaim 101 = .ok (.iconst 0, 1) := by decide +kernel
theorem dX5_reasonOfClaim_102 : decode cX5_reasonOfClaim 102 = .ok (.ireturn, 1) := by decide +kernel
theorem dX5_partOfBurden_0 : decode cX5_partOfBurden 0 = .ok (.iload_n 2, 1) := by decide +kernel
theorem dX5_partOfBurden_1 : decode cX5_partOfBurden 1 = .ok (.aload_n 0, 1) := by decide +kernel
theorem dX5_partOfBurden_2 : decode cX5_partOfBurden 2 = .ok (.getfield 12, 3) := by decide +kernel
theorem dX5_partOfBurden_5 : decode cX5_partOfBurden 5 = .ok (.getfield 83, 3) := by decide +kernel
theorem dX5_partOfBurden_8 : decode cX5_partOfBurden 8 = .ok (.if_icmp .ge 14, 3) := by decide +kernel
theorem dX5_partOfBurden_11 : decode cX5_partOfBurden 11 = .ok (.aload_n 0, 1) := by decide +kernel
theorem dX5_partOfBurden_12 : decode cX5_partOfBurden 12 = .ok (.getfield 51, 3) := by decide +kernel
theorem dX5_partOfBurden_15 : decode cX5_partOfBurden 15 = .ok (.iload_n 1, 1) := by decide +kernel
theorem dX5_partOfBurden_16 : decode cX5_partOfBurden 16 = .ok (.aaload, 1) := by decide +kernel
theorem dX5_partOfBurden_17 : decode cX5_partOfBurden 17 = .ok (.iload_n 2, 1) := by decide +kernel
theorem dX5_partOfBurden_18 : decode cX5_partOfBurden 18 = .ok (.iaload, 1) := by decide +kernel
theorem dX5_partOfBurden_19 : decode cX5_partOfBurden 19 = .ok (.goto 9, 3) := by decide +kernel
theorem dX5_partOfBurden_22 : decode cX5_partOfBurden 22 = .ok (.aload_n 0, 1) := by decide +kernel
theorem dX5_partOfBurden_23 : decode cX5_partOfBurden 23 = .ok (.getfield 57, 3) := by decide +kernel
theorem dX5_partOfBurden_26 : decode cX5_partOfBurden 26 = .ok (.iload_n 1, 1) := by decide +kernel
theorem dX5_partOfBurden_27 : decode cX5_partOfBurden 27 = .ok (.iaload, 1) := by decide +kernel
theorem dX5_partOfBurden_28 : decode cX5_partOfBurden 28 = .ok (.ireturn, 1) := by decide +kernel
theorem dX5_lossOfEvent_0 : decode cX5_lossOfEvent 0 = .ok (.aload_n 0, 1) := by decide +kernel
theorem dX5_lossOfEvent_1 : decode cX5_lossOfEvent 1 = .ok (.getfield 30, 3) := by decide +kernel
theorem dX5_lossOfEvent_4 : decode cX5_lossOfEvent 4 = .ok (.iload_n 1, 1) := by decide +kernel
theorem dX5_lossOfEvent_5 : decode cX5_lossOfEvent 5 = .ok (.aaload, 1) := by decide +kernel
theorem dX5_lossOfEvent_6 : decode cX5_lossOfEvent 6 = .ok (.aload_n 0, 1) := by decide +kernel
theorem dX5_lossOfEvent_7 : decode cX5_lossOfEvent 7 = .ok (.getfield 12, 3) := by decide +kernel
theorem dX5_lossOfEvent_10 : decode cX5_lossOfEvent 10 = .ok (.getfield 76, 3) := by decide +kernel
theorem dX5_lossOfEvent_13 : decode cX5_lossOfEvent 13 = .ok (.invokestatic 176, 3) := by decide +kernel
theorem dX5_lossOfEvent_16 : decode cX5_lossOfEvent 16 = .ok (.ireturn, 1) := by decide +kernel
theorem dX5_paidForEvent_0 : decode cX5_paidForEvent 0 = .ok (.aload_n 0, 1) := by decide +kernel
theorem dX5_paidForEvent_1 : decode cX5_paidForEvent 1 = .ok (.getfield 42, 3) := by decide +kernel
theorem dX5_paidForEvent_4 : decode cX5_paidForEvent 4 = .ok (.iload_n 1, 1) := by decide +kernel
theorem dX5_paidForEvent_5 : decode cX5_paidForEvent 5 = .ok (.aaload, 1) := by decide +kernel
theorem dX5_paidForEvent_6 : decode cX5_paidForEvent 6 = .ok (.aload_n 0, 1) := by decide +kernel
theorem dX5_paidForEvent_7 : decode cX5_paidForEvent 7 = .ok (.getfield 12, 3) := by decide +kernel
theorem dX5_paidForEvent_10 : decode cX5_paidForEvent 10 = .ok (.getfield 76, 3) := by decide +kernel
theorem dX5_paidForEvent_13 : decode cX5_paidForEvent 13 = .ok (.invokestatic 176, 3) := by decide +kernel
theorem dX5_paidForEvent_16 : decode cX5_paidForEvent 16 = .ok (.ireturn, 1) := by decide +kernel
theorem dX5_claimedFromCover_0 : decode cX5_claimedFromCover 0 = .ok (.iconst 0, 1) := by decide +kernel
theorem dX5_claimedFromCover_1 : decode cX5_claimedFromCover 1 = .ok (.istore_n 2, 1) := by decide +kernel
theorem dX5_claimedFromCover_2 : decode cX5_claimedFromCover 2 = .ok (.iconst 0, 1) := by decide +kernel
theorem dX5_claimedFromCover_3 : decode cX5_claimedFromCover 3 = .ok (.istore_n 3, 1) := by decide +kernel
theorem dX5_claimedFromCover_4 : decode cX5_claimedFromCover 4 = .ok (.iload_n 3, 1) := by decide +kernel
theorem dX5_claimedFromCover_5 : decode cX5_claimedFromCover 5 = .ok (.aload_n 0, 1) := by decide +kernel
theorem dX5_claimedFromCover_6 : decode cX5_claimedFromCover 6 = .ok (.getfield 12, 3) := by decide +kernel
theorem dX5_claimedFromCover_9 : decode cX5_claimedFromCover 9 = .ok (.getfield 90, 3) := by decide +kernel
theorem dX5_claimedFromCover_12 : decode cX5_claimedFromCover 12 = .ok (.if_icmp .ge 18, 3) := by decide +kernel
theorem dX5_claimedFromCover_15 : decode cX5_claimedFromCover 15 = .ok (.iload_n 2, 1) := by decide +kernel
theorem dX5_claimedFromCover_16 : decode cX5_claimedFromCover 16 = .ok (.aload_n 0, 1) := by decide +kernel
theorem dX5_claimedFromCover_17 : decode cX5_claimedFromCover 17 = .ok (.iload_n 3, 1) := by decide +kernel
theorem dX5_claimedFromCover_18 : decode cX5_claimedFromCover 18 = .ok (.iload_n 1, 1) := by decide +kernel
theorem dX5_claimedFromCover_19 : decode cX5_claimedFromCover 19 = .ok (.invokevirtual 154, 3) := by decide +kernel
theorem dX5_claimedFromCover_22 : decode cX5_claimedFromCover 22 = .ok (.iadd, 1) := by decide +kernel
theorem dX5_claimedFromCover_23 : decode cX5_claimedFromCover 23 = .ok (.istore_n 2, 1) := by decide +kernel
theorem dX5_claimedFromCover_24 : decode cX5_claimedFromCover 24 = .ok (.iinc 3 1, 3) := by decide +kernel
theorem dX5_claimedFromCover_27 : decode cX5_claimedFromCover 27 = .ok (.goto (-23), 3) := by decide +kernel
theorem dX5_claimedFromCover_30 : decode cX5_claimedFromCover 30 = .ok (.iload_n 2, 1) := by decide +kernel
theorem dX5_claimedFromCover_31 : decode cX5_claimedFromCover 31 = .ok (.ireturn, 1) := by decide +kernel
theorem dX5_capacityOfLayer_0 : decode cX5_capacityOfLayer 0 = .ok (.aload_n 0, 1) := by decide +kernel
theorem dX5_capacityOfLayer_1 : decode cX5_capacityOfLayer 1 = .ok (.getfield 12, 3) := by decide +kernel
theorem dX5_capacityOfLayer_4 : decode cX5_capacityOfLayer 4 = .ok (.getfield 169, 3) := by decide +kernel
theorem dX5_capacityOfLayer_7 : decode cX5_capacityOfLayer 7 = .ok (.iload_n 1, 1) := by decide +kernel
theorem dX5_capacityOfLayer_8 : decode cX5_capacityOfLayer 8 = .ok (.iaload, 1) := by decide +kernel
theorem dX5_capacityOfLayer_9 : decode cX5_capacityOfLayer 9 = .ok (.aload_n 0, 1) := by decide +kernel
theorem dX5_capacityOfLayer_10 : decode cX5_capacityOfLayer 10 = .ok (.getfield 12, 3) := by decide +kernel
theorem dX5_capacityOfLayer_13 : decode cX5_capacityOfLayer 13 = .ok (.getfield 180, 3) := by decide +kernel
theorem dX5_capacityOfLayer_16 : decode cX5_capacityOfLayer 16 = .ok (.iload_n 1, 1) := by decide +kernel
theorem dX5_capacityOfLayer_17 : decode cX5_capacityOfLayer 17 = .ok (.iaload, 1) := by decide +kernel
theorem dX5_capacityOfLayer_18 : decode cX5_capacityOfLayer 18 = .ok (.iconst 1, 1) := by decide +kernel
theorem dX5_capacityOfLayer_19 : decode cX5_capacityOfLayer 19 = .ok (.iadd, 1) := by decide +kernel
theorem dX5_capacityOfLayer_20 : decode cX5_capacityOfLayer 20 = .ok (.imul, 1) := by decide +kernel
theorem dX5_capacityOfLayer_21 : decode cX5_capacityOfLayer 21 = .ok (.ireturn, 1) := by decide +kernel
theorem dX5_borneByLayer_0 : decode cX5_borneByLayer 0 = .ok (.aload_n 0, 1) := by decide +kernel
theorem dX5_borneByLayer_1 : decode cX5_borneByLayer 1 = .ok (.iload_n 1, 1) := by decide +kernel
theorem dX5_borneByLayer_2 : decode cX5_borneByLayer 2 = .ok (.invokevirtual 86, 3) := by decide +kernel
theorem dX5_borneByLayer_5 : decode cX5_borneByLayer 5 = .ok (.aload_n 0, 1) := by decide +kernel
theorem dX5_borneByLayer_6 : decode cX5_borneByLayer 6 = .ok (.getfield 54, 3) := by decide +kernel
theorem dX5_borneByLayer_9 : decode cX5_borneByLayer 9 = .ok (.iload_n 1, 1) := by decide +kernel
theorem dX5_borneByLayer_10 : decode cX5_borneByLayer 10 = .ok (.iaload, 1) := by decide +kernel
theorem dX5_borneByLayer_11 : decode cX5_borneByLayer 11 = .ok (.isub, 1) := by decide +kernel
theorem dX5_borneByLayer_12 : decode cX5_borneByLayer 12 = .ok (.ireturn, 1) := by decide +kernel
theorem dX5_reinstatedAmount_0 : decode cX5_reinstatedAmount 0 = .ok (.aload_n 0, 1) := by decide +kernel
theorem dX5_reinstatedAmount_1 : decode cX5_reinstatedAmount 1 = .ok (.iload_n 1, 1) := by decide +kernel
theorem dX5_reinstatedAmount_2 : decode cX5_reinstatedAmount 2 = .ok (.invokevirtual 183, 3) := by decide +kernel
theorem dX5_reinstatedAmount_5 : decode cX5_reinstatedAmount 5 = .ok (.aload_n 0, 1) := by decide +kernel
theorem dX5_reinstatedAmount_6 : decode cX5_reinstatedAmount 6 = .ok (.getfield 12, 3) := by decide +kernel
theorem dX5_reinstatedAmount_9 : decode cX5_reinstatedAmount 9 = .ok (.getfield 169, 3) := by decide +kernel
theorem dX5_reinstatedAmount_12 : decode cX5_reinstatedAmount 12 = .ok (.iload_n 1, 1) := by decide +kernel
theorem dX5_reinstatedAmount_13 : decode cX5_reinstatedAmount 13 = .ok (.iaload, 1) := by decide +kernel
theorem dX5_reinstatedAmount_14 : decode cX5_reinstatedAmount 14 = .ok (.aload_n 0, 1) := by decide +kernel
theorem dX5_reinstatedAmount_15 : decode cX5_reinstatedAmount 15 = .ok (.getfield 12, 3) := by decide +kernel
theorem dX5_reinstatedAmount_18 : decode cX5_reinstatedAmount 18 = .ok (.getfield 180, 3) := by decide +kernel
theorem dX5_reinstatedAmount_21 : decode cX5_reinstatedAmount 21 = .ok (.iload_n 1, 1) := by decide +kernel
theorem dX5_reinstatedAmount_22 : decode cX5_reinstatedAmount 22 = .ok (.iaload, 1) := by decide +kernel
theorem dX5_reinstatedAmount_23 : decode cX5_reinstatedAmount 23 = .ok (.imul, 1) := by decide +kernel
theorem dX5_reinstatedAmount_24 : decode cX5_reinstatedAmount 24 = .ok (.invokestatic 133, 3) := by decide +kernel
theorem dX5_reinstatedAmount_27 : decode cX5_reinstatedAmount 27 = .ok (.ireturn, 1) := by decide +kernel
theorem dX5_reinstatementPremium_0 : decode cX5_reinstatementPremium 0 = .ok (.aload_n 0, 1) := by decide +kernel
theorem dX5_reinstatementPremium_1 : decode cX5_reinstatementPremium 1 = .ok (.getfield 12, 3) := by decide +kernel
theorem dX5_reinstatementPremium_4 : decode cX5_reinstatementPremium 4 = .ok (.getfield 186, 3) := by decide +kernel
theorem dX5_reinstatementPremium_7 : decode cX5_reinstatementPremium 7 = .ok (.iload_n 1, 1) := by decide +kernel
theorem dX5_reinstatementPremium_8 : decode cX5_reinstatementPremium 8 = .ok (.iaload, 1) := by decide +kernel
theorem dX5_reinstatementPremium_9 : decode cX5_reinstatementPremium 9 = .ok (.i2l, 1) := by decide +kernel
theorem dX5_reinstatementPremium_10 : decode cX5_reinstatementPremium 10 = .ok (.aload_n 0, 1) := by decide +kernel
theorem dX5_reinstatementPremium_11 : decode cX5_reinstatementPremium 11 = .ok (.iload_n 1, 1) := by decide +kernel
theorem dX5_reinstatementPremium_12 : decode cX5_reinstatementPremium 12 = .ok (.invokevirtual 189, 3) := by decide +kernel
theorem dX5_reinstatementPremium_15 : decode cX5_reinstatementPremium 15 = .ok (.i2l, 1) := by decide +kernel
theorem dX5_reinstatementPremium_16 : decode cX5_reinstatementPremium 16 = .ok (.lmul, 1) := by decide +kernel
theorem dX5_reinstatementPremium_17 : decode cX5_reinstatementPremium 17 = .ok (.lstore_n 2, 1) := by decide +kernel
theorem dX5_reinstatementPremium_18 : decode cX5_reinstatementPremium 18 = .ok (.lload_n 2, 1) := by decide +kernel
theorem dX5_reinstatementPremium_19 : decode cX5_reinstatementPremium 19 = .ok (.aload_n 0, 1) := by decide +kernel
theorem dX5_reinstatementPremium_20 : decode cX5_reinstatementPremium 20 = .ok (.getfield 12, 3) := by decide +kernel
theorem dX5_reinstatementPremium_23 : decode cX5_reinstatementPremium 23 = .ok (.getfield 169, 3) := by decide +kernel
theorem dX5_reinstatementPremium_26 : decode cX5_reinstatementPremium 26 = .ok (.iload_n 1, 1) := by decide +kernel
theorem dX5_reinstatementPremium_27 : decode cX5_reinstatementPremium 27 = .ok (.iaload, 1) := by decide +kernel
theorem dX5_reinstatementPremium_28 : decode cX5_reinstatementPremium 28 = .ok (.i2l, 1) := by decide +kernel
theorem dX5_reinstatementPremium_29 : decode cX5_reinstatementPremium 29 = .ok (.invokestatic 192, 3) := by decide +kernel
theorem dX5_reinstatementPremium_32 : decode cX5_reinstatementPremium 32 = .ok (.ireturn, 1) := by decide +kernel
theorem dX5_sumOfLosses_0 : decode cX5_sumOfLosses 0 = .ok (.aload_n 0, 1) := by decide +kernel
theorem dX5_sumOfLosses_1 : decode cX5_sumOfLosses 1 = .ok (.getfield 25, 3) := by decide +kernel
theorem dX5_sumOfLosses_4 : decode cX5_sumOfLosses 4 = .ok (.aload_n 0, 1) := by decide +kernel
theorem dX5_sumOfLosses_5 : decode cX5_sumOfLosses 5 = .ok (.getfield 12, 3) := by decide +kernel
theorem dX5_sumOfLosses_8 : decode cX5_sumOfLosses 8 = .ok (.getfield 110, 3) := by decide +kernel
theorem dX5_sumOfLosses_11 : decode cX5_sumOfLosses 11 = .ok (.invokestatic 176, 3) := by decide +kernel
theorem dX5_sumOfLosses_14 : decode cX5_sumOfLosses 14 = .ok (.ireturn, 1) := by decide +kernel
theorem dX5_sumOfPayments_0 : decode cX5_sumOfPayments 0 = .ok (.iconst 0, 1) := by decide +kernel
theorem dX5_sumOfPayments_1 : decode cX5_sumOfPayments 1 = .ok (.istore_n 1, 1) := by decide +kernel
theorem dX5_sumOfPayments_2 : decode cX5_sumOfPayments 2 = .ok (.iconst 0, 1) := by decide +kernel
theorem dX5_sumOfPayments_3 : decode cX5_sumOfPayments 3 = .ok (.istore_n 2, 1) := by decide +kernel
theorem dX5_sumOfPayments_4 : decode cX5_sumOfPayments 4 = .ok (.iload_n 2, 1) := by decide +kernel
theorem dX5_sumOfPayments_5 : decode cX5_sumOfPayments 5 = .ok (.aload_n 0, 1) := by decide +kernel
theorem dX5_sumOfPayments_6 : decode cX5_sumOfPayments 6 = .ok (.getfield 12, 3) := by decide +kernel
theorem dX5_sumOfPayments_9 : decode cX5_sumOfPayments 9 = .ok (.getfield 90, 3) := by decide +kernel
theorem dX5_sumOfPayments_12 : decode cX5_sumOfPayments 12 = .ok (.if_icmp .ge 17, 3) := by decide +kernel
theorem dX5_sumOfPayments_15 : decode cX5_sumOfPayments 15 = .ok (.iload_n 1, 1) := by decide +kernel
theorem dX5_sumOfPayments_16 : decode cX5_sumOfPayments 16 = .ok (.aload_n 0, 1) := by decide +kernel
theorem dX5_sumOfPayments_17 : decode cX5_sumOfPayments 17 = .ok (.iload_n 2, 1) := by decide +kernel
theorem dX5_sumOfPayments_18 : decode cX5_sumOfPayments 18 = .ok (.invokevirtual 157, 3) := by decide +kernel
theorem dX5_sumOfPayments_21 : decode cX5_sumOfPayments 21 = .ok (.iadd, 1) := by decide +kernel
theorem dX5_sumOfPayments_22 : decode cX5_sumOfPayments 22 = .ok (.istore_n 1, 1) := by decide +kernel
theorem dX5_sumOfPayments_23 : decode cX5_sumOfPayments 23 = .ok (.iinc 2 1, 3) := by decide +kernel
theorem dX5_sumOfPayments_26 : decode cX5_sumOfPayments 26 = .ok (.goto (-22), 3) := by decide +kernel
theorem dX5_sumOfPayments_29 : decode cX5_sumOfPayments 29 = .ok (.iload_n 1, 1) := by decide +kernel
theorem dX5_sumOfPayments_30 : decode cX5_sumOfPayments 30 = .ok (.ireturn, 1) := by decide +kernel
theorem dX5_sumOfDeductions_0 : decode cX5_sumOfDeductions 0 = .ok (.iconst 0, 1) := by decide +kernel
theorem dX5_sumOfDeductions_1 : decode cX5_sumOfDeductions 1 = .ok (.istore_n 1, 1) := by decide +kernel
theorem dX5_sumOfDeductions_2 : decode cX5_sumOfDeductions 2 = .ok (.iconst 0, 1) := by decide +kernel
theorem dX5_sumOfDeductions_3 : decode cX5_sumOfDeductions 3 = .ok (.istore_n 2, 1) := by decide +kernel
theorem dX5_sumOfDeductions_4 : decode cX5_sumOfDeductions 4 = .ok (.iload_n 2, 1) := by decide +kernel
theorem dX5_sumOfDeductions_5 : decode cX5_sumOfDeductions 5 = .ok (.aload_n 0, 1) := by decide +kernel
theorem dX5_sumOfDeductions_6 : decode cX5_sumOfDeductions 6 = .ok (.getfield 12, 3) := by decide +kernel
theorem dX5_sumOfDeductions_9 : decode cX5_sumOfDeductions 9 = .ok (.getfield 90, 3) := by decide +kernel
theorem dX5_sumOfDeductions_12 : decode cX5_sumOfDeductions 12 = .ok (.if_icmp .ge 28, 3) := by decide +kernel
theorem dX5_sumOfDeductions_15 : decode cX5_sumOfDeductions 15 = .ok (.iload_n 1, 1) := by decide +kernel
theorem dX5_sumOfDeductions_16 : decode cX5_sumOfDeductions 16 = .ok (.aload_n 0, 1) := by decide +kernel
theorem dX5_sumOfDeductions_17 : decode cX5_sumOfDeductions 17 = .ok (.getfield 36, 3) := by decide +kernel
theorem dX5_sumOfDeductions_20 : decode cX5_sumOfDeductions 20 = .ok (.iload_n 2, 1) := by decide +kernel
theorem dX5_sumOfDeductions_21 : decode cX5_sumOfDeductions 21 = .ok (.aaload, 1) := by decide +kernel
theorem dX5_sumOfDeductions_22 : decode cX5_sumOfDeductions 22 = .ok (.aload_n 0, 1) := by decide +kernel
theorem dX5_sumOfDeductions_23 : decode cX5_sumOfDeductions 23 = .ok (.getfield 12, 3) := by decide +kernel
theorem dX5_sumOfDeductions_26 : decode cX5_sumOfDeductions 26 = .ok (.getfield 76, 3) := by decide +kernel
theorem dX5_sumOfDeductions_29 : decode cX5_sumOfDeductions 29 = .ok (.invokestatic 176, 3) := by decide +kernel
theorem dX5_sumOfDeductions_32 : decode cX5_sumOfDeductions 32 = .ok (.iadd, 1) := by decide +kernel
theorem dX5_sumOfDeductions_33 : decode cX5_sumOfDeductions 33 = .ok (.istore_n 1, 1) := by decide +kernel
theorem dX5_sumOfDeductions_34 : decode cX5_sumOfDeductions 34 = .ok (.iinc 2 1, 3) := by decide +kernel
theorem dX5_sumOfDeductions_37 : decode cX5_sumOfDeductions 37 = .ok (.goto (-33), 3) := by decide +kernel
theorem dX5_sumOfDeductions_40 : decode cX5_sumOfDeductions 40 = .ok (.iload_n 1, 1) := by decide +kernel
theorem dX5_sumOfDeductions_41 : decode cX5_sumOfDeductions 41 = .ok (.ireturn, 1) := by decide +kernel
theorem dX5_sumOfBurdens_0 : decode cX5_sumOfBurdens 0 = .ok (.aload_n 0, 1) := by decide +kernel
theorem dX5_sumOfBurdens_1 : decode cX5_sumOfBurdens 1 = .ok (.getfield 48, 3) := by decide +kernel
theorem dX5_sumOfBurdens_4 : decode cX5_sumOfBurdens 4 = .ok (.aload_n 0, 1) := by decide +kernel
theorem dX5_sumOfBurdens_5 : decode cX5_sumOfBurdens 5 = .ok (.getfield 12, 3) := by decide +kernel
theorem dX5_sumOfBurdens_8 : decode cX5_sumOfBurdens 8 = .ok (.getfield 90, 3) := by decide +kernel
theorem dX5_sumOfBurdens_11 : decode cX5_sumOfBurdens 11 = .ok (.invokestatic 176, 3) := by decide +kernel
theorem dX5_sumOfBurdens_14 : decode cX5_sumOfBurdens 14 = .ok (.ireturn, 1) := by decide +kernel
theorem dX5_sumOfBorne_0 : decode cX5_sumOfBorne 0 = .ok (.iconst 0, 1) := by decide +kernel
theorem dX5_sumOfBorne_1 : decode cX5_sumOfBorne 1 = .ok (.istore_n 1, 1) := by decide +kernel
theorem dX5_sumOfBorne_2 : decode cX5_sumOfBorne 2 = .ok (.iconst 0, 1) := by decide +kernel
theorem dX5_sumOfBorne_3 : decode cX5_sumOfBorne 3 = .ok (.istore_n 2, 1) := by decide +kernel
theorem dX5_sumOfBorne_4 : decode cX5_sumOfBorne 4 = .ok (.iload_n 2, 1) := by decide +kernel
theorem dX5_sumOfBorne_5 : decode cX5_sumOfBorne 5 = .ok (.aload_n 0, 1) := by decide +kernel
theorem dX5_sumOfBorne_6 : decode cX5_sumOfBorne 6 = .ok (.getfield 12, 3) := by decide +kernel
theorem dX5_sumOfBorne_9 : decode cX5_sumOfBorne 9 = .ok (.getfield 90, 3) := by decide +kernel
theorem dX5_sumOfBorne_12 : decode cX5_sumOfBorne 12 = .ok (.if_icmp .ge 28, 3) := by decide +kernel
theorem dX5_sumOfBorne_15 : decode cX5_sumOfBorne 15 = .ok (.iload_n 1, 1) := by decide +kernel
theorem dX5_sumOfBorne_16 : decode cX5_sumOfBorne 16 = .ok (.aload_n 0, 1) := by decide +kernel
theorem dX5_sumOfBorne_17 : decode cX5_sumOfBorne 17 = .ok (.getfield 51, 3) := by decide +kernel
theorem dX5_sumOfBorne_20 : decode cX5_sumOfBorne 20 = .ok (.iload_n 2, 1) := by decide +kernel
theorem dX5_sumOfBorne_21 : decode cX5_sumOfBorne 21 = .ok (.aaload, 1) := by decide +kernel
theorem dX5_sumOfBorne_22 : decode cX5_sumOfBorne 22 = .ok (.aload_n 0, 1) := by decide +kernel
theorem dX5_sumOfBorne_23 : decode cX5_sumOfBorne 23 = .ok (.getfield 12, 3) := by decide +kernel
theorem dX5_sumOfBorne_26 : decode cX5_sumOfBorne 26 = .ok (.getfield 83, 3) := by decide +kernel
theorem dX5_sumOfBorne_29 : decode cX5_sumOfBorne 29 = .ok (.invokestatic 176, 3) := by decide +kernel
theorem dX5_sumOfBorne_32 : decode cX5_sumOfBorne 32 = .ok (.iadd, 1) := by decide +kernel
theorem dX5_sumOfBorne_33 : decode cX5_sumOfBorne 33 = .ok (.istore_n 1, 1) := by decide +kernel
theorem dX5_sumOfBorne_34 : decode cX5_sumOfBorne 34 = .ok (.iinc 2 1, 3) := by decide +kernel
theorem dX5_sumOfBorne_37 : decode cX5_sumOfBorne 37 = .ok (.goto (-33), 3) := by decide +kernel
theorem dX5_sumOfBorne_40 : decode cX5_sumOfBorne 40 = .ok (.iload_n 1, 1) := by decide +kernel
theorem dX5_sumOfBorne_41 : decode cX5_sumOfBorne 41 = .ok (.ireturn, 1) := by decide +kernel
theorem dX5_sumOfRetained_0 : decode cX5_sumOfRetained 0 = .ok (.aload_n 0, 1) := by decide +kernel
theorem dX5_sumOfRetained_1 : decode cX5_sumOfRetained 1 = .ok (.getfield 57, 3) := by decide +kernel
theorem dX5_sumOfRetained_4 : decode cX5_sumOfRetained 4 = .ok (.aload_n 0, 1) := by decide +kernel
theorem dX5_sumOfRetained_5 : decode cX5_sumOfRetained 5 = .ok (.getfield 12, 3) := by decide +kernel
theorem dX5_sumOfRetained_8 : decode cX5_sumOfRetained 8 = .ok (.getfield 90, 3) := by decide +kernel
theorem dX5_sumOfRetained_11 : decode cX5_sumOfRetained 11 = .ok (.invokestatic 176, 3) := by decide +kernel
theorem dX5_sumOfRetained_14 : decode cX5_sumOfRetained 14 = .ok (.ireturn, 1) := by decide +kernel
theorem dX5_costOfLayers_0 : decode cX5_costOfLayers 0 = .ok (.iconst 0, 1) := by decide +kernel
theorem dX5_costOfLayers_1 : decode cX5_costOfLayers 1 = .ok (.istore_n 1, 1) := by decide +kernel
theorem dX5_costOfLayers_2 : decode cX5_costOfLayers 2 = .ok (.iconst 0, 1) := by decide +kernel
theorem dX5_costOfLayers_3 : decode cX5_costOfLayers 3 = .ok (.istore_n 2, 1) := by decide +kernel
theorem dX5_costOfLayers_4 : decode cX5_costOfLayers 4 = .ok (.iload_n 2, 1) := by decide +kernel
theorem dX5_costOfLayers_5 : decode cX5_costOfLayers 5 = .ok (.aload_n 0, 1) := by decide +kernel
theorem dX5_costOfLayers_6 : decode cX5_costOfLayers 6 = .ok (.getfield 12, 3) := by decide +kernel
theorem dX5_costOfLayers_9 : decode cX5_costOfLayers 9 = .ok (.getfield 83, 3) := by decide +kernel
theorem dX5_costOfLayers_12 : decode cX5_costOfLayers 12 = .ok (.if_icmp .ge 27, 3) := by decide +kernel
theorem dX5_costOfLayers_15 : decode cX5_costOfLayers 15 = .ok (.iload_n 1, 1) := by decide +kernel
theorem dX5_costOfLayers_16 : decode cX5_costOfLayers 16 = .ok (.aload_n 0, 1) := by decide +kernel
theorem dX5_costOfLayers_17 : decode cX5_costOfLayers 17 = .ok (.getfield 12, 3) := by decide +kernel
theorem dX5_costOfLayers_20 : decode cX5_costOfLayers 20 = .ok (.getfield 186, 3) := by decide +kernel
theorem dX5_costOfLayers_23 : decode cX5_costOfLayers 23 = .ok (.iload_n 2, 1) := by decide +kernel
theorem dX5_costOfLayers_24 : decode cX5_costOfLayers 24 = .ok (.iaload, 1) := by decide +kernel
theorem dX5_costOfLayers_25 : decode cX5_costOfLayers 25 = .ok (.aload_n 0, 1) := by decide +kernel
theorem dX5_costOfLayers_26 : decode cX5_costOfLayers 26 = .ok (.iload_n 2, 1) := by decide +kernel
theorem dX5_costOfLayers_27 : decode cX5_costOfLayers 27 = .ok (.invokevirtual 196, 3) := by decide +kernel
theorem dX5_costOfLayers_30 : decode cX5_costOfLayers 30 = .ok (.iadd, 1) := by decide +kernel
theorem dX5_costOfLayers_31 : decode cX5_costOfLayers 31 = .ok (.iadd, 1) := by decide +kernel
theorem dX5_costOfLayers_32 : decode cX5_costOfLayers 32 = .ok (.istore_n 1, 1) := by decide +kernel
theorem dX5_costOfLayers_33 : decode cX5_costOfLayers 33 = .ok (.iinc 2 1, 3) := by decide +kernel
theorem dX5_costOfLayers_36 : decode cX5_costOfLayers 36 = .ok (.goto (-32), 3) := by decide +kernel
theorem dX5_costOfLayers_39 : decode cX5_costOfLayers 39 = .ok (.iload_n 1, 1) := by decide +kernel
theorem dX5_costOfLayers_40 : decode cX5_costOfLayers 40 = .ok (.ireturn, 1) := by decide +kernel
theorem dX5_sumOfClaimPayments_0 : decode cX5_sumOfClaimPayments 0 = .ok (.iconst 0, 1) := by decide +kernel
theorem dX5_sumOfClaimPayments_1 : decode cX5_sumOfClaimPayments 1 = .ok (.istore_n 1, 1) := by decide +kernel
theorem dX5_sumOfClaimPayments_2 : decode cX5_sumOfClaimPayments 2 = .ok (.iload_n 1, 1) := by decide +kernel
theorem dX5_sumOfClaimPayments_3 : decode cX5_sumOfClaimPayments 3 = .ok (.aload_n 0, 1) := by decide +kernel
theorem dX5_sumOfClaimPayments_4 : decode cX5_sumOfClaimPayments 4 = .ok (.getfield 12, 3) := by decide +kernel
theorem dX5_sumOfClaimPayments_7 : decode cX5_sumOfClaimPayments 7 = .ok (.getfield 90, 3) := by decide +kernel
theorem dX5_sumOfClaimPayments_10 : decode cX5_sumOfClaimPayments 10 = .ok (.if_icmp .ge 34, 3) := by decide +kernel
theorem dX5_sumOfClaimPayments_13 : decode cX5_sumOfClaimPayments 13 = .ok (.iconst 0, 1) := by decide +kernel
theorem dX5_sumOfClaimPayments_14 : decode cX5_sumOfClaimPayments 14 = .ok (.istore_n 2, 1) := by decide +kernel
theorem dX5_sumOfClaimPayments_15 : decode cX5_sumOfClaimPayments 15 = .ok (.iload_n 2, 1) := by decide +kernel
theorem dX5_sumOfClaimPayments_16 : decode cX5_sumOfClaimPayments 16 = .ok (.aload_n 0, 1) := by decide +kernel
theorem dX5_sumOfClaimPayments_17 : decode cX5_sumOfClaimPayments 17 = .ok (.getfield 12, 3) := by decide +kernel
theorem dX5_sumOfClaimPayments_20 : decode cX5_sumOfClaimPayments 20 = .ok (.getfield 76, 3) := by decide +kernel
theorem dX5_sumOfClaimPayments_23 : decode cX5_sumOfClaimPayments 23 = .ok (.if_icmp .ge 15, 3) := by decide +kernel
theorem dX5_sumOfClaimPayments_26 : decode cX5_sumOfClaimPayments 26 = .ok (.aload_n 0, 1) := by decide +kernel
theorem dX5_sumOfClaimPayments_27 : decode cX5_sumOfClaimPayments 27 = .ok (.iload_n 1, 1) := by decide +kernel
theorem dX5_sumOfClaimPayments_28 : decode cX5_sumOfClaimPayments 28 = .ok (.iload_n 2, 1) := by decide +kernel
theorem dX5_sumOfClaimPayments_29 : decode cX5_sumOfClaimPayments 29 = .ok (.invokevirtual 199, 3) := by decide +kernel
theorem dX5_sumOfClaimPayments_32 : decode cX5_sumOfClaimPayments 32 = .ok (.iinc 2 1, 3) := by decide +kernel
theorem dX5_sumOfClaimPayments_35 : decode cX5_sumOfClaimPayments 35 = .ok (.goto (-20), 3) := by decide +kernel
theorem dX5_sumOfClaimPayments_38 : decode cX5_sumOfClaimPayments 38 = .ok (.iinc 1 1, 3) := by decide +kernel
theorem dX5_sumOfClaimPayments_41 : decode cX5_sumOfClaimPayments 41 = .ok (.goto (-39), 3) := by decide +kernel
theorem dX5_sumOfClaimPayments_44 : decode cX5_sumOfClaimPayments 44 = .ok (.aload_n 0, 1) := by decide +kernel
theorem dX5_sumOfClaimPayments_45 : decode cX5_sumOfClaimPayments 45 = .ok (.getfield 60, 3) := by decide +kernel
theorem dX5_sumOfClaimPayments_48 : decode cX5_sumOfClaimPayments 48 = .ok (.aload_n 0, 1) := by decide +kernel
theorem dX5_sumOfClaimPayments_49 : decode cX5_sumOfClaimPayments 49 = .ok (.getfield 12, 3) := by decide +kernel
theorem dX5_sumOfClaimPayments_52 : decode cX5_sumOfClaimPayments 52 = .ok (.getfield 110, 3) := by decide +kernel
theorem dX5_sumOfClaimPayments_55 : decode cX5_sumOfClaimPayments 55 = .ok (.invokestatic 176, 3) := by decide +kernel
theorem dX5_sumOfClaimPayments_58 : decode cX5_sumOfClaimPayments 58 = .ok (.ireturn, 1) := by decide +kernel
theorem dX5_sumOfLayersOneByOne_0 : decode cX5_sumOfLayersOneByOne 0 = .ok (.iconst 0, 1) := by decide +kernel
theorem dX5_sumOfLayersOneByOne_1 : decode cX5_sumOfLayersOneByOne 1 = .ok (.istore_n 1, 1) := by decide +kernel
theorem dX5_sumOfLayersOneByOne_2 : decode cX5_sumOfLayersOneByOne 2 = .ok (.iconst 0, 1) := by decide +kernel
theorem dX5_sumOfLayersOneByOne_3 : decode cX5_sumOfLayersOneByOne 3 = .ok (.istore_n 2, 1) := by decide +kernel
theorem dX5_sumOfLayersOneByOne_4 : decode cX5_sumOfLayersOneByOne 4 = .ok (.iload_n 2, 1) := by decide +kernel
theorem dX5_sumOfLayersOneByOne_5 : decode cX5_sumOfLayersOneByOne 5 = .ok (.aload_n 0, 1) := by decide +kernel
theorem dX5_sumOfLayersOneByOne_6 : decode cX5_sumOfLayersOneByOne 6 = .ok (.getfield 12, 3) := by decide +kernel
theorem dX5_sumOfLayersOneByOne_9 : decode cX5_sumOfLayersOneByOne 9 = .ok (.getfield 83, 3) := by decide +kernel
theorem dX5_sumOfLayersOneByOne_12 : decode cX5_sumOfLayersOneByOne 12 = .ok (.if_icmp .ge 17, 3) := by decide +kernel
theorem dX5_sumOfLayersOneByOne_15 : decode cX5_sumOfLayersOneByOne 15 = .ok (.iload_n 1, 1) := by decide +kernel
theorem dX5_sumOfLayersOneByOne_16 : decode cX5_sumOfLayersOneByOne 16 = .ok (.aload_n 0, 1) := by decide +kernel
theorem dX5_sumOfLayersOneByOne_17 : decode cX5_sumOfLayersOneByOne 17 = .ok (.iload_n 2, 1) := by decide +kernel
theorem dX5_sumOfLayersOneByOne_18 : decode cX5_sumOfLayersOneByOne 18 = .ok (.invokevirtual 183, 3) := by decide +kernel
theorem dX5_sumOfLayersOneByOne_21 : decode cX5_sumOfLayersOneByOne 21 = .ok (.iadd, 1) := by decide +kernel
theorem dX5_sumOfLayersOneByOne_22 : decode cX5_sumOfLayersOneByOne 22 = .ok (.istore_n 1, 1) := by decide +kernel
theorem dX5_sumOfLayersOneByOne_23 : decode cX5_sumOfLayersOneByOne 23 = .ok (.iinc 2 1, 3) := by decide +kernel
theorem dX5_sumOfLayersOneByOne_26 : decode cX5_sumOfLayersOneByOne 26 = .ok (.goto (-22), 3) := by decide +kernel
theorem dX5_sumOfLayersOneByOne_29 : decode cX5_sumOfLayersOneByOne 29 = .ok (.iload_n 1, 1) := by decide +kernel
theorem dX5_sumOfLayersOneByOne_30 : decode cX5_sumOfLayersOneByOne 30 = .ok (.ireturn, 1) := by decide +kernel
theorem dX6_init_0 : decode cX6_init 0 = .ok (.aload_n 0, 1) := by decide +kernel
theorem dX6_init_1 : decode cX6_init 1 = .ok (.invokespecial 1, 3) := by decide +kernel
theorem dX6_init_4 : decode cX6_init 4 = .ok (.aload_n 0, 1) := by decide +kernel
theorem dX6_init_5 : decode cX6_init 5 = .ok (.new 7, 3) := by decide +kernel
theorem dX6_init_8 : decode cX6_init 8 = .ok (.dup, 1) := by decide +kernel
theorem dX6_init_9 : decode cX6_init 9 = .ok (.invokespecial 9, 3) := by decide +kernel
theorem dX6_init_12 : decode cX6_init 12 = .ok (.putfield 10, 3) := by decide +kernel
theorem dX6_init_15 : decode cX6_init 15 = .ok (.aload_n 0, 1) := by decide +kernel
theorem dX6_init_16 : decode cX6_init 16 = .ok (.aload_n 0, 1) := by decide +kernel
theorem dX6_init_17 : decode cX6_init 17 = .ok (.getfield 10, 3) := by decide +kernel
theorem dX6_init_20 : decode cX6_init 20 = .ok (.getfield 16, 3) := by decide +kernel
theorem dX6_init_23 : decode cX6_init 23 = .ok (.putfield 20, 3) := by decide +kernel
theorem dX6_init_26 : decode cX6_init 26 = .ok (.aload_n 0, 1) := by decide +kernel
theorem dX6_init_27 : decode cX6_init 27 = .ok (.new 21, 3) := by decide +kernel
theorem dX6_init_30 : decode cX6_init 30 = .ok (.dup, 1) := by decide +kernel
theorem dX6_init_31 : decode cX6_init 31 = .ok (.invokespecial 23, 3) := by decide +kernel
theorem dX6_init_34 : decode cX6_init 34 = .ok (.putfield 24, 3) := by decide +kernel
theorem dX6_init_37 : decode cX6_init 37 = .ok (.aload_n 0, 1) := by decide +kernel
theorem dX6_init_38 : decode cX6_init 38 = .ok (.new 27, 3) := by decide +kernel
theorem dX6_init_41 : decode cX6_init 41 = .ok (.dup, 1) := by decide +kernel
theorem dX6_init_42 : decode cX6_init 42 = .ok (.invokespecial 29, 3) := by decide +kernel
theorem dX6_init_45 : decode cX6_init 45 = .ok (.putfield 30, 3) := by decide +kernel
theorem dX6_init_48 : decode cX6_init 48 = .ok (.aload_n 0, 1) := by decide +kernel
theorem dX6_init_49 : decode cX6_init 49 = .ok (.new 34, 3) := by decide +kernel
theorem dX6_init_52 : decode cX6_init 52 = .ok (.dup, 1) := by decide +kernel
theorem dX6_init_53 : decode cX6_init 53 = .ok (.invokespecial 36, 3) := by decide +kernel
theorem dX6_init_56 : decode cX6_init 56 = .ok (.putfield 37, 3) := by decide +kernel
theorem dX6_init_59 : decode cX6_init 59 = .ok (.aload_n 0, 1) := by decide +kernel
theorem dX6_init_60 : decode cX6_init 60 = .ok (.new 41, 3) := by decide +kernel
theorem dX6_init_63 : decode cX6_init 63 = .ok (.dup, 1) := by decide +kernel
theorem dX6_init_64 : decode cX6_init 64 = .ok (.invokespecial 43, 3) := by decide +kernel
theorem dX6_init_67 : decode cX6_init 67 = .ok (.putfield 44, 3) := by decide +kernel
theorem dX6_init_70 : decode cX6_init 70 = .ok (.aload_n 0, 1) := by decide +kernel
theorem dX6_init_71 : decode cX6_init 71 = .ok (.bipush (-4), 2) := by decide +kernel
theorem dX6_init_73 : decode cX6_init 73 = .ok (.putfield 48, 3) := by decide +kernel
theorem dX6_init_76 : decode cX6_init 76 = .ok (.return_, 1) := by decide +kernel
theorem dX6_addCover_0 : decode cX6_addCover 0 = .ok (.aload_n 0, 1) := by decide +kernel
theorem dX6_addCover_1 : decode cX6_addCover 1 = .ok (.getfield 30, 3) := by decide +kernel
theorem dX6_addCover_4 : decode cX6_addCover 4 = .ok (.aload_n 0, 1) := by decide +kernel
theorem dX6_addCover_5 : decode cX6_addCover 5 = .ok (.getfield 20, 3) := by decide +kernel
theorem dX6_addCover_8 : decode cX6_addCover 8 = .ok (.invokevirtual 52, 3) := by decide +kernel
theorem dX6_addCover_11 : decode cX6_addCover 11 = .ok (.aload_n 0, 1) := by decide +kernel
theorem dX6_addCover_12 : decode cX6_addCover 12 = .ok (.aload_n 0, 1) := by decide +kernel
theorem dX6_addCover_13 : decode cX6_addCover 13 = .ok (.getfield 20, 3) := by decide +kernel
theorem dX6_addCover_16 : decode cX6_addCover 16 = .ok (.iload_n 1, 1) := by decide +kernel
theorem dX6_addCover_17 : decode cX6_addCover 17 = .ok (.iload_n 2, 1) := by decide +kernel
theorem dX6_addCover_18 : decode cX6_addCover 18 = .ok (.iload_n 3, 1) := by decide +kernel
theorem dX6_addCover_19 : decode cX6_addCover 19 = .ok (.iload 4, 2) := by decide +kernel
theorem dX6_addCover_21 : decode cX6_addCover 21 = .ok (.invokevirtual 56, 3) := by decide +kernel
theorem dX6_addCover_24 : decode cX6_addCover 24 = .ok (.invokevirtual 60, 3) := by decide +kernel
theorem dX6_addCover_27 : decode cX6_addCover 27 = .ok (.ireturn, 1) := by decide +kernel
theorem dX6_addLayer_0 : decode cX6_addLayer 0 = .ok (.aload_n 0, 1) := by decide +kernel
theorem dX6_addLayer_1 : decode cX6_addLayer 1 = .ok (.getfield 30, 3) := by decide +kernel
theorem dX6_addLayer_4 : decode cX6_addLayer 4 = .ok (.aload_n 0, 1) := by decide +kernel
theorem dX6_addLayer_5 : decode cX6_addLayer 5 = .ok (.getfield 20, 3) := by decide +kernel
theorem dX6_addLayer_8 : decode cX6_addLayer 8 = .ok (.invokevirtual 52, 3) := by decide +kernel
theorem dX6_addLayer_11 : decode cX6_addLayer 11 = .ok (.aload_n 0, 1) := by decide +kernel
theorem dX6_addLayer_12 : decode cX6_addLayer 12 = .ok (.aload_n 0, 1) := by decide +kernel
theorem dX6_addLayer_13 : decode cX6_addLayer 13 = .ok (.getfield 20, 3) := by decide +kernel
theorem dX6_addLayer_16 : decode cX6_addLayer 16 = .ok (.iload_n 1, 1) := by decide +kernel
theorem dX6_addLayer_17 : decode cX6_addLayer 17 = .ok (.iload_n 2, 1) := by decide +kernel
theorem dX6_addLayer_18 : decode cX6_addLayer 18 = .ok (.iload_n 3, 1) := by decide +kernel
theorem dX6_addLayer_19 : decode cX6_addLayer 19 = .ok (.iload 4, 2) := by decide +kernel
theorem dX6_addLayer_21 : decode cX6_addLayer 21 = .ok (.invokevirtual 64, 3) := by decide +kernel
theorem dX6_addLayer_24 : decode cX6_addLayer 24 = .ok (.invokevirtual 60, 3) := by decide +kernel
theorem dX6_addLayer_27 : decode cX6_addLayer 27 = .ok (.ireturn, 1) := by decide +kernel
theorem dX6_addEvent_0 : decode cX6_addEvent 0 = .ok (.aload_n 0, 1) := by decide +kernel
theorem dX6_addEvent_1 : decode cX6_addEvent 1 = .ok (.getfield 30, 3) := by decide +kernel
theorem dX6_addEvent_4 : decode cX6_addEvent 4 = .ok (.aload_n 0, 1) := by decide +kernel
theorem dX6_addEvent_5 : decode cX6_addEvent 5 = .ok (.getfield 20, 3) := by decide +kernel
theorem dX6_addEvent_8 : decode cX6_addEvent 8 = .ok (.invokevirtual 52, 3) := by decide +kernel
theorem dX6_addEvent_11 : decode cX6_addEvent 11 = .ok (.aload_n 0, 1) := by decide +kernel
theorem dX6_addEvent_12 : decode cX6_addEvent 12 = .ok (.aload_n 0, 1) := by decide +kernel
theorem dX6_addEvent_13 : decode cX6_addEvent 13 = .ok (.getfield 20, 3) := by decide +kernel
theorem dX6_addEvent_16 : decode cX6_addEvent 16 = .ok (.iload_n 1, 1) := by decide +kernel
theorem dX6_addEvent_17 : decode cX6_addEvent 17 = .ok (.invokevirtual 67, 3) := by decide +kernel
theorem dX6_addEvent_20 : decode cX6_addEvent 20 = .ok (.invokevirtual 60, 3) := by decide +kernel
theorem dX6_addEvent_23 : decode cX6_addEvent 23 = .ok (.ireturn, 1) := by decide +kernel
theorem dX6_addClaim_0 : decode cX6_addClaim 0 = .ok (.aload_n 0, 1) := by decide +kernel
theorem dX6_addClaim_1 : decode cX6_addClaim 1 = .ok (.getfield 30, 3) := by decide +kernel
theorem dX6_addClaim_4 : decode cX6_addClaim 4 = .ok (.aload_n 0, 1) := by decide +kernel
theorem dX6_addClaim_5 : decode cX6_addClaim 5 = .ok (.getfield 20, 3) := by decide +kernel
theorem dX6_addClaim_8 : decode cX6_addClaim 8 = .ok (.invokevirtual 52, 3) := by decide +kernel
theorem dX6_addClaim_11 : decode cX6_addClaim 11 = .ok (.aload_n 0, 1) := by decide +kernel
theorem dX6_addClaim_12 : decode cX6_addClaim 12 = .ok (.aload_n 0, 1) := by decide +kernel
theorem dX6_addClaim_13 : decode cX6_addClaim 13 = .ok (.getfield 20, 3) := by decide +kernel
theorem dX6_addClaim_16 : decode cX6_addClaim 16 = .ok (.iload_n 1, 1) := by decide +kernel
theorem dX6_addClaim_17 : decode cX6_addClaim 17 = .ok (.iload_n 2, 1) := by decide +kernel
theorem dX6_addClaim_18 : decode cX6_addClaim 18 = .ok (.iload_n 3, 1) := by decide +kernel
theorem dX6_addClaim_19 : decode cX6_addClaim 19 = .ok (.invokevirtual 70, 3) := by decide +kernel
theorem dX6_addClaim_22 : decode cX6_addClaim 22 = .ok (.invokevirtual 60, 3) := by decide +kernel
theorem dX6_addClaim_25 : decode cX6_addClaim 25 = .ok (.ireturn, 1) := by decide +kernel
theorem dX6_removeClaim_0 : decode cX6_removeClaim 0 = .ok (.aload_n 0, 1) := by decide +kernel
theorem dX6_removeClaim_1 : decode cX6_removeClaim 1 = .ok (.getfield 30, 3) := by decide +kernel
theorem dX6_removeClaim_4 : decode cX6_removeClaim 4 = .ok (.aload_n 0, 1) := by decide +kernel
theorem dX6_removeClaim_5 : decode cX6_removeClaim 5 = .ok (.getfield 20, 3) := by decide +kernel
theorem dX6_removeClaim_8 : decode cX6_removeClaim 8 = .ok (.invokevirtual 52, 3) := by decide +kernel
theorem dX6_removeClaim_11 : decode cX6_removeClaim 11 = .ok (.aload_n 0, 1) := by decide +kernel
theorem dX6_removeClaim_12 : decode cX6_removeClaim 12 = .ok (.aload_n 0, 1) := by decide +kernel
theorem dX6_removeClaim_13 : decode cX6_removeClaim 13 = .ok (.getfield 20, 3) := by decide +kernel
theorem dX6_removeClaim_16 : decode cX6_removeClaim 16 = .ok (.iload_n 1, 1) := by decide +kernel
theorem dX6_removeClaim_17 : decode cX6_removeClaim 17 = .ok (.invokevirtual 74, 3) := by decide +kernel
theorem dX6_removeClaim_20 : decode cX6_removeClaim 20 = .ok (.invokevirtual 60, 3) := by decide +kernel
theorem dX6_removeClaim_23 : decode cX6_removeClaim 23 = .ok (.ireturn, 1) := by decide +kernel
theorem dX6_setDay_0 : decode cX6_setDay 0 = .ok (.aload_n 0, 1) := by decide +kernel
theorem dX6_setDay_1 : decode cX6_setDay 1 = .ok (.getfield 30, 3) := by decide +kernel
theorem dX6_setDay_4 : decode cX6_setDay 4 = .ok (.aload_n 0, 1) := by decide +kernel
theorem dX6_setDay_5 : decode cX6_setDay 5 = .ok (.getfield 20, 3) := by decide +kernel
theorem dX6_setDay_8 : decode cX6_setDay 8 = .ok (.invokevirtual 52, 3) := by decide +kernel
theorem dX6_setDay_11 : decode cX6_setDay 11 = .ok (.aload_n 0, 1) := by decide +kernel
theorem dX6_setDay_12 : decode cX6_setDay 12 = .ok (.aload_n 0, 1) := by decide +kernel
theorem dX6_setDay_13 : decode cX6_setDay 13 = .ok (.getfield 20, 3) := by decide +kernel
theorem dX6_setDay_16 : decode cX6_setDay 16 = .ok (.iload_n 1, 1) := by decide +kernel
theorem dX6_setDay_17 : decode cX6_setDay 17 = .ok (.iload_n 2, 1) := by decide +kernel
theorem dX6_setDay_18 : decode cX6_setDay 18 = .ok (.invokevirtual 77, 3) := by decide +kernel
theorem dX6_setDay_21 : decode cX6_setDay 21 = .ok (.invokevirtual 60, 3) := by decide +kernel
theorem dX6_setDay_24 : decode cX6_setDay 24 = .ok (.ireturn, 1) := by decide +kernel
theorem dX6_setDeductible_0 : decode cX6_setDeductible 0 = .ok (.aload_n 0, 1) := by decide +kernel
theorem dX6_setDeductible_1 : decode cX6_setDeductible 1 = .ok (.getfield 30, 3) := by decide +kernel
theorem dX6_setDeductible_4 : decode cX6_setDeductible 4 = .ok (.aload_n 0, 1) := by decide +kernel
theorem dX6_setDeductible_5 : decode cX6_setDeductible 5 = .ok (.getfield 20, 3) := by decide +kernel
theorem dX6_setDeductible_8 : decode cX6_setDeductible 8 = .ok (.invokevirtual 52, 3) := by decide +kernel
theorem dX6_setDeductible_11 : decode cX6_setDeductible 11 = .ok (.aload_n 0, 1) := by decide +kernel
theorem dX6_setDeductible_12 : decode cX6_setDeductible 12 = .ok (.aload_n 0, 1) := by decide +kernel
theorem dX6_setDeductible_13 : decode cX6_setDeductible 13 = .ok (.getfield 20, 3) := by decide +kernel
theorem dX6_setDeductible_16 : decode cX6_setDeductible 16 = .ok (.iload_n 1, 1) := by decide +kernel
theorem dX6_setDeductible_17 : decode cX6_setDeductible 17 = .ok (.iload_n 2, 1) := by decide +kernel
theorem dX6_setDeductible_18 : decode cX6_setDeductible 18 = .ok (.invokevirtual 81, 3) := by decide +kernel
theorem dX6_setDeductible_21 : decode cX6_setDeductible 21 = .ok (.invokevirtual 60, 3) := by decide +kernel
theorem dX6_setDeductible_24 : decode cX6_setDeductible 24 = .ok (.ireturn, 1) := by decide +kernel
theorem dX6_setIndex_0 : decode cX6_setIndex 0 = .ok (.aload_n 0, 1) := by decide +kernel
theorem dX6_setIndex_1 : decode cX6_setIndex 1 = .ok (.getfield 30, 3) := by decide +kernel
theorem dX6_setIndex_4 : decode cX6_setIndex 4 = .ok (.aload_n 0, 1) := by decide +kernel
theorem dX6_setIndex_5 : decode cX6_setIndex 5 = .ok (.getfield 20, 3) := by decide +kernel
theorem dX6_setIndex_8 : decode cX6_setIndex 8 = .ok (.invokevirtual 52, 3) := by decide +kernel
theorem dX6_setIndex_11 : decode cX6_setIndex 11 = .ok (.aload_n 0, 1) := by decide +kernel
theorem dX6_setIndex_12 : decode cX6_setIndex 12 = .ok (.aload_n 0, 1) := by decide +kernel
theorem dX6_setIndex_13 : decode cX6_setIndex 13 = .ok (.getfield 20, 3) := by decide +kernel
theorem dX6_setIndex_16 : decode cX6_setIndex 16 = .ok (.iload_n 1, 1) := by decide +kernel
theorem dX6_setIndex_17 : decode cX6_setIndex 17 = .ok (.invokevirtual 84, 3) := by decide +kernel
theorem dX6_setIndex_20 : decode cX6_setIndex 20 = .ok (.invokevirtual 60, 3) := by decide +kernel
theorem dX6_setIndex_23 : decode cX6_setIndex 23 = .ok (.ireturn, 1) := by decide +kernel
theorem dX6_setRecovery_0 : decode cX6_setRecovery 0 = .ok (.aload_n 0, 1) := by decide +kernel
theorem dX6_setRecovery_1 : decode cX6_setRecovery 1 = .ok (.getfield 30, 3) := by decide +kernel
theorem dX6_setRecovery_4 : decode cX6_setRecovery 4 = .ok (.aload_n 0, 1) := by decide +kernel
theorem dX6_setRecovery_5 : decode cX6_setRecovery 5 = .ok (.getfield 20, 3) := by decide +kernel
theorem dX6_setRecovery_8 : decode cX6_setRecovery 8 = .ok (.invokevirtual 52, 3) := by decide +kernel
theorem dX6_setRecovery_11 : decode cX6_setRecovery 11 = .ok (.aload_n 0, 1) := by decide +kernel
theorem dX6_setRecovery_12 : decode cX6_setRecovery 12 = .ok (.aload_n 0, 1) := by decide +kernel
theorem dX6_setRecovery_13 : decode cX6_setRecovery 13 = .ok (.getfield 20, 3) := by decide +kernel
theorem dX6_setRecovery_16 : decode cX6_setRecovery 16 = .ok (.iload_n 1, 1) := by decide +kernel
theorem dX6_setRecovery_17 : decode cX6_setRecovery 17 = .ok (.iload_n 2, 1) := by decide +kernel
theorem dX6_setRecovery_18 : decode cX6_setRecovery 18 = .ok (.invokevirtual 87, 3) := by decide +kernel
theorem dX6_setRecovery_21 : decode cX6_setRecovery 21 = .ok (.invokevirtual 60, 3) := by decide +kernel
theorem dX6_setRecovery_24 : decode cX6_setRecovery 24 = .ok (.ireturn, 1) := by decide +kernel
theorem dX6_append_0 : decode cX6_append 0 = .ok (.aload_n 0, 1) := by decide +kernel
theorem dX6_append_1 : decode cX6_append 1 = .ok (.getfield 37, 3) := by decide +kernel
theorem dX6_append_4 : decode cX6_append 4 = .ok (.iload_n 1, 1) := by decide +kernel
theorem dX6_append_5 : decode cX6_append 5 = .ok (.invokevirtual 90, 3) := by decide +kernel
theorem dX6_append_8 : decode cX6_append 8 = .ok (.ireturn, 1) := by decide +kernel
theorem dX6_read_0 : decode cX6_read 0 = .ok (.aload_n 0, 1) := by decide +kernel
theorem dX6_read_1 : decode cX6_read 1 = .ok (.getfield 37, 3) := by decide +kernel
theorem dX6_read_4 : decode cX6_read 4 = .ok (.invokevirtual 93, 3) := by decide +kernel
theorem dX6_read_7 : decode cX6_read 7 = .ok (.istore_n 1, 1) := by decide +kernel
theorem dX6_read_8 : decode cX6_read 8 = .ok (.aload_n 0, 1) := by decide +kernel
theorem dX6_read_9 : decode cX6_read 9 = .ok (.getfield 37, 3) := by decide +kernel
theorem dX6_read_12 : decode cX6_read 12 = .ok (.invokevirtual 97, 3) := by decide +kernel
theorem dX6_read_15 : decode cX6_read 15 = .ok (.iload_n 1, 1) := by decide +kernel
theorem dX6_read_16 : decode cX6_read 16 = .ok (.ifCond .ne 17, 3) := by decide +kernel
theorem dX6_read_19 : decode cX6_read 19 = .ok (.aload_n 0, 1) := by decide +kernel
theorem dX6_read_20 : decode cX6_read 20 = .ok (.aload_n 0, 1) := by decide +kernel
theorem dX6_read_21 : decode cX6_read 21 = .ok (.getfield 37, 3) := by decide +kernel
theorem dX6_read_24 : decode cX6_read 24 = .ok (.getfield 100, 3) := by decide +kernel
theorem dX6_read_27 : decode cX6_read 27 = .ok (.putfield 48, 3) := by decide +kernel
theorem dX6_read_30 : decode cX6_read 30 = .ok (.bipush (-2), 2) := by decide +kernel
theorem dX6_read_32 : decode cX6_read 32 = .ok (.ireturn, 1) := by decide +kernel
theorem dX6_read_33 : decode cX6_read 33 = .ok (.aload_n 0, 1) := by decide +kernel
theorem dX6_read_34 : decode cX6_read 34 = .ok (.getfield 30, 3) := by decide +kernel
theorem dX6_read_37 : decode cX6_read 37 = .ok (.aload_n 0, 1) := by decide +kernel
theorem dX6_read_38 : decode cX6_read 38 = .ok (.getfield 20, 3) := by decide +kernel
theorem dX6_read_41 : decode cX6_read 41 = .ok (.invokevirtual 52, 3) := by decide +kernel
theorem dX6_read_44 : decode cX6_read 44 = .ok (.iconst 0, 1) := by decide +kernel
theorem dX6_read_45 : decode cX6_read 45 = .ok (.istore_n 2, 1) := by decide +kernel
theorem dX6_read_46 : decode cX6_read 46 = .ok (.iload_n 2, 1) := by decide +kernel
theorem dX6_read_47 : decode cX6_read 47 = .ok (.aload_n 0, 1) := by decide +kernel
theorem dX6_read_48 : decode cX6_read 48 = .ok (.getfield 37, 3) := by decide +kernel
theorem dX6_read_51 : decode cX6_read 51 = .ok (.getfield 103, 3) := by decide +kernel
theorem dX6_read_54 : decode cX6_read 54 = .ok (.if_icmp .ge 44, 3) := by decide +kernel
theorem dX6_read_57 : decode cX6_read 57 = .ok (.aload_n 0, 1) := by decide +kernel
theorem dX6_read_58 : decode cX6_read 58 = .ok (.iload_n 2, 1) := by decide +kernel
theorem dX6_read_59 : decode cX6_read 59 = .ok (.invokevirtual 106, 3) := by decide +kernel
theorem dX6_read_62 : decode cX6_read 62 = .ok (.ifCond .ge 30, 3) := by decide +kernel
theorem dX6_read_65 : decode cX6_read 65 = .ok (.aload_n 0, 1) := by decide +kernel
theorem dX6_read_66 : decode cX6_read 66 = .ok (.getfield 30, 3) := by decide +kernel
theorem dX6_read_69 : decode cX6_read 69 = .ok (.aload_n 0, 1) := by decide +kernel
theorem dX6_read_70 : decode cX6_read 70 = .ok (.getfield 20, 3) := by decide +kernel
theorem dX6_read_73 : decode cX6_read 73 = .ok (.invokevirtual 109, 3) := by decide +kernel
theorem dX6_read_76 : decode cX6_read 76 = .ok (.aload_n 0, 1) := by decide +kernel
theorem dX6_read_77 : decode cX6_read 77 = .ok (.aload_n 0, 1) := by decide +kernel
theorem dX6_read_78 : decode cX6_read 78 = .ok (.getfield 37, 3) := by decide +kernel
theorem dX6_read_81 : decode cX6_read 81 = .ok (.getfield 112, 3) := by decide +kernel
theorem dX6_read_84 : decode cX6_read 84 = .ok (.iload_n 2, 1) := by decide +kernel
theorem dX6_read_85 : decode cX6_read 85 = .ok (.iaload, 1) := by decide +kernel
theorem dX6_read_86 : decode cX6_read 86 = .ok (.putfield 48, 3) := by decide +kernel
theorem dX6_read_89 : decode cX6_read 89 = .ok (.bipush (-5), 2) := by decide +kernel
theorem dX6_read_91 : decode cX6_read 91 = .ok (.ireturn, 1) := by decide +kernel
theorem dX6_read_92 : decode cX6_read 92 = .ok (.iinc 2 1, 3) := by decide +kernel
theorem dX6_read_95 : decode cX6_read 95 = .ok (.goto (-49), 3) := by decide +kernel
theorem dX6_read_98 : decode cX6_read 98 = .ok (.aload_n 0, 1) := by decide +kernel
theorem dX6_read_99 : decode cX6_read 99 = .ok (.bipush (-4), 2) := by decide +kernel
theorem dX6_read_101 : decode cX6_read 101 = .ok (.putfield 48, 3) := by decide +kernel
theorem dX6_read_104 : decode cX6_read 104 = .ok (.aload_n 0, 1) := by decide +kernel
theorem dX6_read_105 : decode cX6_read 105 = .ok (.aload_n 0, 1) := by decide +kernel
theorem dX6_read_106 : decode cX6_read 106 = .ok (.getfield 37, 3) := by decide +kernel
theorem dX6_read_109 : decode cX6_read 109 = .ok (.getfield 103, 3) := by decide +kernel
theorem dX6_read_112 : decode cX6_read 112 = .ok (.invokevirtual 60, 3) := by decide +kernel
theorem dX6_read_115 : decode cX6_read 115 = .ok (.ireturn, 1) := by decide +kernel
theorem dX6_faultPosition_0 : decode cX6_faultPosition 0 = .ok (.aload_n 0, 1) := by decide +kernel
theorem dX6_faultPosition_1 : decode cX6_faultPosition 1 = .ok (.getfield 48, 3) := by decide +kernel
theorem dX6_faultPosition_4 : decode cX6_faultPosition 4 = .ok (.ireturn, 1) := by decide +kernel
theorem dX6_undo_0 : decode cX6_undo 0 = .ok (.aload_n 0, 1) := by decide +kernel
theorem dX6_undo_1 : decode cX6_undo 1 = .ok (.getfield 30, 3) := by decide +kernel
theorem dX6_undo_4 : decode cX6_undo 4 = .ok (.aload_n 0, 1) := by decide +kernel
theorem dX6_undo_5 : decode cX6_undo 5 = .ok (.getfield 20, 3) := by decide +kernel
theorem dX6_undo_8 : decode cX6_undo 8 = .ok (.invokevirtual 116, 3) := by decide +kernel
theorem dX6_undo_11 : decode cX6_undo 11 = .ok (.ireturn, 1) := by decide +kernel
theorem dX6_count_0 : decode cX6_count 0 = .ok (.iload_n 1, 1) := by decide +kernel
theorem dX6_count_1 : decode cX6_count 1 = .ok (.tableswitch 87 0 5 #[39, 47, 55, 63, 71, 79], 39) := by decide +kernel
theorem dX6_count_40 : decode cX6_count 40 = .ok (.aload_n 0, 1) := by decide +kernel
theorem dX6_count_41 : decode cX6_count 41 = .ok (.getfield 20, 3) := by decide +kernel
theorem dX6_count_44 : decode cX6_count 44 = .ok (.getfield 120, 3) := by decide +kernel
theorem dX6_count_47 : decode cX6_count 47 = .ok (.ireturn, 1) := by decide +kernel
theorem dX6_count_48 : decode cX6_count 48 = .ok (.aload_n 0, 1) := by decide +kernel
theorem dX6_count_49 : decode cX6_count 49 = .ok (.getfield 20, 3) := by decide +kernel
theorem dX6_count_52 : decode cX6_count 52 = .ok (.getfield 123, 3) := by decide +kernel
theorem dX6_count_55 : decode cX6_count 55 = .ok (.ireturn, 1) := by decide +kernel
theorem dX6_count_56 : decode cX6_count 56 = .ok (.aload_n 0, 1) := by decide +kernel
theorem dX6_count_57 : decode cX6_count 57 = .ok (.getfield 20, 3) := by decide +kernel
theorem dX6_count_60 : decode cX6_count 60 = .ok (.getfield 126, 3) := by decide +kernel
theorem dX6_count_63 : decode cX6_count 63 = .ok (.ireturn, 1) := by decide +kernel
theorem dX6_count_64 : decode cX6_count 64 = .ok (.aload_n 0, 1) := by decide +kernel
theorem dX6_count_65 : decode cX6_count 65 = .ok (.getfield 20, 3) := by decide +kernel
theorem dX6_count_68 : decode cX6_count 68 = .ok (.getfield 129, 3) := by decide +kernel
theorem dX6_count_71 : decode cX6_count 71 = .ok (.ireturn, 1) := by decide +kernel
theorem dX6_count_72 : decode cX6_count 72 = .ok (.aload_n 0, 1) := by decide +kernel
theorem dX6_count_73 : decode cX6_count 73 = .ok (.getfield 37, 3) := by decide +kernel
theorem dX6_count_76 : decode cX6_count 76 = .ok (.getfield 132, 3) := by decide +kernel
theorem dX6_count_79 : decode cX6_count 79 = .ok (.ireturn, 1) := by decide +kernel
theorem dX6_count_80 : decode cX6_count 80 = .ok (.aload_n 0, 1) := by decide +kernel
theorem dX6_count_81 : decode cX6_count 81 = .ok (.getfield 20, 3) := by decide +kernel
theorem dX6_count_84 : decode cX6_count 84 = .ok (.getfield 135, 3) := by decide +kernel
theorem dX6_count_87 : decode cX6_count 87 = .ok (.ireturn, 1) := by decide +kernel
theorem dX6_count_88 : decode cX6_count 88 = .ok (.bipush (-2), 2) := by decide +kernel
theorem dX6_count_90 : decode cX6_count 90 = .ok (.ireturn, 1) := by decide +kernel
theorem dX6_cover_0 : decode cX6_cover 0 = .ok (.aload_n 0, 1) := by decide +kernel
theorem dX6_cover_1 : decode cX6_cover 1 = .ok (.getfield 20, 3) := by decide +kernel
theorem dX6_cover_4 : decode cX6_cover 4 = .ok (.iload_n 1, 1) := by decide +kernel
theorem dX6_cover_5 : decode cX6_cover 5 = .ok (.invokevirtual 138, 3) := by decide +kernel
theorem dX6_cover_8 : decode cX6_cover 8 = .ok (.ifCond .ne 5, 3) := by decide +kernel
theorem dX6_cover_11 : decode cX6_cover 11 = .ok (.iconst (-1), 1) := by decide +kernel
theorem dX6_cover_12 : decode cX6_cover 12 = .ok (.ireturn, 1) := by decide +kernel
theorem dX6_cover_13 : decode cX6_cover 13 = .ok (.aload_n 0, 1) := by decide +kernel
theorem dX6_cover_14 : decode cX6_cover 14 = .ok (.getfield 10, 3) := by decide +kernel
theorem dX6_cover_17 : decode cX6_cover 17 = .ok (.invokevirtual 142, 3) := by decide +kernel
theorem dX6_cover_20 : decode cX6_cover 20 = .ok (.iload_n 2, 1) := by decide +kernel
theorem dX6_cover_21 : decode cX6_cover 21 = .ok (.tableswitch 109 0 5 #[39, 49, 59, 69, 79, 99], 39) := by decide +kernel
theorem dX6_cover_60 : decode cX6_cover 60 = .ok (.aload_n 0, 1) := by decide +kernel
theorem dX6_cover_61 : decode cX6_cover 61 = .ok (.getfield 20, 3) := by decide +kernel
theorem dX6_cover_64 : decode cX6_cover 64 = .ok (.getfield 145, 3) := by decide +kernel
theorem dX6_cover_67 : decode cX6_cover 67 = .ok (.iload_n 1, 1) := by decide +kernel
theorem dX6_cover_68 : decode cX6_cover 68 = .ok (.iaload, 1) := by decide +kernel
theorem dX6_cover_69 : decode cX6_cover 69 = .ok (.ireturn, 1) := by decide +kernel
theorem dX6_cover_70 : decode cX6_cover 70 = .ok (.aload_n 0, 1) := by decide +kernel
theorem dX6_cover_71 : decode cX6_cover 71 = .ok (.getfield 20, 3) := by decide +kernel
theorem dX6_cover_74 : decode cX6_cover 74 = .ok (.getfield 148, 3) := by decide +kernel
theorem dX6_cover_77 : decode cX6_cover 77 = .ok (.iload_n 1, 1) := by decide +kernel
theorem dX6_cover_78 : decode cX6_cover 78 = .ok (.iaload, 1) := by decide +kernel
theorem dX6_cover_79 : decode cX6_cover 79 = .ok (.ireturn, 1) := by decide +kernel
theorem dX6_cover_80 : decode cX6_cover 80 = .ok (.aload_n 0, 1) := by decide +kernel
theorem dX6_cover_81 : decode cX6_cover 81 = .ok (.getfield 20, 3) := by decide +kernel
theorem dX6_cover_84 : decode cX6_cover 84 = .ok (.getfield 151, 3) := by decide +kernel
theorem dX6_cover_87 : decode cX6_cover 87 = .ok (.iload_n 1, 1) := by decide +kernel
theorem dX6_cover_88 : decode cX6_cover 88 = .ok (.iaload, 1) := by decide +kernel
theorem dX6_cover_89 : decode cX6_cover 89 = .ok (.ireturn, 1) := by decide +kernel
theorem dX6_cover_90 : decode cX6_cover 90 = .ok (.aload_n 0, 1) := by decide +kernel
theorem dX6_cover_91 : decode cX6_cover 91 = .ok (.getfield 20, 3) := by decide +kernel
theorem dX6_cover_94 : decode cX6_cover 94 = .ok (.getfield 154, 3) := by decide +kernel
theorem dX6_cover_97 : decode cX6_cover 97 = .ok (.iload_n 1, 1) := by decide +kernel
theorem dX6_cover_98 : decode cX6_cover 98 = .ok (.iaload, 1) := by decide +kernel
theorem dX6_cover_99 : decode cX6_cover 99 = .ok (.ireturn, 1) := by decide +kernel
theorem dX6_cover_100 : decode cX6_cover 100 = .ok (.aload_n 0, 1) := by decide +kernel
theorem dX6_cover_101 : decode cX6_cover 101 = .ok (.getfield 20, 3) := by decide +kernel
theorem dX6_cover_104 : decode cX6_cover 104 = .ok (.getfield 148, 3) := by decide +kernel
theorem dX6_cover_107 : decode cX6_cover 107 = .ok (.iload_n 1, 1) := by decide +kernel
theorem dX6_cover_108 : decode cX6_cover 108 = .ok (.iaload, 1) := by decide +kernel
theorem dX6_cover_109 : decode cX6_cover 109 = .ok (.aload_n 0, 1) := by decide +kernel
theorem dX6_cover_110 : decode cX6_cover 110 = .ok (.getfield 10, 3) := by decide +kernel
theorem dX6_cover_113 : decode cX6_cover 113 = .ok (.getfield 157, 3) := by decide +kernel
theorem dX6_cover_116 : decode cX6_cover 116 = .ok (.iload_n 1, 1) := by decide +kernel
theorem dX6_cover_117 : decode cX6_cover 117 = .ok (.iaload, 1) := by decide +kernel
theorem dX6_cover_118 : decode cX6_cover 118 = .ok (.isub, 1) := by decide +kernel
theorem dX6_cover_119 : decode cX6_cover 119 = .ok (.ireturn, 1) := by decide +kernel
theorem dX6_cover_120 : decode cX6_cover 120 = .ok (.aload_n 0, 1) := by decide +kernel
theorem dX6_cover_121 : decode cX6_cover 121 = .ok (.getfield 10, 3) := by decide +kernel
theorem dX6_cover_124 : decode cX6_cover 124 = .ok (.getfield 157, 3) := by decide +kernel
theorem dX6_cover_127 : decode cX6_cover 127 = .ok (.iload_n 1, 1) := by decide +kernel
theorem dX6_cover_128 : decode cX6_cover 128 = .ok (.iaload, 1) := by decide +kernel
theorem dX6_cover_129 : decode cX6_cover 129 = .ok (.ireturn, 1) := by decide +kernel
theorem dX6_cover_130 : decode cX6_cover 130 = .ok (.bipush (-2), 2) := by decide +kernel
theorem dX6_cover_132 : decode cX6_cover 132 = .ok (.ireturn, 1) := by decide +kernel
theorem dX6_layer_0 : decode cX6_layer 0 = .ok (.aload_n 0, 1) := by decide +kernel
theorem dX6_layer_1 : decode cX6_layer 1 = .ok (.getfield 20, 3) := by decide +kernel
theorem dX6_layer_4 : decode cX6_layer 4 = .ok (.iload_n 1, 1) := by decide +kernel
theorem dX6_layer_5 : decode cX6_layer 5 = .ok (.invokevirtual 160, 3) := by decide +kernel
theorem dX6_layer_8 : decode cX6_layer 8 = .ok (.ifCond .ne 5, 3) := by decide +kernel
theorem dX6_layer_11 : decode cX6_layer 11 = .ok (.iconst (-1), 1) := by decide +kernel
theorem dX6_layer_12 : decode cX6_layer 12 = .ok (.ireturn, 1) := by decide +kernel
theorem dX6_layer_13 : decode cX6_layer 13 = .ok (.aload_n 0, 1) := by decide +kernel
theorem dX6_layer_14 : decode cX6_layer 14 = .ok (.getfield 10, 3) := by decide +kernel
theorem dX6_layer_17 : decode cX6_layer 17 = .ok (.invokevirtual 142, 3) := by decide +kernel
theorem dX6_layer_20 : decode cX6_layer 20 = .ok (.iload_n 2, 1) := by decide +kernel
theorem dX6_layer_21 : decode cX6_layer 21 = .ok (.tableswitch 124 0 7 #[47, 57, 67, 77, 87, 96, 106, 115], 47) := by decide +kernel
theorem dX6_layer_68 : decode cX6_layer 68 = .ok (.aload_n 0, 1) := by decide +kernel
theorem dX6_layer_69 : decode cX6_layer 69 = .ok (.getfield 20, 3) := by decide +kernel
theorem dX6_layer_72 : decode cX6_layer 72 = .ok (.getfield 163, 3) := by decide +kernel
theorem dX6_layer_75 : decode cX6_layer 75 = .ok (.iload_n 1, 1) := by decide +kernel
theorem dX6_layer_76 : decode cX6_layer 76 = .ok (.iaload, 1) := by decide +kernel
theorem dX6_layer_77 : decode cX6_layer 77 = .ok (.ireturn, 1) := by decide +kernel
theorem dX6_layer_78 : decode cX6_layer 78 = .ok (.aload_n 0, 1) := by decide +kernel
theorem dX6_layer_79 : decode cX6_layer 79 = .ok (.getfield 20, 3) := by decide +kernel
theorem dX6_layer_82 : decode cX6_layer 82 = .ok (.getfield 166, 3) := by decide +kernel
theorem dX6_layer_85 : decode cX6_layer 85 = .ok (.iload_n 1, 1) := by decide +kernel
theorem dX6_layer_86 : decode cX6_layer 86 = .ok (.iaload, 1) := by decide +kernel
theorem dX6_layer_87 : decode cX6_layer 87 = .ok (.ireturn, 1) := by decide +kernel
theorem dX6_layer_88 : decode cX6_layer 88 = .ok (.aload_n 0, 1) := by decide +kernel
theorem dX6_layer_89 : decode cX6_layer 89 = .ok (.getfield 20, 3) := by decide +kernel
theorem dX6_layer_92 : decode cX6_layer 92 = .ok (.getfield 169, 3) := by decide +kernel
theorem dX6_layer_95 : decode cX6_layer 95 = .ok (.iload_n 1, 1) := by decide +kernel
theorem dX6_layer_96 : decode cX6_layer 96 = .ok (.iaload, 1) := by decide +kernel
theorem dX6_layer_97 : decode cX6_layer 97 = .ok (.ireturn, 1) := by decide +kernel
theorem dX6_layer_98 : decode cX6_layer 98 = .ok (.aload_n 0, 1) := by decide +kernel
theorem dX6_layer_99 : decode cX6_layer 99 = .ok (.getfield 20, 3) := by decide +kernel
theorem dX6_layer_102 : decode cX6_layer 102 = .ok (.getfield 172, 3) := by decide +kernel
theorem dX6_layer_105 : decode cX6_layer 105 = .ok (.iload_n 1, 1) := by decide +kernel
theorem dX6_layer_106 : decode cX6_layer 106 = .ok (.iaload, 1) := by decide +kernel
theorem dX6_layer_107 : decode cX6_layer 107 = .ok (.ireturn, 1) := by decide +kernel
theorem dX6_layer_108 : decode cX6_layer 108 = .ok (.aload_n 0, 1) := by decide +kernel
theorem dX6_layer_109 : decode cX6_layer 109 = .ok (.getfield 10, 3) := by decide +kernel
theorem dX6_layer_112 : decode cX6_layer 112 = .ok (.iload_n 1, 1) := by decide +kernel
theorem dX6_layer_113 : decode cX6_layer 113 = .ok (.invokevirtual 175, 3) := by decide +kernel
theorem dX6_layer_116 : decode cX6_layer 116 = .ok (.ireturn, 1) := by decide +kernel
theorem dX6_layer_117 : decode cX6_layer 117 = .ok (.aload_n 0, 1) := by decide +kernel
theorem dX6_layer_118 : decode cX6_layer 118 = .ok (.getfield 10, 3) := by decide +kernel
theorem dX6_layer_121 : decode cX6_layer 121 = .ok (.getfield 178, 3) := by decide +kernel
theorem dX6_layer_124 : decode cX6_layer 124 = .ok (.iload_n 1, 1) := by decide +kernel
theorem dX6_layer_125 : decode cX6_layer 125 = .ok (.iaload, 1) := by decide +kernel
theorem dX6_layer_126 : decode cX6_layer 126 = .ok (.ireturn, 1) := by decide +kernel
theorem dX6_layer_127 : decode cX6_layer 127 = .ok (.aload_n 0, 1) := by decide +kernel
theorem dX6_layer_128 : decode cX6_layer 128 = .ok (.getfield 10, 3) := by decide +kernel
theorem dX6_layer_131 : decode cX6_layer 131 = .ok (.iload_n 1, 1) := by decide +kernel
theorem dX6_layer_132 : decode cX6_layer 132 = .ok (.invokevirtual 181, 3) := by decide +kernel
theorem dX6_layer_135 : decode cX6_layer 135 = .ok (.ireturn, 1) := by decide +kernel
theorem dX6_layer_136 : decode cX6_layer 136 = .ok (.aload_n 0, 1) := by decide +kernel
theorem dX6_layer_137 : decode cX6_layer 137 = .ok (.getfield 10, 3) := by decide +kernel
theorem dX6_layer_140 : decode cX6_layer 140 = .ok (.iload_n 1, 1) := by decide +kernel
theorem dX6_layer_141 : decode cX6_layer 141 = .ok (.invokevirtual 184, 3) := by decide +kernel
theorem dX6_layer_144 : decode cX6_layer 144 = .ok (.ireturn, 1) := by decide +kernel
theorem dX6_layer_145 : decode cX6_layer 145 = .ok (.bipush (-2), 2) := by decide +kernel
theorem dX6_layer_147 : decode cX6_layer 147 = .ok (.ireturn, 1) := by decide +kernel
theorem dX6_deductible_0 : decode cX6_deductible 0 = .ok (.iload_n 1, 1) := by decide +kernel
theorem dX6_deductible_1 : decode cX6_deductible 1 = .ok (.iconst 0, 1) := by decide +kernel
theorem dX6_deductible_2 : decode cX6_deductible 2 = .ok (.iconst 2, 1) := by decide +kernel
theorem dX6_deductible_3 : decode cX6_deductible 3 = .ok (.invokestatic 187, 3) := by decide +kernel
theorem dX6_deductible_6 : decode cX6_deductible 6 = .ok (.ifCond .eq 15, 3) := by decide +kernel
theorem dX6_deductible_9 : decode cX6_deductible 9 = .ok (.aload_n 0, 1) := by decide +kernel
theorem dX6_deductible_10 : decode cX6_deductible 10 = .ok (.getfield 20, 3) := by decide +kernel
theorem dX6_deductible_13 : decode cX6_deductible 13 = .ok (.getfield 191, 3) := by decide +kernel
theorem dX6_deductible_16 : decode cX6_deductible 16 = .ok (.iload_n 1, 1) := by decide +kernel
theorem dX6_deductible_17 : decode cX6_deductible 17 = .ok (.iaload, 1) := by decide +kernel
theorem dX6_deductible_18 : decode cX6_deductible 18 = .ok (.goto 4, 3) := by decide +kernel
theorem dX6_deductible_21 : decode cX6_deductible 21 = .ok (.iconst (-1), 1) := by decide +kernel
theorem dX6_deductible_22 : decode cX6_deductible 22 = .ok (.ireturn, 1) := by decide +kernel
theorem dX6_event_0 : decode cX6_event 0 = .ok (.aload_n 0, 1) := by decide +kernel
theorem dX6_event_1 : decode cX6_event 1 = .ok (.getfield 20, 3) := by decide +kernel
theorem dX6_event_4 : decode cX6_event 4 = .ok (.iload_n 1, 1) := by decide +kernel
theorem dX6_event_5 : decode cX6_event 5 = .ok (.invokevirtual 194, 3) := by decide +kernel
theorem dX6_event_8 : decode cX6_event 8 = .ok (.ifCond .ne 5, 3) := by decide +kernel
theorem dX6_event_11 : decode cX6_event 11 = .ok (.iconst (-1), 1) := by decide +kernel
theorem dX6_event_12 : decode cX6_event 12 = .ok (.ireturn, 1) := by decide +kernel
theorem dX6_event_13 : decode cX6_event 13 = .ok (.aload_n 0, 1) := by decide +kernel
theorem dX6_event_14 : decode cX6_event 14 = .ok (.getfield 10, 3) := by decide +kernel
theorem dX6_event_17 : decode cX6_event 17 = .ok (.invokevirtual 142, 3) := by decide +kernel
theorem dX6_event_20 : decode cX6_event 20 = .ok (.iload_n 2, 1) := by decide +kernel
theorem dX6_event_21 : decode cX6_event 21 = .ok (.tableswitch 124 0 7 #[47, 57, 67, 76, 85, 94, 104, 114], 47) := by decide +kernel
theorem dX6_event_68 : decode cX6_event 68 = .ok (.aload_n 0, 1) := by decide +kernel
theorem dX6_event_69 : decode cX6_event 69 = .ok (.getfield 20, 3) := by decide +kernel
theorem dX6_event_72 : decode cX6_event 72 = .ok (.getfield 197, 3) := by decide +kernel
theorem dX6_event_75 : decode cX6_event 75 = .ok (.iload_n 1, 1) := by decide +kernel
theorem dX6_event_76 : decode cX6_event 76 = .ok (.iaload, 1) := by decide +kernel
theorem dX6_event_77 : decode cX6_event 77 = .ok (.ireturn, 1) := by decide +kernel
theorem dX6_event_78 : decode cX6_event 78 = .ok (.aload_n 0, 1) := by decide +kernel
theorem dX6_event_79 : decode cX6_event 79 = .ok (.getfield 20, 3) := by decide +kernel
theorem dX6_event_82 : decode cX6_event 82 = .ok (.getfield 200, 3) := by decide +kernel
theorem dX6_event_85 : decode cX6_event 85 = .ok (.iload_n 1, 1) := by decide +kernel
theorem dX6_event_86 : decode cX6_event 86 = .ok (.iaload, 1) := by decide +kernel
theorem dX6_event_87 : decode cX6_event 87 = .ok (.ireturn, 1) := by decide +kernel
theorem dX6_event_88 : decode cX6_event 88 = .ok (.aload_n 0, 1) := by decide +kernel
theorem dX6_event_89 : decode cX6_event 89 = .ok (.getfield 20, 3) := by decide +kernel
theorem dX6_event_92 : decode cX6_event 92 = .ok (.iload_n 1, 1) := by decide +kernel
theorem dX6_event_93 : decode cX6_event 93 = .ok (.invokevirtual 203, 3) := by decide +kernel
theorem dX6_event_96 : decode cX6_event 96 = .ok (.ireturn, 1) := by decide +kernel
theorem dX6_event_97 : decode cX6_event 97 = .ok (.aload_n 0, 1) := by decide +kernel
theorem dX6_event_98 : decode cX6_event 98 = .ok (.getfield 10, 3) := by decide +kernel
theorem dX6_event_101 : decode cX6_event 101 = .ok (.iload_n 1, 1) := by decide +kernel
theorem dX6_event_102 : decode cX6_event 102 = .ok (.invokevirtual 206, 3) := by decide +kernel
theorem dX6_event_105 : decode cX6_event 105 = .ok (.ireturn, 1) := by decide +kernel
theorem dX6_event_106 : decode cX6_event 106 = .ok (.aload_n 0, 1) := by decide +kernel
theorem dX6_event_107 : decode cX6_event 107 = .ok (.getfield 10, 3) := by decide +kernel
theorem dX6_event_110 : decode cX6_event 110 = .ok (.iload_n 1, 1) := by decide +kernel
theorem dX6_event_111 : decode cX6_event 111 = .ok (.invokevirtual 209, 3) := by decide +kernel
theorem dX6_event_114 : decode cX6_event 114 = .ok (.ireturn, 1) := by decide +kernel
theorem dX6_event_115 : decode cX6_event 115 = .ok (.aload_n 0, 1) := by decide +kernel
theorem dX6_event_116 : decode cX6_event 116 = .ok (.getfield 10, 3) := by decide +kernel
theorem dX6_event_119 : decode cX6_event 119 = .ok (.getfield 212, 3) := by decide +kernel
theorem dX6_event_122 : decode cX6_event 122 = .ok (.iload_n 1, 1) := by decide +kernel
theorem dX6_event_123 : decode cX6_event 123 = .ok (.iaload, 1) := by decide +kernel
theorem dX6_event_124 : decode cX6_event 124 = .ok (.ireturn, 1) := by decide +kernel
theorem dX6_event_125 : decode cX6_event 125 = .ok (.aload_n 0, 1) := by decide +kernel
theorem dX6_event_126 : decode cX6_event 126 = .ok (.getfield 10, 3) := by decide +kernel
theorem dX6_event_129 : decode cX6_event 129 = .ok (.getfield 215, 3) := by decide +kernel
theorem dX6_event_132 : decode cX6_event 132 = .ok (.iload_n 1, 1) := by decide +kernel
theorem dX6_event_133 : decode cX6_event 133 = .ok (.iaload, 1) := by decide +kernel
theorem dX6_event_134 : decode cX6_event 134 = .ok (.ireturn, 1) := by decide +kernel
theorem dX6_event_135 : decode cX6_event 135 = .ok (.aload_n 0, 1) := by decide +kernel
theorem dX6_event_136 : decode cX6_event 136 = .ok (.getfield 10, 3) := by decide +kernel
theorem dX6_event_139 : decode cX6_event 139 = .ok (.getfield 218, 3) := by decide +kernel
theorem dX6_event_142 : decode cX6_event 142 = .ok (.iload_n 1, 1) := by decide +kernel
theorem dX6_event_143 : decode cX6_event 143 = .ok (.iaload, 1) := by decide +kernel
theorem dX6_event_144 : decode cX6_event 144 = .ok (.ireturn, 1) := by decide +kernel
theorem dX6_event_145 : decode cX6_event 145 = .ok (.bipush (-2), 2) := by decide +kernel
theorem dX6_event_147 : decode cX6_event 147 = .ok (.ireturn, 1) := by decide +kernel
theorem dX6_eventAt_0 : decode cX6_eventAt 0 = .ok (.aload_n 0, 1) := by decide +kernel
theorem dX6_eventAt_1 : decode cX6_eventAt 1 = .ok (.getfield 20, 3) := by decide +kernel
theorem dX6_eventAt_4 : decode cX6_eventAt 4 = .ok (.iload_n 1, 1) := by decide +kernel
theorem dX6_eventAt_5 : decode cX6_eventAt 5 = .ok (.invokevirtual 194, 3) := by decide +kernel
theorem dX6_eventAt_8 : decode cX6_eventAt 8 = .ok (.ifCond .ne 5, 3) := by decide +kernel
theorem dX6_eventAt_11 : decode cX6_eventAt 11 = .ok (.iconst (-1), 1) := by decide +kernel
theorem dX6_eventAt_12 : decode cX6_eventAt 12 = .ok (.ireturn, 1) := by decide +kernel
theorem dX6_eventAt_13 : decode cX6_eventAt 13 = .ok (.aload_n 0, 1) := by decide +kernel
theorem dX6_eventAt_14 : decode cX6_eventAt 14 = .ok (.getfield 10, 3) := by decide +kernel
theorem dX6_eventAt_17 : decode cX6_eventAt 17 = .ok (.invokevirtual 142, 3) := by decide +kernel
theorem dX6_eventAt_20 : decode cX6_eventAt 20 = .ok (.aload_n 0, 1) := by decide +kernel
theorem dX6_eventAt_21 : decode cX6_eventAt 21 = .ok (.getfield 10, 3) := by decide +kernel
theorem dX6_eventAt_24 : decode cX6_eventAt 24 = .ok (.getfield 221, 3) := by decide +kernel
theorem dX6_eventAt_27 : decode cX6_eventAt 27 = .ok (.iload_n 1, 1) := by decide +kernel
theorem dX6_eventAt_28 : decode cX6_eventAt 28 = .ok (.iaload, 1) := by decide +kernel
theorem dX6_eventAt_29 : decode cX6_eventAt 29 = .ok (.ireturn, 1) := by decide +kernel
theorem dX6_claim_0 : decode cX6_claim 0 = .ok (.aload_n 0, 1) := by decide +kernel
theorem dX6_claim_1 : decode cX6_claim 1 = .ok (.getfield 20, 3) := by decide +kernel
theorem dX6_claim_4 : decode cX6_claim 4 = .ok (.iload_n 1, 1) := by decide +kernel
theorem dX6_claim_5 : decode cX6_claim 5 = .ok (.invokevirtual 224, 3) := by decide +kernel
theorem dX6_claim_8 : decode cX6_claim 8 = .ok (.ifCond .ne 5, 3) := by decide +kernel
theorem dX6_claim_11 : decode cX6_claim 11 = .ok (.iconst (-1), 1) := by decide +kernel
theorem dX6_claim_12 : decode cX6_claim 12 = .ok (.ireturn, 1) := by decide +kernel
theorem dX6_claim_13 : decode cX6_claim 13 = .ok (.aload_n 0, 1) := by decide +kernel
theorem dX6_claim_14 : decode cX6_claim 14 = .ok (.getfield 10, 3) := by decide +kernel
theorem dX6_claim_17 : decode cX6_claim 17 = .ok (.invokevirtual 142, 3) := by decide +kernel
theorem dX6_claim_20 : decode cX6_claim 20 = .ok (.aload_n 0, 1) := by decide +kernel
theorem dX6_claim_21 : decode cX6_claim 21 = .ok (.getfield 10, 3) := by decide +kernel
theorem dX6_claim_24 : decode cX6_claim 24 = .ok (.aload_n 0, 1) := by decide +kernel
theorem dX6_claim_25 : decode cX6_claim 25 = .ok (.getfield 20, 3) := by decide +kernel
theorem dX6_claim_28 : decode cX6_claim 28 = .ok (.getfield 227, 3) := by decide +kernel
theorem dX6_claim_31 : decode cX6_claim 31 = .ok (.iload_n 1, 1) := by decide +kernel
theorem dX6_claim_32 : decode cX6_claim 32 = .ok (.iaload, 1) := by decide +kernel
theorem dX6_claim_33 : decode cX6_claim 33 = .ok (.aload_n 0, 1) := by decide +kernel
theorem dX6_claim_34 : decode cX6_claim 34 = .ok (.getfield 20, 3) := by decide +kernel
theorem dX6_claim_37 : decode cX6_claim 37 = .ok (.getfield 230, 3) := by decide +kernel
theorem dX6_claim_40 : decode cX6_claim 40 = .ok (.iload_n 1, 1) := by decide +kernel
theorem dX6_claim_41 : decode cX6_claim 41 = .ok (.iaload, 1) := by decide +kernel
theorem dX6_claim_42 : decode cX6_claim 42 = .ok (.invokevirtual 233, 3) := by decide +kernel
theorem dX6_claim_45 : decode cX6_claim 45 = .ok (.iload_n 2, 1) := by decide +kernel
theorem dX6_claim_46 : decode cX6_claim 46 = .ok (.tableswitch 97 0 5 #[38, 48, 58, 68, 78, 88], 38) := by decide +kernel
theorem dX6_claim_84 : decode cX6_claim 84 = .ok (.aload_n 0, 1) := by decide +kernel
theorem dX6_claim_85 : decode cX6_claim 85 = .ok (.getfield 20, 3) := by decide +kernel
theorem dX6_claim_88 : decode cX6_claim 88 = .ok (.getfield 227, 3) := by decide +kernel
theorem dX6_claim_91 : decode cX6_claim 91 = .ok (.iload_n 1, 1) := by decide +kernel
theorem dX6_claim_92 : decode cX6_claim 92 = .ok (.iaload, 1) := by decide +kernel
theorem dX6_claim_93 : decode cX6_claim 93 = .ok (.ireturn, 1) := by decide +kernel
theorem dX6_claim_94 : decode cX6_claim 94 = .ok (.aload_n 0, 1) := by decide +kernel
theorem dX6_claim_95 : decode cX6_claim 95 = .ok (.getfield 20, 3) := by decide +kernel
theorem dX6_claim_98 : decode cX6_claim 98 = .ok (.getfield 230, 3) := by decide +kernel
theorem dX6_claim_101 : decode cX6_claim 101 = .ok (.iload_n 1, 1) := by decide +kernel
theorem dX6_claim_102 : decode cX6_claim 102 = .ok (.iaload, 1) := by decide +kernel
theorem dX6_claim_103 : decode cX6_claim 103 = .ok (.ireturn, 1) := by decide +kernel
theorem dX6_claim_104 : decode cX6_claim 104 = .ok (.aload_n 0, 1) := by decide +kernel
theorem dX6_claim_105 : decode cX6_claim 105 = .ok (.getfield 20, 3) := by decide +kernel
theorem dX6_claim_108 : decode cX6_claim 108 = .ok (.getfield 237, 3) := by decide +kernel
theorem dX6_claim_111 : decode cX6_claim 111 = .ok (.iload_n 1, 1) := by decide +kernel
theorem dX6_claim_112 : decode cX6_claim 112 = .ok (.iaload, 1) := by decide +kernel
theorem dX6_claim_113 : decode cX6_claim 113 = .ok (.ireturn, 1) := by decide +kernel
theorem dX6_claim_114 : decode cX6_claim 114 = .ok (.aload_n 0, 1) := by decide +kernel
theorem dX6_claim_115 : decode cX6_claim 115 = .ok (.getfield 10, 3) := by decide +kernel
theorem dX6_claim_118 : decode cX6_claim 118 = .ok (.getfield 240, 3) := by decide +kernel
theorem dX6_claim_121 : decode cX6_claim 121 = .ok (.iload_n 1, 1) := by decide +kernel
theorem dX6_claim_122 : decode cX6_claim 122 = .ok (.iaload, 1) := by decide +kernel
theorem dX6_claim_123 : decode cX6_claim 123 = .ok (.ireturn, 1) := by decide +kernel
theorem dX6_claim_124 : decode cX6_claim 124 = .ok (.aload_n 0, 1) := by decide +kernel
theorem dX6_claim_125 : decode cX6_claim 125 = .ok (.getfield 10, 3) := by decide +kernel
theorem dX6_claim_128 : decode cX6_claim 128 = .ok (.getfield 243, 3) := by decide +kernel
theorem dX6_claim_131 : decode cX6_claim 131 = .ok (.iload_n 1, 1) := by decide +kernel
theorem dX6_claim_132 : decode cX6_claim 132 = .ok (.iaload, 1) := by decide +kernel
theorem dX6_claim_133 : decode cX6_claim 133 = .ok (.ireturn, 1) := by decide +kernel
theorem dX6_claim_134 : decode cX6_claim 134 = .ok (.aload_n 0, 1) := by decide +kernel
theorem dX6_claim_135 : decode cX6_claim 135 = .ok (.getfield 10, 3) := by decide +kernel
theorem dX6_claim_138 : decode cX6_claim 138 = .ok (.iload_n 1, 1) := by decide +kernel
theorem dX6_claim_139 : decode cX6_claim 139 = .ok (.invokevirtual 246, 3) := by decide +kernel
theorem dX6_claim_142 : decode cX6_claim 142 = .ok (.ireturn, 1) := by decide +kernel
theorem dX6_claim_143 : decode cX6_claim 143 = .ok (.bipush (-2), 2) := by decide +kernel
theorem dX6_claim_145 : decode cX6_claim 145 = .ok (.ireturn, 1) := by decide +kernel
theorem dX6_gross_0 : decode cX6_gross 0 = .ok (.aload_n 0, 1) := by decide +kernel
theorem dX6_gross_1 : decode cX6_gross 1 = .ok (.aload_n 0, 1) := by decide +kernel
theorem dX6_gross_2 : decode cX6_gross 2 = .ok (.getfield 10, 3) := by decide +kernel
theorem dX6_gross_5 : decode cX6_gross 5 = .ok (.getfield 249, 3) := by decide +kernel
theorem dX6_gross_8 : decode cX6_gross 8 = .ok (.iload_n 1, 1) := by decide +kernel
theorem dX6_gross_9 : decode cX6_gross 9 = .ok (.iload_n 2, 1) := by decide +kernel
theorem dX6_gross_10 : decode cX6_gross 10 = .ok (.invokevirtual 253, 3) := by decide +kernel
theorem dX6_gross_13 : decode cX6_gross 13 = .ok (.ireturn, 1) := by decide +kernel
theorem dX6_deducted_0 : decode cX6_deducted 0 = .ok (.aload_n 0, 1) := by decide +kernel
theorem dX6_deducted_1 : decode cX6_deducted 1 = .ok (.aload_n 0, 1) := by decide +kernel
theorem dX6_deducted_2 : decode cX6_deducted 2 = .ok (.getfield 10, 3) := by decide +kernel
theorem dX6_deducted_5 : decode cX6_deducted 5 = .ok (.getfield 257, 3) := by decide +kernel
theorem dX6_deducted_8 : decode cX6_deducted 8 = .ok (.iload_n 1, 1) := by decide +kernel
theorem dX6_deducted_9 : decode cX6_deducted 9 = .ok (.iload_n 2, 1) := by decide +kernel
theorem dX6_deducted_10 : decode cX6_deducted 10 = .ok (.invokevirtual 253, 3) := by decide +kernel
theorem dX6_deducted_13 : decode cX6_deducted 13 = .ok (.ireturn, 1) := by decide +kernel
theorem dX6_paid_0 : decode cX6_paid 0 = .ok (.aload_n 0, 1) := by decide +kernel
theorem dX6_paid_1 : decode cX6_paid 1 = .ok (.aload_n 0, 1) := by decide +kernel
theorem dX6_paid_2 : decode cX6_paid 2 = .ok (.getfield 10, 3) := by decide +kernel
theorem dX6_paid_5 : decode cX6_paid 5 = .ok (.getfield 260, 3) := by decide +kernel
theorem dX6_paid_8 : decode cX6_paid 8 = .ok (.iload_n 1, 1) := by decide +kernel
theorem dX6_paid_9 : decode cX6_paid 9 = .ok (.iload_n 2, 1) := by decide +kernel
theorem dX6_paid_10 : decode cX6_paid 10 = .ok (.invokevirtual 253, 3) := by decide +kernel
theorem dX6_paid_13 : decode cX6_paid 13 = .ok (.ireturn, 1) := by decide +kernel
theorem dX6_leftBefore_0 : decode cX6_leftBefore 0 = .ok (.aload_n 0, 1) := by decide +kernel
theorem dX6_leftBefore_1 : decode cX6_leftBefore 1 = .ok (.aload_n 0, 1) := by decide +kernel
theorem dX6_leftBefore_2 : decode cX6_leftBefore 2 = .ok (.getfield 10, 3) := by decide +kernel
theorem dX6_leftBefore_5 : decode cX6_leftBefore 5 = .ok (.getfield 263, 3) := by decide +kernel
theorem dX6_leftBefore_8 : decode cX6_leftBefore 8 = .ok (.iload_n 1, 1) := by decide +kernel
theorem dX6_leftBefore_9 : decode cX6_leftBefore 9 = .ok (.iload_n 2, 1) := by decide +kernel
theorem dX6_leftBefore_10 : decode cX6_leftBefore 10 = .ok (.invokevirtual 253, 3) := by decide +kernel
theorem dX6_leftBefore_13 : decode cX6_leftBefore 13 = .ok (.ireturn, 1) := by decide +kernel
theorem dX6_borne_0 : decode cX6_borne 0 = .ok (.aload_n 0, 1) := by decide +kernel
theorem dX6_borne_1 : decode cX6_borne 1 = .ok (.getfield 20, 3) := by decide +kernel
theorem dX6_borne_4 : decode cX6_borne 4 = .ok (.iload_n 1, 1) := by decide +kernel
theorem dX6_borne_5 : decode cX6_borne 5 = .ok (.invokevirtual 194, 3) := by decide +kernel
theorem dX6_borne_8 : decode cX6_borne 8 = .ok (.ifCond .eq 14, 3) := by decide +kernel
theorem dX6_borne_11 : decode cX6_borne 11 = .ok (.aload_n 0, 1) := by decide +kernel
theorem dX6_borne_12 : decode cX6_borne 12 = .ok (.getfield 20, 3) := by decide +kernel
theorem dX6_borne_15 : decode cX6_borne 15 = .ok (.iload_n 2, 1) := by decide +kernel
theorem dX6_borne_16 : decode cX6_borne 16 = .ok (.invokevirtual 160, 3) := by decide +kernel
theorem dX6_borne_19 : decode cX6_borne 19 = .ok (.ifCond .ne 5, 3) := by decide +kernel
theorem dX6_borne_22 : decode cX6_borne 22 = .ok (.iconst (-1), 1) := by decide +kernel
theorem dX6_borne_23 : decode cX6_borne 23 = .ok (.ireturn, 1) := by decide +kernel
theorem dX6_borne_24 : decode cX6_borne 24 = .ok (.aload_n 0, 1) := by decide +kernel
theorem dX6_borne_25 : decode cX6_borne 25 = .ok (.getfield 10, 3) := by decide +kernel
theorem dX6_borne_28 : decode cX6_borne 28 = .ok (.invokevirtual 142, 3) := by decide +kernel
theorem dX6_borne_31 : decode cX6_borne 31 = .ok (.aload_n 0, 1) := by decide +kernel
theorem dX6_borne_32 : decode cX6_borne 32 = .ok (.getfield 10, 3) := by decide +kernel
theorem dX6_borne_35 : decode cX6_borne 35 = .ok (.getfield 266, 3) := by decide +kernel
theorem dX6_borne_38 : decode cX6_borne 38 = .ok (.iload_n 1, 1) := by decide +kernel
theorem dX6_borne_39 : decode cX6_borne 39 = .ok (.aaload, 1) := by decide +kernel
theorem dX6_borne_40 : decode cX6_borne 40 = .ok (.iload_n 2, 1) := by decide +kernel
theorem dX6_borne_41 : decode cX6_borne 41 = .ok (.iaload, 1) := by decide +kernel
theorem dX6_borne_42 : decode cX6_borne 42 = .ok (.ireturn, 1) := by decide +kernel
theorem dX6_returned_0 : decode cX6_returned 0 = .ok (.aload_n 0, 1) := by decide +kernel
theorem dX6_returned_1 : decode cX6_returned 1 = .ok (.getfield 20, 3) := by decide +kernel
theorem dX6_returned_4 : decode cX6_returned 4 = .ok (.iload_n 1, 1) := by decide +kernel
theorem dX6_returned_5 : decode cX6_returned 5 = .ok (.invokevirtual 194, 3) := by decide +kernel
theorem dX6_returned_8 : decode cX6_returned 8 = .ok (.ifCond .eq 18, 3) := by decide +kernel
theorem dX6_returned_11 : decode cX6_returned 11 = .ok (.iload_n 2, 1) := by decide +kernel
theorem dX6_returned_12 : decode cX6_returned 12 = .ok (.iconst 0, 1) := by decide +kernel
theorem dX6_returned_13 : decode cX6_returned 13 = .ok (.aload_n 0, 1) := by decide +kernel
theorem dX6_returned_14 : decode cX6_returned 14 = .ok (.getfield 20, 3) := by decide +kernel
theorem dX6_returned_17 : decode cX6_returned 17 = .ok (.getfield 123, 3) := by decide +kernel
theorem dX6_returned_20 : decode cX6_returned 20 = .ok (.invokestatic 187, 3) := by decide +kernel
theorem dX6_returned_23 : decode cX6_returned 23 = .ok (.ifCond .ne 5, 3) := by decide +kernel
theorem dX6_returned_26 : decode cX6_returned 26 = .ok (.iconst (-1), 1) := by decide +kernel
theorem dX6_returned_27 : decode cX6_returned 27 = .ok (.ireturn, 1) := by decide +kernel
theorem dX6_returned_28 : decode cX6_returned 28 = .ok (.aload_n 0, 1) := by decide +kernel
theorem dX6_returned_29 : decode cX6_returned 29 = .ok (.getfield 10, 3) := by decide +kernel
theorem dX6_returned_32 : decode cX6_returned 32 = .ok (.invokevirtual 142, 3) := by decide +kernel
theorem dX6_returned_35 : decode cX6_returned 35 = .ok (.aload_n 0, 1) := by decide +kernel
theorem dX6_returned_36 : decode cX6_returned 36 = .ok (.getfield 10, 3) := by decide +kernel
theorem dX6_returned_39 : decode cX6_returned 39 = .ok (.iload_n 1, 1) := by decide +kernel
theorem dX6_returned_40 : decode cX6_returned 40 = .ok (.iload_n 2, 1) := by decide +kernel
theorem dX6_returned_41 : decode cX6_returned 41 = .ok (.invokevirtual 269, 3) := by decide +kernel
theorem dX6_returned_44 : decode cX6_returned 44 = .ok (.istore_n 3, 1) := by decide +kernel
theorem dX6_returned_45 : decode cX6_returned 45 = .ok (.aload_n 0, 1) := by decide +kernel
theorem dX6_returned_46 : decode cX6_returned 46 = .ok (.getfield 20, 3) := by decide +kernel
theorem dX6_returned_49 : decode cX6_returned 49 = .ok (.getfield 200, 3) := by decide +kernel
theorem dX6_returned_52 : decode cX6_returned 52 = .ok (.iload_n 1, 1) := by decide +kernel
theorem dX6_returned_53 : decode cX6_returned 53 = .ok (.iaload, 1) := by decide +kernel
theorem dX6_returned_54 : decode cX6_returned 54 = .ok (.istore 4, 2) := by decide +kernel
theorem dX6_returned_56 : decode cX6_returned 56 = .ok (.aload_n 0, 1) := by decide +kernel
theorem dX6_returned_57 : decode cX6_returned 57 = .ok (.getfield 20, 3) := by decide +kernel
theorem dX6_returned_60 : decode cX6_returned 60 = .ok (.getfield 200, 3) := by decide +kernel
theorem dX6_returned_63 : decode cX6_returned 63 = .ok (.iload_n 1, 1) := by decide +kernel
theorem dX6_returned_64 : decode cX6_returned 64 = .ok (.iconst 0, 1) := by decide +kernel
theorem dX6_returned_65 : decode cX6_returned 65 = .ok (.iastore, 1) := by decide +kernel
theorem dX6_returned_66 : decode cX6_returned 66 = .ok (.aload_n 0, 1) := by decide +kernel
theorem dX6_returned_67 : decode cX6_returned 67 = .ok (.getfield 10, 3) := by decide +kernel
theorem dX6_returned_70 : decode cX6_returned 70 = .ok (.invokevirtual 142, 3) := by decide +kernel
theorem dX6_returned_73 : decode cX6_returned 73 = .ok (.aload_n 0, 1) := by decide +kernel
theorem dX6_returned_74 : decode cX6_returned 74 = .ok (.getfield 20, 3) := by decide +kernel
theorem dX6_returned_77 : decode cX6_returned 77 = .ok (.getfield 200, 3) := by decide +kernel
theorem dX6_returned_80 : decode cX6_returned 80 = .ok (.iload_n 1, 1) := by decide +kernel
theorem dX6_returned_81 : decode cX6_returned 81 = .ok (.iload 4, 2) := by decide +kernel
theorem dX6_returned_83 : decode cX6_returned 83 = .ok (.iastore, 1) := by decide +kernel
theorem dX6_returned_84 : decode cX6_returned 84 = .ok (.aload_n 0, 1) := by decide +kernel
theorem dX6_returned_85 : decode cX6_returned 85 = .ok (.getfield 10, 3) := by decide +kernel
theorem dX6_returned_88 : decode cX6_returned 88 = .ok (.iload_n 1, 1) := by decide +kernel
theorem dX6_returned_89 : decode cX6_returned 89 = .ok (.iload_n 2, 1) := by decide +kernel
theorem dX6_returned_90 : decode cX6_returned 90 = .ok (.invokevirtual 269, 3) := by decide +kernel
theorem dX6_returned_93 : decode cX6_returned 93 = .ok (.iload_n 3, 1) := by decide +kernel
theorem dX6_returned_94 : decode cX6_returned 94 = .ok (.isub, 1) := by decide +kernel
theorem dX6_returned_95 : decode cX6_returned 95 = .ok (.ireturn, 1) := by decide +kernel
theorem dX6_place_0 : decode cX6_place 0 = .ok (.aload_n 0, 1) := by decide +kernel
theorem dX6_place_1 : decode cX6_place 1 = .ok (.getfield 20, 3) := by decide +kernel
theorem dX6_place_4 : decode cX6_place 4 = .ok (.iload_n 1, 1) := by decide +kernel
theorem dX6_place_5 : decode cX6_place 5 = .ok (.invokevirtual 194, 3) := by decide +kernel
theorem dX6_place_8 : decode cX6_place 8 = .ok (.ifCond .ne 5, 3) := by decide +kernel
theorem dX6_place_11 : decode cX6_place 11 = .ok (.iconst (-1), 1) := by decide +kernel
theorem dX6_place_12 : decode cX6_place 12 = .ok (.ireturn, 1) := by decide +kernel
theorem dX6_place_13 : decode cX6_place 13 = .ok (.aload_n 0, 1) := by decide +kernel
theorem dX6_place_14 : decode cX6_place 14 = .ok (.getfield 10, 3) := by decide +kernel
theorem dX6_place_17 : decode cX6_place 17 = .ok (.invokevirtual 142, 3) := by decide +kernel
theorem dX6_place_20 : decode cX6_place 20 = .ok (.iconst 0, 1) := by decide +kernel
theorem dX6_place_21 : decode cX6_place 21 = .ok (.istore_n 2, 1) := by decide +kernel
theorem dX6_place_22 : decode cX6_place 22 = .ok (.iconst 0, 1) := by decide +kernel
theorem dX6_place_23 : decode cX6_place 23 = .ok (.istore_n 3, 1) := by decide +kernel
theorem dX6_place_24 : decode cX6_place 24 = .ok (.iload_n 3, 1) := by decide +kernel
theorem dX6_place_25 : decode cX6_place 25 = .ok (.aload_n 0, 1) := by decide +kernel
theorem dX6_place_26 : decode cX6_place 26 = .ok (.getfield 20, 3) := by decide +kernel
theorem dX6_place_29 : decode cX6_place 29 = .ok (.getfield 123, 3) := by decide +kernel
theorem dX6_place_32 : decode cX6_place 32 = .ok (.if_icmp .ge 27, 3) := by decide +kernel
theorem dX6_place_35 : decode cX6_place 35 = .ok (.aload_n 0, 1) := by decide +kernel
theorem dX6_place_36 : decode cX6_place 36 = .ok (.getfield 10, 3) := by decide +kernel
theorem dX6_place_39 : decode cX6_place 39 = .ok (.getfield 266, 3) := by decide +kernel
theorem dX6_place_42 : decode cX6_place 42 = .ok (.iload_n 1, 1) := by decide +kernel
theorem dX6_place_43 : decode cX6_place 43 = .ok (.aaload, 1) := by decide +kernel
theorem dX6_place_44 : decode cX6_place 44 = .ok (.iload_n 3, 1) := by decide +kernel
theorem dX6_place_45 : decode cX6_place 45 = .ok (.iaload, 1) := by decide +kernel
theorem dX6_place_46 : decode cX6_place 46 = .ok (.ifCond .le 7, 3) := by decide +kernel
theorem dX6_place_49 : decode cX6_place 49 = .ok (.iload_n 3, 1) := by decide +kernel
theorem dX6_place_50 : decode cX6_place 50 = .ok (.iconst 1, 1) := by decide +kernel
theorem dX6_place_51 : decode cX6_place 51 = .ok (.iadd, 1) := by decide +kernel
theorem dX6_place_52 : decode cX6_place 52 = .ok (.istore_n 2, 1) := by decide +kernel
theorem dX6_place_53 : decode cX6_place 53 = .ok (.iinc 3 1, 3) := by decide +kernel
theorem dX6_place_56 : decode cX6_place 56 = .ok (.goto (-32), 3) := by decide +kernel
theorem dX6_place_59 : decode cX6_place 59 = .ok (.iload_n 2, 1) := by decide +kernel
theorem dX6_place_60 : decode cX6_place 60 = .ok (.ireturn, 1) := by decide +kernel
theorem dX6_worst_0 : decode cX6_worst 0 = .ok (.aload_n 0, 1) := by decide +kernel
theorem dX6_worst_1 : decode cX6_worst 1 = .ok (.getfield 20, 3) := by decide +kernel
theorem dX6_worst_4 : decode cX6_worst 4 = .ok (.getfield 126, 3) := by decide +kernel
theorem dX6_worst_7 : decode cX6_worst 7 = .ok (.ifCond .ne 6, 3) := by decide +kernel
theorem dX6_worst_10 : decode cX6_worst 10 = .ok (.bipush (-4), 2) := by decide +kernel
theorem dX6_worst_12 : decode cX6_worst 12 = .ok (.ireturn, 1) := by decide +kernel
theorem dX6_worst_13 : decode cX6_worst 13 = .ok (.aload_n 0, 1) := by decide +kernel
theorem dX6_worst_14 : decode cX6_worst 14 = .ok (.getfield 10, 3) := by decide +kernel
theorem dX6_worst_17 : decode cX6_worst 17 = .ok (.invokevirtual 142, 3) := by decide +kernel
theorem dX6_worst_20 : decode cX6_worst 20 = .ok (.aload_n 0, 1) := by decide +kernel
theorem dX6_worst_21 : decode cX6_worst 21 = .ok (.getfield 10, 3) := by decide +kernel
theorem dX6_worst_24 : decode cX6_worst 24 = .ok (.getfield 221, 3) := by decide +kernel
theorem dX6_worst_27 : decode cX6_worst 27 = .ok (.iconst 0, 1) := by decide +kernel
theorem dX6_worst_28 : decode cX6_worst 28 = .ok (.iaload, 1) := by decide +kernel
theorem dX6_worst_29 : decode cX6_worst 29 = .ok (.istore_n 1, 1) := by decide +kernel
theorem dX6_worst_30 : decode cX6_worst 30 = .ok (.iconst 1, 1) := by decide +kernel
theorem dX6_worst_31 : decode cX6_worst 31 = .ok (.istore_n 2, 1) := by decide +kernel
theorem dX6_worst_32 : decode cX6_worst 32 = .ok (.iload_n 2, 1) := by decide +kernel
theorem dX6_worst_33 : decode cX6_worst 33 = .ok (.aload_n 0, 1) := by decide +kernel
theorem dX6_worst_34 : decode cX6_worst 34 = .ok (.getfield 20, 3) := by decide +kernel
theorem dX6_worst_37 : decode cX6_worst 37 = .ok (.getfield 126, 3) := by decide +kernel
theorem dX6_worst_40 : decode cX6_worst 40 = .ok (.if_icmp .ge 42, 3) := by decide +kernel
theorem dX6_worst_43 : decode cX6_worst 43 = .ok (.aload_n 0, 1) := by decide +kernel
theorem dX6_worst_44 : decode cX6_worst 44 = .ok (.getfield 10, 3) := by decide +kernel
theorem dX6_worst_47 : decode cX6_worst 47 = .ok (.getfield 221, 3) := by decide +kernel
theorem dX6_worst_50 : decode cX6_worst 50 = .ok (.iload_n 2, 1) := by decide +kernel
theorem dX6_worst_51 : decode cX6_worst 51 = .ok (.iaload, 1) := by decide +kernel
theorem dX6_worst_52 : decode cX6_worst 52 = .ok (.istore_n 3, 1) := by decide +kernel
theorem dX6_worst_53 : decode cX6_worst 53 = .ok (.aload_n 0, 1) := by decide +kernel
theorem dX6_worst_54 : decode cX6_worst 54 = .ok (.getfield 10, 3) := by decide +kernel
theorem dX6_worst_57 : decode cX6_worst 57 = .ok (.getfield 212, 3) := by decide +kernel
theorem dX6_worst_60 : decode cX6_worst 60 = .ok (.iload_n 3, 1) := by decide +kernel
theorem dX6_worst_61 : decode cX6_worst 61 = .ok (.iaload, 1) := by decide +kernel
theorem dX6_worst_62 : decode cX6_worst 62 = .ok (.aload_n 0, 1) := by decide +kernel
theorem dX6_worst_63 : decode cX6_worst 63 = .ok (.getfield 10, 3) := by decide +kernel
theorem dX6_worst_66 : decode cX6_worst 66 = .ok (.getfield 212, 3) := by decide +kernel
theorem dX6_worst_69 : decode cX6_worst 69 = .ok (.iload_n 1, 1) := by decide +kernel
theorem dX6_worst_70 : decode cX6_worst 70 = .ok (.iaload, 1) := by decide +kernel
theorem dX6_worst_71 : decode cX6_worst 71 = .ok (.if_icmp .le 5, 3) := by decide +kernel
theorem dX6_worst_74 : decode cX6_worst 74 = .ok (.iload_n 3, 1) := by decide +kernel
theorem dX6_worst_75 : decode cX6_worst 75 = .ok (.istore_n 1, 1) := by decide +kernel
theorem dX6_worst_76 : decode cX6_worst 76 = .ok (.iinc 2 1, 3) := by decide +kernel
theorem dX6_worst_79 : decode cX6_worst 79 = .ok (.goto (-47), 3) := by decide +kernel
theorem dX6_worst_82 : decode cX6_worst 82 = .ok (.iload_n 1, 1) := by decide +kernel
theorem dX6_worst_83 : decode cX6_worst 83 = .ok (.ireturn, 1) := by decide +kernel
theorem dX6_account_0 : decode cX6_account 0 = .ok (.aload_n 0, 1) := by decide +kernel
theorem dX6_account_1 : decode cX6_account 1 = .ok (.getfield 10, 3) := by decide +kernel
theorem dX6_account_4 : decode cX6_account 4 = .ok (.invokevirtual 142, 3) := by decide +kernel
theorem dX6_account_7 : decode cX6_account 7 = .ok (.iload_n 1, 1) := by decide +kernel
theorem dX6_account_8 : decode cX6_account 8 = .ok (.tableswitch 132 0 8 #[52, 60, 68, 76, 84, 92, 100, 108, 116], 52) := by decide +kernel
theorem dX6_account_60 : decode cX6_account 60 = .ok (.aload_n 0, 1) := by decide +kernel
theorem dX6_account_61 : decode cX6_account 61 = .ok (.getfield 10, 3) := by decide +kernel
theorem dX6_account_64 : decode cX6_account 64 = .ok (.invokevirtual 272, 3) := by decide +kernel
theorem dX6_account_67 : decode cX6_account 67 = .ok (.ireturn, 1) := by decide +kernel
theorem dX6_account_68 : decode cX6_account 68 = .ok (.aload_n 0, 1) := by decide +kernel
theorem dX6_account_69 : decode cX6_account 69 = .ok (.getfield 10, 3) := by decide +kernel
theorem dX6_account_72 : decode cX6_account 72 = .ok (.invokevirtual 276, 3) := by decide +kernel
theorem dX6_account_75 : decode cX6_account 75 = .ok (.ireturn, 1) := by decide +kernel
theorem dX6_account_76 : decode cX6_account 76 = .ok (.aload_n 0, 1) := by decide +kernel
theorem dX6_account_77 : decode cX6_account 77 = .ok (.getfield 10, 3) := by decide +kernel
theorem dX6_account_80 : decode cX6_account 80 = .ok (.invokevirtual 279, 3) := by decide +kernel
theorem dX6_account_83 : decode cX6_account 83 = .ok (.ireturn, 1) := by decide +kernel
theorem dX6_account_84 : decode cX6_account 84 = .ok (.aload_n 0, 1) := by decide +kernel
theorem dX6_account_85 : decode cX6_account 85 = .ok (.getfield 10, 3) := by decide +kernel
theorem dX6_account_88 : decode cX6_account 88 = .ok (.invokevirtual 282, 3) := by decide +kernel
theorem dX6_account_91 : decode cX6_account 91 = .ok (.ireturn, 1) := by decide +kernel
theorem dX6_account_92 : decode cX6_account 92 = .ok (.aload_n 0, 1) := by decide +kernel
theorem dX6_account_93 : decode cX6_account 93 = .ok (.getfield 10, 3) := by decide +kernel
theorem dX6_account_96 : decode cX6_account 96 = .ok (.invokevirtual 285, 3) := by decide +kernel
theorem dX6_account_99 : decode cX6_account 99 = .ok (.ireturn, 1) := by decide +kernel
theorem dX6_account_100 : decode cX6_account 100 = .ok (.aload_n 0, 1) := by decide +kernel
theorem dX6_account_101 : decode cX6_account 101 = .ok (.getfield 10, 3) := by decide +kernel
theorem dX6_account_104 : decode cX6_account 104 = .ok (.invokevirtual 288, 3) := by decide +kernel
theorem dX6_account_107 : decode cX6_account 107 = .ok (.ireturn, 1) := by decide +kernel
theorem dX6_account_108 : decode cX6_account 108 = .ok (.aload_n 0, 1) := by decide +kernel
theorem dX6_account_109 : decode cX6_account 109 = .ok (.getfield 20, 3) := by decide +kernel
theorem dX6_account_112 : decode cX6_account 112 = .ok (.invokevirtual 291, 3) := by decide +kernel
theorem dX6_account_115 : decode cX6_account 115 = .ok (.ireturn, 1) := by decide +kernel
theorem dX6_account_116 : decode cX6_account 116 = .ok (.aload_n 0, 1) := by decide +kernel
theorem dX6_account_117 : decode cX6_account 117 = .ok (.getfield 10, 3) := by decide +kernel
theorem dX6_account_120 : decode cX6_account 120 = .ok (.invokevirtual 294, 3) := by decide +kernel
theorem dX6_account_123 : decode cX6_account 123 = .ok (.ireturn, 1) := by decide +kernel
theorem dX6_account_124 : decode cX6_account 124 = .ok (.aload_n 0, 1) := by decide +kernel
theorem dX6_account_125 : decode cX6_account 125 = .ok (.getfield 10, 3) := by decide +kernel
theorem dX6_account_128 : decode cX6_account 128 = .ok (.invokevirtual 272, 3) := by decide +kernel
theorem dX6_account_131 : decode cX6_account 131 = .ok (.aload_n 0, 1) := by decide +kernel
theorem dX6_account_132 : decode cX6_account 132 = .ok (.getfield 10, 3) := by decide +kernel
theorem dX6_account_135 : decode cX6_account 135 = .ok (.invokevirtual 276, 3) := by decide +kernel
theorem dX6_account_138 : decode cX6_account 138 = .ok (.isub, 1) := by decide +kernel
theorem dX6_account_139 : decode cX6_account 139 = .ok (.ireturn, 1) := by decide +kernel
theorem dX6_account_140 : decode cX6_account 140 = .ok (.bipush (-2), 2) := by decide +kernel
theorem dX6_account_142 : decode cX6_account 142 = .ok (.ireturn, 1) := by decide +kernel
theorem dX6_result_0 : decode cX6_result 0 = .ok (.aload_n 0, 1) := by decide +kernel
theorem dX6_result_1 : decode cX6_result 1 = .ok (.getfield 10, 3) := by decide +kernel
theorem dX6_result_4 : decode cX6_result 4 = .ok (.invokevirtual 142, 3) := by decide +kernel
theorem dX6_result_7 : decode cX6_result 7 = .ok (.aload_n 0, 1) := by decide +kernel
theorem dX6_result_8 : decode cX6_result 8 = .ok (.getfield 20, 3) := by decide +kernel
theorem dX6_result_11 : decode cX6_result 11 = .ok (.invokevirtual 291, 3) := by decide +kernel
theorem dX6_result_14 : decode cX6_result 14 = .ok (.aload_n 0, 1) := by decide +kernel
theorem dX6_result_15 : decode cX6_result 15 = .ok (.getfield 10, 3) := by decide +kernel
theorem dX6_result_18 : decode cX6_result 18 = .ok (.invokevirtual 294, 3) := by decide +kernel
theorem dX6_result_21 : decode cX6_result 21 = .ok (.isub, 1) := by decide +kernel
theorem dX6_result_22 : decode cX6_result 22 = .ok (.aload_n 0, 1) := by decide +kernel
theorem dX6_result_23 : decode cX6_result 23 = .ok (.getfield 10, 3) := by decide +kernel
theorem dX6_result_26 : decode cX6_result 26 = .ok (.invokevirtual 288, 3) := by decide +kernel
theorem dX6_result_29 : decode cX6_result 29 = .ok (.isub, 1) := by decide +kernel
theorem dX6_result_30 : decode cX6_result 30 = .ok (.ldc_w 297, 3) := by decide +kernel
theorem dX6_result_33 : decode cX6_result 33 = .ok (.iadd, 1) := by decide +kernel
theorem dX6_result_34 : decode cX6_result 34 = .ok (.ireturn, 1) := by decide +kernel
theorem dX6_ratioBits_0 : decode cX6_ratioBits 0 = .ok (.aload_n 0, 1) := by decide +kernel
theorem dX6_ratioBits_1 : decode cX6_ratioBits 1 = .ok (.getfield 20, 3) := by decide +kernel
theorem dX6_ratioBits_4 : decode cX6_ratioBits 4 = .ok (.invokevirtual 291, 3) := by decide +kernel
theorem dX6_ratioBits_7 : decode cX6_ratioBits 7 = .ok (.istore_n 1, 1) := by decide +kernel
theorem dX6_ratioBits_8 : decode cX6_ratioBits 8 = .ok (.iload_n 1, 1) := by decide +kernel
theorem dX6_ratioBits_9 : decode cX6_ratioBits 9 = .ok (.ifCond .gt 6, 3) := by decide +kernel
theorem dX6_ratioBits_12 : decode cX6_ratioBits 12 = .ok (.bipush (-4), 2) := by decide +kernel
theorem dX6_ratioBits_14 : decode cX6_ratioBits 14 = .ok (.ireturn, 1) := by decide +kernel
theorem dX6_ratioBits_15 : decode cX6_ratioBits 15 = .ok (.aload_n 0, 1) := by decide +kernel
theorem dX6_ratioBits_16 : decode cX6_ratioBits 16 = .ok (.getfield 10, 3) := by decide +kernel
theorem dX6_ratioBits_19 : decode cX6_ratioBits 19 = .ok (.invokevirtual 142, 3) := by decide +kernel
theorem dX6_ratioBits_22 : decode cX6_ratioBits 22 = .ok (.aload_n 0, 1) := by decide +kernel
theorem dX6_ratioBits_23 : decode cX6_ratioBits 23 = .ok (.getfield 10, 3) := by decide +kernel
theorem dX6_ratioBits_26 : decode cX6_ratioBits 26 = .ok (.invokevirtual 276, 3) := by decide +kernel
theorem dX6_ratioBits_29 : decode cX6_ratioBits 29 = .ok (.i2f, 1) := by decide +kernel
theorem dX6_ratioBits_30 : decode cX6_ratioBits 30 = .ok (.iload_n 1, 1) := by decide +kernel
theorem dX6_ratioBits_31 : decode cX6_ratioBits 31 = .ok (.i2f, 1) := by decide +kernel
theorem dX6_ratioBits_32 : decode cX6_ratioBits 32 = .ok (.fdiv, 1) := by decide +kernel
theorem dX6_ratioBits_33 : decode cX6_ratioBits 33 = .ok (.invokestatic 298, 3) := by decide +kernel
theorem dX6_ratioBits_36 : decode cX6_ratioBits 36 = .ok (.ireturn, 1) := by decide +kernel
theorem dX6_isBalanced_0 : decode cX6_isBalanced 0 = .ok (.aload_n 0, 1) := by decide +kernel
theorem dX6_isBalanced_1 : decode cX6_isBalanced 1 = .ok (.getfield 10, 3) := by decide +kernel
theorem dX6_isBalanced_4 : decode cX6_isBalanced 4 = .ok (.invokevirtual 142, 3) := by decide +kernel
theorem dX6_isBalanced_7 : decode cX6_isBalanced 7 = .ok (.aload_n 0, 1) := by decide +kernel
theorem dX6_isBalanced_8 : decode cX6_isBalanced 8 = .ok (.getfield 10, 3) := by decide +kernel
theorem dX6_isBalanced_11 : decode cX6_isBalanced 11 = .ok (.invokevirtual 276, 3) := by decide +kernel
theorem dX6_isBalanced_14 : decode cX6_isBalanced 14 = .ok (.istore_n 1, 1) := by decide +kernel
theorem dX6_isBalanced_15 : decode cX6_isBalanced 15 = .ok (.aload_n 0, 1) := by decide +kernel
theorem dX6_isBalanced_16 : decode cX6_isBalanced 16 = .ok (.getfield 10, 3) := by decide +kernel
theorem dX6_isBalanced_19 : decode cX6_isBalanced 19 = .ok (.invokevirtual 302, 3) := by decide +kernel
theorem dX6_isBalanced_22 : decode cX6_isBalanced 22 = .ok (.iload_n 1, 1) := by decide +kernel
theorem dX6_isBalanced_23 : decode cX6_isBalanced 23 = .ok (.if_icmp .ne 7, 3) := by decide +kernel
theorem dX6_isBalanced_26 : decode cX6_isBalanced 26 = .ok (.iconst 1, 1) := by decide +kernel
theorem dX6_isBalanced_27 : decode cX6_isBalanced 27 = .ok (.goto 4, 3) := by decide +kernel
theorem dX6_isBalanced_30 : decode cX6_isBalanced 30 = .ok (.iconst 0, 1) := by decide +kernel
theorem dX6_isBalanced_31 : decode cX6_isBalanced 31 = .ok (.istore_n 2, 1) := by decide +kernel
theorem dX6_isBalanced_32 : decode cX6_isBalanced 32 = .ok (.aload_n 0, 1) := by decide +kernel
theorem dX6_isBalanced_33 : decode cX6_isBalanced 33 = .ok (.getfield 10, 3) := by decide +kernel
theorem dX6_isBalanced_36 : decode cX6_isBalanced 36 = .ok (.invokevirtual 305, 3) := by decide +kernel
theorem dX6_isBalanced_39 : decode cX6_isBalanced 39 = .ok (.aload_n 0, 1) := by decide +kernel
theorem dX6_isBalanced_40 : decode cX6_isBalanced 40 = .ok (.getfield 10, 3) := by decide +kernel
theorem dX6_isBalanced_43 : decode cX6_isBalanced 43 = .ok (.invokevirtual 288, 3) := by decide +kernel
theorem dX6_isBalanced_46 : decode cX6_isBalanced 46 = .ok (.iadd, 1) := by decide +kernel
theorem dX6_isBalanced_47 : decode cX6_isBalanced 47 = .ok (.aload_n 0, 1) := by decide +kernel
theorem dX6_isBalanced_48 : decode cX6_isBalanced 48 = .ok (.getfield 10, 3) := by decide +kernel
theorem dX6_isBalanced_51 : decode cX6_isBalanced 51 = .ok (.invokevirtual 282, 3) := by decide +kernel
theorem dX6_isBalanced_54 : decode cX6_isBalanced 54 = .ok (.if_icmp .ne 7, 3) := by decide +kernel
theorem dX6_isBalanced_57 : decode cX6_isBalanced 57 = .ok (.iconst 1, 1) := by decide +kernel
theorem dX6_isBalanced_58 : decode cX6_isBalanced 58 = .ok (.goto 4, 3) := by decide +kernel
theorem dX6_isBalanced_61 : decode cX6_isBalanced 61 = .ok (.iconst 0, 1) := by decide +kernel
theorem dX6_isBalanced_62 : decode cX6_isBalanced 62 = .ok (.istore_n 3, 1) := by decide +kernel
theorem dX6_isBalanced_63 : decode cX6_isBalanced 63 = .ok (.iload_n 1, 1) := by decide +kernel
theorem dX6_isBalanced_64 : decode cX6_isBalanced 64 = .ok (.aload_n 0, 1) := by decide +kernel
theorem dX6_isBalanced_65 : decode cX6_isBalanced 65 = .ok (.getfield 10, 3) := by decide +kernel
theorem dX6_isBalanced_68 : decode cX6_isBalanced 68 = .ok (.invokevirtual 279, 3) := by decide +kernel
theorem dX6_isBalanced_71 : decode cX6_isBalanced 71 = .ok (.iadd, 1) := by decide +kernel
theorem dX6_isBalanced_72 : decode cX6_isBalanced 72 = .ok (.aload_n 0, 1) := by decide +kernel
theorem dX6_isBalanced_73 : decode cX6_isBalanced 73 = .ok (.getfield 10, 3) := by decide +kernel
theorem dX6_isBalanced_76 : decode cX6_isBalanced 76 = .ok (.invokevirtual 272, 3) := by decide +kernel
theorem dX6_isBalanced_79 : decode cX6_isBalanced 79 = .ok (.if_icmp .gt 7, 3) := by decide +kernel
theorem dX6_isBalanced_82 : decode cX6_isBalanced 82 = .ok (.iconst 1, 1) := by decide +kernel
theorem dX6_isBalanced_83 : decode cX6_isBalanced 83 = .ok (.goto 4, 3) := by decide +kernel
theorem dX6_isBalanced_86 : decode cX6_isBalanced 86 = .ok (.iconst 0, 1) := by decide +kernel
theorem dX6_isBalanced_87 : decode cX6_isBalanced 87 = .ok (.istore 4, 2) := by decide +kernel
theorem dX6_isBalanced_89 : decode cX6_isBalanced 89 = .ok (.iload_n 2, 1) := by decide +kernel
theorem dX6_isBalanced_90 : decode cX6_isBalanced 90 = .ok (.ifCond .eq 16, 3) := by decide +kernel
theorem dX6_isBalanced_93 : decode cX6_isBalanced 93 = .ok (.iload_n 3, 1) := by decide +kernel
theorem dX6_isBalanced_94 : decode cX6_isBalanced 94 = .ok (.ifCond .eq 12, 3) := by decide +kernel
theorem dX6_isBalanced_97 : decode cX6_isBalanced 97 = .ok (.iload 4, 2) := by decide +kernel
theorem dX6_isBalanced_99 : decode cX6_isBalanced 99 = .ok (.ifCond .eq 7, 3) := by decide +kernel
theorem dX6_isBalanced_102 : decode cX6_isBalanced 102 = .ok (.iconst 1, 1) := by decide +kernel
theorem dX6_isBalanced_103 : decode cX6_isBalanced 103 = .ok (.goto 4, 3) := by decide +kernel
theorem dX6_isBalanced_106 : decode cX6_isBalanced 106 = .ok (.iconst 0, 1) := by decide +kernel
theorem dX6_isBalanced_107 : decode cX6_isBalanced 107 = .ok (.ireturn, 1) := by decide +kernel
theorem dX6_paidIf_0 : decode cX6_paidIf 0 = .ok (.aload_n 0, 1) := by decide +kernel
theorem dX6_paidIf_1 : decode cX6_paidIf 1 = .ok (.getfield 20, 3) := by decide +kernel
theorem dX6_paidIf_4 : decode cX6_paidIf 4 = .ok (.iload_n 1, 1) := by decide +kernel
theorem dX6_paidIf_5 : decode cX6_paidIf 5 = .ok (.invokevirtual 194, 3) := by decide +kernel
theorem dX6_paidIf_8 : decode cX6_paidIf 8 = .ok (.ifCond .ne 5, 3) := by decide +kernel
theorem dX6_paidIf_11 : decode cX6_paidIf 11 = .ok (.iconst (-1), 1) := by decide +kernel
theorem dX6_paidIf_12 : decode cX6_paidIf 12 = .ok (.ireturn, 1) := by decide +kernel
theorem dX6_paidIf_13 : decode cX6_paidIf 13 = .ok (.iload_n 2, 1) := by decide +kernel
theorem dX6_paidIf_14 : decode cX6_paidIf 14 = .ok (.iconst 0, 1) := by decide +kernel
theorem dX6_paidIf_15 : decode cX6_paidIf 15 = .ok (.sipush 364, 3) := by decide +kernel
theorem dX6_paidIf_18 : decode cX6_paidIf 18 = .ok (.invokestatic 187, 3) := by decide +kernel
theorem dX6_paidIf_21 : decode cX6_paidIf 21 = .ok (.ifCond .ne 6, 3) := by decide +kernel
theorem dX6_paidIf_24 : decode cX6_paidIf 24 = .ok (.bipush (-2), 2) := by decide +kernel
theorem dX6_paidIf_26 : decode cX6_paidIf 26 = .ok (.ireturn, 1) := by decide +kernel
theorem dX6_paidIf_27 : decode cX6_paidIf 27 = .ok (.aload_n 0, 1) := by decide +kernel
theorem dX6_paidIf_28 : decode cX6_paidIf 28 = .ok (.getfield 20, 3) := by decide +kernel
theorem dX6_paidIf_31 : decode cX6_paidIf 31 = .ok (.getfield 197, 3) := by decide +kernel
theorem dX6_paidIf_34 : decode cX6_paidIf 34 = .ok (.iload_n 1, 1) := by decide +kernel
theorem dX6_paidIf_35 : decode cX6_paidIf 35 = .ok (.iaload, 1) := by decide +kernel
theorem dX6_paidIf_36 : decode cX6_paidIf 36 = .ok (.istore_n 3, 1) := by decide +kernel
theorem dX6_paidIf_37 : decode cX6_paidIf 37 = .ok (.aload_n 0, 1) := by decide +kernel
theorem dX6_paidIf_38 : decode cX6_paidIf 38 = .ok (.getfield 20, 3) := by decide +kernel
theorem dX6_paidIf_41 : decode cX6_paidIf 41 = .ok (.getfield 197, 3) := by decide +kernel
theorem dX6_paidIf_44 : decode cX6_paidIf 44 = .ok (.iload_n 1, 1) := by decide +kernel
theorem dX6_paidIf_45 : decode cX6_paidIf 45 = .ok (.iload_n 2, 1) := by decide +kernel
theorem dX6_paidIf_46 : decode cX6_paidIf 46 = .ok (.iastore, 1) := by decide +kernel
theorem dX6_paidIf_47 : decode cX6_paidIf 47 = .ok (.aload_n 0, 1) := by decide +kernel
theorem dX6_paidIf_48 : decode cX6_paidIf 48 = .ok (.getfield 10, 3) := by decide +kernel
theorem dX6_paidIf_51 : decode cX6_paidIf 51 = .ok (.invokevirtual 142, 3) := by decide +kernel
theorem dX6_paidIf_54 : decode cX6_paidIf 54 = .ok (.aload_n 0, 1) := by decide +kernel
theorem dX6_paidIf_55 : decode cX6_paidIf 55 = .ok (.getfield 20, 3) := by decide +kernel
theorem dX6_paidIf_58 : decode cX6_paidIf 58 = .ok (.getfield 197, 3) := by decide +kernel
theorem dX6_paidIf_61 : decode cX6_paidIf 61 = .ok (.iload_n 1, 1) := by decide +kernel
theorem dX6_paidIf_62 : decode cX6_paidIf 62 = .ok (.iload_n 3, 1) := by decide +kernel
theorem dX6_paidIf_63 : decode cX6_paidIf 63 = .ok (.iastore, 1) := by decide +kernel
theorem dX6_paidIf_64 : decode cX6_paidIf 64 = .ok (.aload_n 0, 1) := by decide +kernel
theorem dX6_paidIf_65 : decode cX6_paidIf 65 = .ok (.getfield 10, 3) := by decide +kernel
theorem dX6_paidIf_68 : decode cX6_paidIf 68 = .ok (.invokevirtual 276, 3) := by decide +kernel
theorem dX6_paidIf_71 : decode cX6_paidIf 71 = .ok (.ireturn, 1) := by decide +kernel
theorem dX6_leastLimit_0 : decode cX6_leastLimit 0 = .ok (.aload_n 0, 1) := by decide +kernel
theorem dX6_leastLimit_1 : decode cX6_leastLimit 1 = .ok (.getfield 20, 3) := by decide +kernel
theorem dX6_leastLimit_4 : decode cX6_leastLimit 4 = .ok (.iload_n 1, 1) := by decide +kernel
theorem dX6_leastLimit_5 : decode cX6_leastLimit 5 = .ok (.invokevirtual 138, 3) := by decide +kernel
theorem dX6_leastLimit_8 : decode cX6_leastLimit 8 = .ok (.ifCond .ne 5, 3) := by decide +kernel
theorem dX6_leastLimit_11 : decode cX6_leastLimit 11 = .ok (.iconst (-1), 1) := by decide +kernel
theorem dX6_leastLimit_12 : decode cX6_leastLimit 12 = .ok (.ireturn, 1) := by decide +kernel
theorem dX6_leastLimit_13 : decode cX6_leastLimit 13 = .ok (.aload_n 0, 1) := by decide +kernel
theorem dX6_leastLimit_14 : decode cX6_leastLimit 14 = .ok (.getfield 10, 3) := by decide +kernel
theorem dX6_leastLimit_17 : decode cX6_leastLimit 17 = .ok (.invokevirtual 142, 3) := by decide +kernel
theorem dX6_leastLimit_20 : decode cX6_leastLimit 20 = .ok (.iconst 1, 1) := by decide +kernel
theorem dX6_leastLimit_21 : decode cX6_leastLimit 21 = .ok (.aload_n 0, 1) := by decide +kernel
theorem dX6_leastLimit_22 : decode cX6_leastLimit 22 = .ok (.getfield 10, 3) := by decide +kernel
theorem dX6_leastLimit_25 : decode cX6_leastLimit 25 = .ok (.iload_n 1, 1) := by decide +kernel
theorem dX6_leastLimit_26 : decode cX6_leastLimit 26 = .ok (.invokevirtual 308, 3) := by decide +kernel
theorem dX6_leastLimit_29 : decode cX6_leastLimit 29 = .ok (.ldc_w 311, 3) := by decide +kernel
theorem dX6_leastLimit_32 : decode cX6_leastLimit 32 = .ok (.invokestatic 312, 3) := by decide +kernel
theorem dX6_leastLimit_35 : decode cX6_leastLimit 35 = .ok (.invokestatic 317, 3) := by decide +kernel
theorem dX6_leastLimit_38 : decode cX6_leastLimit 38 = .ok (.ireturn, 1) := by decide +kernel
theorem dX6_file_0 : decode cX6_file 0 = .ok (.aload_n 0, 1) := by decide +kernel
theorem dX6_file_1 : decode cX6_file 1 = .ok (.getfield 44, 3) := by decide +kernel
theorem dX6_file_4 : decode cX6_file 4 = .ok (.iload_n 1, 1) := by decide +kernel
theorem dX6_file_5 : decode cX6_file 5 = .ok (.iload_n 2, 1) := by decide +kernel
theorem dX6_file_6 : decode cX6_file 6 = .ok (.invokevirtual 320, 3) := by decide +kernel
theorem dX6_file_9 : decode cX6_file 9 = .ok (.ifCond .ne 5, 3) := by decide +kernel
theorem dX6_file_12 : decode cX6_file 12 = .ok (.iconst (-1), 1) := by decide +kernel
theorem dX6_file_13 : decode cX6_file 13 = .ok (.ireturn, 1) := by decide +kernel
theorem dX6_file_14 : decode cX6_file 14 = .ok (.iload_n 3, 1) := by decide +kernel
theorem dX6_file_15 : decode cX6_file 15 = .ok (.ifCond .eq 11, 3) := by decide +kernel
theorem dX6_file_18 : decode cX6_file 18 = .ok (.iload_n 3, 1) := by decide +kernel
theorem dX6_file_19 : decode cX6_file 19 = .ok (.iconst 1, 1) := by decide +kernel
theorem dX6_file_20 : decode cX6_file 20 = .ok (.if_icmp .eq 6, 3) := by decide +kernel
theorem dX6_file_23 : decode cX6_file 23 = .ok (.bipush (-2), 2) := by decide +kernel
theorem dX6_file_25 : decode cX6_file 25 = .ok (.ireturn, 1) := by decide +kernel
theorem dX6_file_26 : decode cX6_file 26 = .ok (.iload_n 3, 1) := by decide +kernel
theorem dX6_file_27 : decode cX6_file 27 = .ok (.ifCond .ne 15, 3) := by decide +kernel
theorem dX6_file_30 : decode cX6_file 30 = .ok (.aload_n 0, 1) := by decide +kernel
theorem dX6_file_31 : decode cX6_file 31 = .ok (.getfield 20, 3) := by decide +kernel
theorem dX6_file_34 : decode cX6_file 34 = .ok (.iload 4, 2) := by decide +kernel
theorem dX6_file_36 : decode cX6_file 36 = .ok (.invokevirtual 138, 3) := by decide +kernel
theorem dX6_file_39 : decode cX6_file 39 = .ok (.goto 12, 3) := by decide +kernel
theorem dX6_file_42 : decode cX6_file 42 = .ok (.aload_n 0, 1) := by decide +kernel
theorem dX6_file_43 : decode cX6_file 43 = .ok (.getfield 20, 3) := by decide +kernel
theorem dX6_file_46 : decode cX6_file 46 = .ok (.iload 4, 2) := by decide +kernel
theorem dX6_file_48 : decode cX6_file 48 = .ok (.invokevirtual 160, 3) := by decide +kernel
theorem dX6_file_51 : decode cX6_file 51 = .ok (.istore 5, 2) := by decide +kernel
theorem dX6_file_53 : decode cX6_file 53 = .ok (.iload 5, 2) := by decide +kernel
theorem dX6_file_55 : decode cX6_file 55 = .ok (.ifCond .ne 5, 3) := by decide +kernel
theorem dX6_file_58 : decode cX6_file 58 = .ok (.iconst (-1), 1) := by decide +kernel
theorem dX6_file_59 : decode cX6_file 59 = .ok (.ireturn, 1) := by decide +kernel
theorem dX6_file_60 : decode cX6_file 60 = .ok (.aload_n 0, 1) := by decide +kernel
theorem dX6_file_61 : decode cX6_file 61 = .ok (.getfield 44, 3) := by decide +kernel
theorem dX6_file_64 : decode cX6_file 64 = .ok (.iload_n 1, 1) := by decide +kernel
theorem dX6_file_65 : decode cX6_file 65 = .ok (.iload_n 3, 1) := by decide +kernel
theorem dX6_file_66 : decode cX6_file 66 = .ok (.invokevirtual 324, 3) := by decide +kernel
theorem dX6_file_69 : decode cX6_file 69 = .ok (.ifCond .ne 6, 3) := by decide +kernel
theorem dX6_file_72 : decode cX6_file 72 = .ok (.bipush (-6), 2) := by decide +kernel
theorem dX6_file_74 : decode cX6_file 74 = .ok (.ireturn, 1) := by decide +kernel
theorem dX6_file_75 : decode cX6_file 75 = .ok (.aload_n 0, 1) := by decide +kernel
theorem dX6_file_76 : decode cX6_file 76 = .ok (.getfield 44, 3) := by decide +kernel
theorem dX6_file_79 : decode cX6_file 79 = .ok (.iload_n 1, 1) := by decide +kernel
theorem dX6_file_80 : decode cX6_file 80 = .ok (.iload_n 2, 1) := by decide +kernel
theorem dX6_file_81 : decode cX6_file 81 = .ok (.iload_n 3, 1) := by decide +kernel
theorem dX6_file_82 : decode cX6_file 82 = .ok (.invokevirtual 327, 3) := by decide +kernel
theorem dX6_file_85 : decode cX6_file 85 = .ok (.astore 6, 2) := by decide +kernel
theorem dX6_file_87 : decode cX6_file 87 = .ok (.iload_n 3, 1) := by decide +kernel
theorem dX6_file_88 : decode cX6_file 88 = .ok (.ifCond .ne 17, 3) := by decide +kernel
theorem dX6_file_91 : decode cX6_file 91 = .ok (.aload_n 0, 1) := by decide +kernel
theorem dX6_file_92 : decode cX6_file 92 = .ok (.getfield 20, 3) := by decide +kernel
theorem dX6_file_95 : decode cX6_file 95 = .ok (.iload 4, 2) := by decide +kernel
theorem dX6_file_97 : decode cX6_file 97 = .ok (.aload 6, 2) := by decide +kernel
theorem dX6_file_99 : decode cX6_file 99 = .ok (.invokevirtual 331, 3) := by decide +kernel
theorem dX6_file_102 : decode cX6_file 102 = .ok (.goto 14, 3) := by decide +kernel
theorem dX6_file_105 : decode cX6_file 105 = .ok (.aload_n 0, 1) := by decide +kernel
theorem dX6_file_106 : decode cX6_file 106 = .ok (.getfield 20, 3) := by decide +kernel
theorem dX6_file_109 : decode cX6_file 109 = .ok (.iload 4, 2) := by decide +kernel
theorem dX6_file_111 : decode cX6_file 111 = .ok (.aload 6, 2) := by decide +kernel
theorem dX6_file_113 : decode cX6_file 113 = .ok (.invokevirtual 335, 3) := by decide +kernel
theorem dX6_file_116 : decode cX6_file 116 = .ok (.aload_n 0, 1) := by decide +kernel
theorem dX6_file_117 : decode cX6_file 117 = .ok (.getfield 44, 3) := by decide +kernel
theorem dX6_file_120 : decode cX6_file 120 = .ok (.iload_n 1, 1) := by decide +kernel
theorem dX6_file_121 : decode cX6_file 121 = .ok (.invokevirtual 338, 3) := by decide +kernel
theorem dX6_file_124 : decode cX6_file 124 = .ok (.ireturn, 1) := by decide +kernel
theorem dX6_use_0 : decode cX6_use 0 = .ok (.aload_n 0, 1) := by decide +kernel
theorem dX6_use_1 : decode cX6_use 1 = .ok (.iload_n 1, 1) := by decide +kernel
theorem dX6_use_2 : decode cX6_use 2 = .ok (.iload_n 2, 1) := by decide +kernel
theorem dX6_use_3 : decode cX6_use 3 = .ok (.invokevirtual 341, 3) := by decide +kernel
theorem dX6_use_6 : decode cX6_use 6 = .ok (.istore_n 3, 1) := by decide +kernel
theorem dX6_use_7 : decode cX6_use 7 = .ok (.iload_n 3, 1) := by decide +kernel
theorem dX6_use_8 : decode cX6_use 8 = .ok (.ifCond .ge 5, 3) := by decide +kernel
theorem dX6_use_11 : decode cX6_use 11 = .ok (.iload_n 3, 1) := by decide +kernel
theorem dX6_use_12 : decode cX6_use 12 = .ok (.ireturn, 1) := by decide +kernel
theorem dX6_use_13 : decode cX6_use 13 = .ok (.aload_n 0, 1) := by decide +kernel
theorem dX6_use_14 : decode cX6_use 14 = .ok (.getfield 44, 3) := by decide +kernel
theorem dX6_use_17 : decode cX6_use 17 = .ok (.iload_n 1, 1) := by decide +kernel
theorem dX6_use_18 : decode cX6_use 18 = .ok (.iload_n 2, 1) := by decide +kernel
theorem dX6_use_19 : decode cX6_use 19 = .ok (.invokevirtual 344, 3) := by decide +kernel
theorem dX6_use_22 : decode cX6_use 22 = .ok (.astore 4, 2) := by decide +kernel
theorem dX6_use_24 : decode cX6_use 24 = .ok (.iload_n 3, 1) := by decide +kernel
theorem dX6_use_25 : decode cX6_use 25 = .ok (.ifCond .ne 26, 3) := by decide +kernel
theorem dX6_use_28 : decode cX6_use 28 = .ok (.aload_n 0, 1) := by decide +kernel
theorem dX6_use_29 : decode cX6_use 29 = .ok (.aload 4, 2) := by decide +kernel
theorem dX6_use_31 : decode cX6_use 31 = .ok (.iconst 0, 1) := by decide +kernel
theorem dX6_use_32 : decode cX6_use 32 = .ok (.iaload, 1) := by decide +kernel
theorem dX6_use_33 : decode cX6_use 33 = .ok (.aload 4, 2) := by decide +kernel
theorem dX6_use_35 : decode cX6_use 35 = .ok (.iconst 1, 1) := by decide +kernel
theorem dX6_use_36 : decode cX6_use 36 = .ok (.iaload, 1) := by decide +kernel
theorem dX6_use_37 : decode cX6_use 37 = .ok (.aload 4, 2) := by decide +kernel
theorem dX6_use_39 : decode cX6_use 39 = .ok (.iconst 2, 1) := by decide +kernel
theorem dX6_use_40 : decode cX6_use 40 = .ok (.iaload, 1) := by decide +kernel
theorem dX6_use_41 : decode cX6_use 41 = .ok (.aload 4, 2) := by decide +kernel
theorem dX6_use_43 : decode cX6_use 43 = .ok (.iconst 3, 1) := by decide +kernel
theorem dX6_use_44 : decode cX6_use 44 = .ok (.iaload, 1) := by decide +kernel
theorem dX6_use_45 : decode cX6_use 45 = .ok (.invokevirtual 348, 3) := by decide +kernel
theorem dX6_use_48 : decode cX6_use 48 = .ok (.goto 23, 3) := by decide +kernel
theorem dX6_use_51 : decode cX6_use 51 = .ok (.aload_n 0, 1) := by decide +kernel
theorem dX6_use_52 : decode cX6_use 52 = .ok (.aload 4, 2) := by decide +kernel
theorem dX6_use_54 : decode cX6_use 54 = .ok (.iconst 0, 1) := by decide +kernel
theorem dX6_use_55 : decode cX6_use 55 = .ok (.iaload, 1) := by decide +kernel
theorem dX6_use_56 : decode cX6_use 56 = .ok (.aload 4, 2) := by decide +kernel
theorem dX6_use_58 : decode cX6_use 58 = .ok (.iconst 1, 1) := by decide +kernel
theorem dX6_use_59 : decode cX6_use 59 = .ok (.iaload, 1) := by decide +kernel
theorem dX6_use_60 : decode cX6_use 60 = .ok (.aload 4, 2) := by decide +kernel
theorem dX6_use_62 : decode cX6_use 62 = .ok (.iconst 2, 1) := by decide +kernel
theorem dX6_use_63 : decode cX6_use 63 = .ok (.iaload, 1) := by decide +kernel
theorem dX6_use_64 : decode cX6_use 64 = .ok (.aload 4, 2) := by decide +kernel
theorem dX6_use_66 : decode cX6_use 66 = .ok (.iconst 3, 1) := by decide +kernel
theorem dX6_use_67 : decode cX6_use 67 = .ok (.iaload, 1) := by decide +kernel
theorem dX6_use_68 : decode cX6_use 68 = .ok (.invokevirtual 351, 3) := by decide +kernel
theorem dX6_use_71 : decode cX6_use 71 = .ok (.ireturn, 1) := by decide +kernel
theorem dX6_filed_0 : decode cX6_filed 0 = .ok (.aload_n 0, 1) := by decide +kernel
theorem dX6_filed_1 : decode cX6_filed 1 = .ok (.getfield 44, 3) := by decide +kernel
theorem dX6_filed_4 : decode cX6_filed 4 = .ok (.iload_n 1, 1) := by decide +kernel
theorem dX6_filed_5 : decode cX6_filed 5 = .ok (.iload_n 2, 1) := by decide +kernel
theorem dX6_filed_6 : decode cX6_filed 6 = .ok (.invokevirtual 320, 3) := by decide +kernel
theorem dX6_filed_9 : decode cX6_filed 9 = .ok (.ifCond .eq 15, 3) := by decide +kernel
theorem dX6_filed_12 : decode cX6_filed 12 = .ok (.aload_n 0, 1) := by decide +kernel
theorem dX6_filed_13 : decode cX6_filed 13 = .ok (.getfield 44, 3) := by decide +kernel
theorem dX6_filed_16 : decode cX6_filed 16 = .ok (.iload_n 1, 1) := by decide +kernel
theorem dX6_filed_17 : decode cX6_filed 17 = .ok (.iload_n 2, 1) := by decide +kernel
theorem dX6_filed_18 : decode cX6_filed 18 = .ok (.invokevirtual 354, 3) := by decide +kernel
theorem dX6_filed_21 : decode cX6_filed 21 = .ok (.goto 4, 3) := by decide +kernel
theorem dX6_filed_24 : decode cX6_filed 24 = .ok (.iconst (-1), 1) := by decide +kernel
theorem dX6_filed_25 : decode cX6_filed 25 = .ok (.ireturn, 1) := by decide +kernel
theorem dX6_save_0 : decode cX6_save 0 = .ok (.aload_n 0, 1) := by decide +kernel
theorem dX6_save_1 : decode cX6_save 1 = .ok (.getfield 24, 3) := by decide +kernel
theorem dX6_save_4 : decode cX6_save 4 = .ok (.aload_n 0, 1) := by decide +kernel
theorem dX6_save_5 : decode cX6_save 5 = .ok (.getfield 20, 3) := by decide +kernel
theorem dX6_save_8 : decode cX6_save 8 = .ok (.invokevirtual 357, 3) := by decide +kernel
theorem dX6_save_11 : decode cX6_save 11 = .ok (.aload_n 0, 1) := by decide +kernel
theorem dX6_save_12 : decode cX6_save 12 = .ok (.iconst 1, 1) := by decide +kernel
theorem dX6_save_13 : decode cX6_save 13 = .ok (.putfield 360, 3) := by decide +kernel
theorem dX6_save_16 : decode cX6_save 16 = .ok (.aload_n 0, 1) := by decide +kernel
theorem dX6_save_17 : decode cX6_save 17 = .ok (.getfield 20, 3) := by decide +kernel
theorem dX6_save_20 : decode cX6_save 20 = .ok (.getfield 129, 3) := by decide +kernel
theorem dX6_save_23 : decode cX6_save 23 = .ok (.ireturn, 1) := by decide +kernel
theorem dX6_restore_0 : decode cX6_restore 0 = .ok (.aload_n 0, 1) := by decide +kernel
theorem dX6_restore_1 : decode cX6_restore 1 = .ok (.getfield 360, 3) := by decide +kernel
theorem dX6_restore_4 : decode cX6_restore 4 = .ok (.ifCond .ne 6, 3) := by decide +kernel
theorem dX6_restore_7 : decode cX6_restore 7 = .ok (.bipush (-5), 2) := by decide +kernel
theorem dX6_restore_9 : decode cX6_restore 9 = .ok (.ireturn, 1) := by decide +kernel
theorem dX6_restore_10 : decode cX6_restore 10 = .ok (.aload_n 0, 1) := by decide +kernel
theorem dX6_restore_11 : decode cX6_restore 11 = .ok (.getfield 20, 3) := by decide +kernel
theorem dX6_restore_14 : decode cX6_restore 14 = .ok (.aload_n 0, 1) := by decide +kernel
theorem dX6_restore_15 : decode cX6_restore 15 = .ok (.getfield 24, 3) := by decide +kernel
theorem dX6_restore_18 : decode cX6_restore 18 = .ok (.invokevirtual 357, 3) := by decide +kernel
theorem dX6_restore_21 : decode cX6_restore 21 = .ok (.aload_n 0, 1) := by decide +kernel
theorem dX6_restore_22 : decode cX6_restore 22 = .ok (.getfield 30, 3) := by decide +kernel
theorem dX6_restore_25 : decode cX6_restore 25 = .ok (.invokevirtual 364, 3) := by decide +kernel
theorem dX6_restore_28 : decode cX6_restore 28 = .ok (.aload_n 0, 1) := by decide +kernel
theorem dX6_restore_29 : decode cX6_restore 29 = .ok (.getfield 20, 3) := by decide +kernel
theorem dX6_restore_32 : decode cX6_restore 32 = .ok (.getfield 129, 3) := by decide +kernel
theorem dX6_restore_35 : decode cX6_restore 35 = .ok (.ireturn, 1) := by decide +kernel
theorem dX6_changed_0 : decode cX6_changed 0 = .ok (.iload_n 1, 1) := by decide +kernel
theorem dX6_changed_1 : decode cX6_changed 1 = .ok (.ifCond .lt 10, 3) := by decide +kernel
theorem dX6_changed_4 : decode cX6_changed 4 = .ok (.aload_n 0, 1) := by decide +kernel
theorem dX6_changed_5 : decode cX6_changed 5 = .ok (.getfield 30, 3) := by decide +kernel
theorem dX6_changed_8 : decode cX6_changed 8 = .ok (.invokevirtual 367, 3) := by decide +kernel
theorem dX6_changed_11 : decode cX6_changed 11 = .ok (.iload_n 1, 1) := by decide +kernel
theorem dX6_changed_12 : decode cX6_changed 12 = .ok (.ireturn, 1) := by decide +kernel
theorem dX6_makeEntry_0 : decode cX6_makeEntry 0 = .ok (.aload_n 0, 1) := by decide +kernel
theorem dX6_makeEntry_1 : decode cX6_makeEntry 1 = .ok (.getfield 37, 3) := by decide +kernel
theorem dX6_makeEntry_4 : decode cX6_makeEntry 4 = .ok (.getfield 370, 3) := by decide +kernel
theorem dX6_makeEntry_7 : decode cX6_makeEntry 7 = .ok (.iload_n 1, 1) := by decide +kernel
theorem dX6_makeEntry_8 : decode cX6_makeEntry 8 = .ok (.aaload, 1) := by decide +kernel
theorem dX6_makeEntry_9 : decode cX6_makeEntry 9 = .ok (.iconst 0, 1) := by decide +kernel
theorem dX6_makeEntry_10 : decode cX6_makeEntry 10 = .ok (.iaload, 1) := by decide +kernel
theorem dX6_makeEntry_11 : decode cX6_makeEntry 11 = .ok (.istore_n 2, 1) := by decide +kernel
theorem dX6_makeEntry_12 : decode cX6_makeEntry 12 = .ok (.aload_n 0, 1) := by decide +kernel
theorem dX6_makeEntry_13 : decode cX6_makeEntry 13 = .ok (.getfield 37, 3) := by decide +kernel
theorem dX6_makeEntry_16 : decode cX6_makeEntry 16 = .ok (.getfield 370, 3) := by decide +kernel
theorem dX6_makeEntry_19 : decode cX6_makeEntry 19 = .ok (.iload_n 1, 1) := by decide +kernel
theorem dX6_makeEntry_20 : decode cX6_makeEntry 20 = .ok (.aaload, 1) := by decide +kernel
theorem dX6_makeEntry_21 : decode cX6_makeEntry 21 = .ok (.iconst 1, 1) := by decide +kernel
theorem dX6_makeEntry_22 : decode cX6_makeEntry 22 = .ok (.iaload, 1) := by decide +kernel
theorem dX6_makeEntry_23 : decode cX6_makeEntry 23 = .ok (.istore_n 3, 1) := by decide +kernel
theorem dX6_makeEntry_24 : decode cX6_makeEntry 24 = .ok (.aload_n 0, 1) := by decide +kernel
theorem dX6_makeEntry_25 : decode cX6_makeEntry 25 = .ok (.getfield 37, 3) := by decide +kernel
theorem dX6_makeEntry_28 : decode cX6_makeEntry 28 = .ok (.getfield 370, 3) := by decide +kernel
theorem dX6_makeEntry_31 : decode cX6_makeEntry 31 = .ok (.iload_n 1, 1) := by decide +kernel
theorem dX6_makeEntry_32 : decode cX6_makeEntry 32 = .ok (.aaload, 1) := by decide +kernel
theorem dX6_makeEntry_33 : decode cX6_makeEntry 33 = .ok (.iconst 2, 1) := by decide +kernel
theorem dX6_makeEntry_34 : decode cX6_makeEntry 34 = .ok (.iaload, 1) := by decide +kernel
theorem dX6_makeEntry_35 : decode cX6_makeEntry 35 = .ok (.istore 4, 2) := by decide +kernel
theorem dX6_makeEntry_37 : decode cX6_makeEntry 37 = .ok (.aload_n 0, 1) := by decide +kernel
theorem dX6_makeEntry_38 : decode cX6_makeEntry 38 = .ok (.getfield 37, 3) := by decide +kernel
theorem dX6_makeEntry_41 : decode cX6_makeEntry 41 = .ok (.getfield 373, 3) := by decide +kernel
theorem dX6_makeEntry_44 : decode cX6_makeEntry 44 = .ok (.iload_n 1, 1) := by decide +kernel
theorem dX6_makeEntry_45 : decode cX6_makeEntry 45 = .ok (.caload, 1) := by decide +kernel
theorem dX6_makeEntry_46 : decode cX6_makeEntry 46 = .ok (.istore 5, 2) := by decide +kernel
theorem dX6_makeEntry_48 : decode cX6_makeEntry 48 = .ok (.iload 5, 2) := by decide +kernel
theorem dX6_makeEntry_50 : decode cX6_makeEntry 50 = .ok (.bipush 101, 2) := by decide +kernel
theorem dX6_makeEntry_52 : decode cX6_makeEntry 52 = .ok (.if_icmp .ne 12, 3) := by decide +kernel
theorem dX6_makeEntry_55 : decode cX6_makeEntry 55 = .ok (.aload_n 0, 1) := by decide +kernel
theorem dX6_makeEntry_56 : decode cX6_makeEntry 56 = .ok (.getfield 20, 3) := by decide +kernel
theorem dX6_makeEntry_59 : decode cX6_makeEntry 59 = .ok (.iload_n 2, 1) := by decide +kernel
theorem dX6_makeEntry_60 : decode cX6_makeEntry 60 = .ok (.invokevirtual 67, 3) := by decide +kernel
theorem dX6_makeEntry_63 : decode cX6_makeEntry 63 = .ok (.ireturn, 1) := by decide +kernel
theorem dX6_makeEntry_64 : decode cX6_makeEntry 64 = .ok (.iload 5, 2) := by decide +kernel
theorem dX6_makeEntry_66 : decode cX6_makeEntry 66 = .ok (.bipush 99, 2) := by decide +kernel
theorem dX6_makeEntry_68 : decode cX6_makeEntry 68 = .ok (.if_icmp .ne 17, 3) := by decide +kernel
theorem dX6_makeEntry_71 : decode cX6_makeEntry 71 = .ok (.aload_n 0, 1) := by decide +kernel
theorem dX6_makeEntry_72 : decode cX6_makeEntry 72 = .ok (.getfield 20, 3) := by decide +kernel
theorem dX6_makeEntry_75 : decode cX6_makeEntry 75 = .ok (.iload_n 2, 1) := by decide +kernel
theorem dX6_makeEntry_76 : decode cX6_makeEntry 76 = .ok (.iload_n 3, 1) := by decide +kernel
theorem dX6_makeEntry_77 : decode cX6_makeEntry 77 = .ok (.iload 4, 2) := by decide +kernel
theorem dX6_makeEntry_79 : decode cX6_makeEntry 79 = .ok (.invokevirtual 70, 3) := by decide +kernel
theorem dX6_makeEntry_82 : decode cX6_makeEntry 82 = .ok (.goto 12, 3) := by decide +kernel
theorem dX6_makeEntry_85 : decode cX6_makeEntry 85 = .ok (.aload_n 0, 1) := by decide +kernel
theorem dX6_makeEntry_86 : decode cX6_makeEntry 86 = .ok (.getfield 20, 3) := by decide +kernel
theorem dX6_makeEntry_89 : decode cX6_makeEntry 89 = .ok (.iload_n 2, 1) := by decide +kernel
theorem dX6_makeEntry_90 : decode cX6_makeEntry 90 = .ok (.iload_n 3, 1) := by decide +kernel
theorem dX6_makeEntry_91 : decode cX6_makeEntry 91 = .ok (.invokevirtual 87, 3) := by decide +kernel
theorem dX6_makeEntry_94 : decode cX6_makeEntry 94 = .ok (.ireturn, 1) := by decide +kernel
theorem dX6_answerOf_0 : decode cX6_answerOf 0 = .ok (.aload_n 0, 1) := by decide +kernel
theorem dX6_answerOf_1 : decode cX6_answerOf 1 = .ok (.getfield 20, 3) := by decide +kernel
theorem dX6_answerOf_4 : decode cX6_answerOf 4 = .ok (.iload_n 2, 1) := by decide +kernel
theorem dX6_answerOf_5 : decode cX6_answerOf 5 = .ok (.invokevirtual 194, 3) := by decide +kernel
theorem dX6_answerOf_8 : decode cX6_answerOf 8 = .ok (.ifCond .eq 14, 3) := by decide +kernel
theorem dX6_answerOf_11 : decode cX6_answerOf 11 = .ok (.aload_n 0, 1) := by decide +kernel
theorem dX6_answerOf_12 : decode cX6_answerOf 12 = .ok (.getfield 20, 3) := by decide +kernel
theorem dX6_answerOf_15 : decode cX6_answerOf 15 = .ok (.iload_n 3, 1) := by decide +kernel
theorem dX6_answerOf_16 : decode cX6_answerOf 16 = .ok (.invokevirtual 138, 3) := by decide +kernel
theorem dX6_answerOf_19 : decode cX6_answerOf 19 = .ok (.ifCond .ne 5, 3) := by decide +kernel
theorem dX6_answerOf_22 : decode cX6_answerOf 22 = .ok (.iconst (-1), 1) := by decide +kernel
theorem dX6_answerOf_23 : decode cX6_answerOf 23 = .ok (.ireturn, 1) := by decide +kernel
theorem dX6_answerOf_24 : decode cX6_answerOf 24 = .ok (.aload_n 0, 1) := by decide +kernel
theorem dX6_answerOf_25 : decode cX6_answerOf 25 = .ok (.getfield 10, 3) := by decide +kernel
theorem dX6_answerOf_28 : decode cX6_answerOf 28 = .ok (.invokevirtual 142, 3) := by decide +kernel
theorem dX6_answerOf_31 : decode cX6_answerOf 31 = .ok (.aload_n 1, 1) := by decide +kernel
theorem dX6_answerOf_32 : decode cX6_answerOf 32 = .ok (.iload_n 2, 1) := by decide +kernel
theorem dX6_answerOf_33 : decode cX6_answerOf 33 = .ok (.aaload, 1) := by decide +kernel
theorem dX6_answerOf_34 : decode cX6_answerOf 34 = .ok (.iload_n 3, 1) := by decide +kernel
theorem dX6_answerOf_35 : decode cX6_answerOf 35 = .ok (.iaload, 1) := by decide +kernel
theorem dX6_answerOf_36 : decode cX6_answerOf 36 = .ok (.ireturn, 1) := by decide +kernel
theorem dX6_isWithin_0 : decode cX6_isWithin 0 = .ok (.iload_n 0, 1) := by decide +kernel
theorem dX6_isWithin_1 : decode cX6_isWithin 1 = .ok (.iload_n 1, 1) := by decide +kernel
theorem dX6_isWithin_2 : decode cX6_isWithin 2 = .ok (.if_icmp .lt 12, 3) := by decide +kernel
theorem dX6_isWithin_5 : decode cX6_isWithin 5 = .ok (.iload_n 0, 1) := by decide +kernel
theorem dX6_isWithin_6 : decode cX6_isWithin 6 = .ok (.iload_n 2, 1) := by decide +kernel
theorem dX6_isWithin_7 : decode cX6_isWithin 7 = .ok (.if_icmp .gt 7, 3) := by decide +kernel
theorem dX6_isWithin_10 : decode cX6_isWithin 10 = .ok (.iconst 1, 1) := by decide +kernel
theorem dX6_isWithin_11 : decode cX6_isWithin 11 = .ok (.goto 4, 3) := by decide +kernel
theorem dX6_isWithin_14 : decode cX6_isWithin 14 = .ok (.iconst 0, 1) := by decide +kernel
theorem dX6_isWithin_15 : decode cX6_isWithin 15 = .ok (.ireturn, 1) := by decide +kernel
theorem dX6_quotient_0 : decode cX6_quotient 0 = .ok (.lload_n 2, 1) := by decide +kernel
theorem dX6_quotient_1 : decode cX6_quotient 1 = .ok (.lconst 0, 1) := by decide +kernel
theorem dX6_quotient_2 : decode cX6_quotient 2 = .ok (.lcmp, 1) := by decide +kernel
theorem dX6_quotient_3 : decode cX6_quotient 3 = .ok (.ifCond .le 10, 3) := by decide +kernel
theorem dX6_quotient_6 : decode cX6_quotient 6 = .ok (.lload_n 0, 1) := by decide +kernel
theorem dX6_quotient_7 : decode cX6_quotient 7 = .ok (.lload_n 2, 1) := by decide +kernel
theorem dX6_quotient_8 : decode cX6_quotient 8 = .ok (.ldiv, 1) := by decide +kernel
theorem dX6_quotient_9 : decode cX6_quotient 9 = .ok (.l2i, 1) := by decide +kernel
theorem dX6_quotient_10 : decode cX6_quotient 10 = .ok (.goto 4, 3) := by decide +kernel
theorem dX6_quotient_13 : decode cX6_quotient 13 = .ok (.iconst 0, 1) := by decide +kernel
theorem dX6_quotient_14 : decode cX6_quotient 14 = .ok (.ireturn, 1) := by decide +kernel
theorem dX6_sumOf_0 : decode cX6_sumOf 0 = .ok (.iconst 0, 1) := by decide +kernel
theorem dX6_sumOf_1 : decode cX6_sumOf 1 = .ok (.istore_n 2, 1) := by decide +kernel
theorem dX6_sumOf_2 : decode cX6_sumOf 2 = .ok (.iconst 0, 1) := by decide +kernel
theorem dX6_sumOf_3 : decode cX6_sumOf 3 = .ok (.istore_n 3, 1) := by decide +kernel
theorem dX6_sumOf_4 : decode cX6_sumOf 4 = .ok (.iload_n 3, 1) := by decide +kernel
theorem dX6_sumOf_5 : decode cX6_sumOf 5 = .ok (.iload_n 1, 1) := by decide +kernel
theorem dX6_sumOf_6 : decode cX6_sumOf 6 = .ok (.if_icmp .ge 15, 3) := by decide +kernel
theorem dX6_sumOf_9 : decode cX6_sumOf 9 = .ok (.iload_n 2, 1) := by decide +kernel
theorem dX6_sumOf_10 : decode cX6_sumOf 10 = .ok (.aload_n 0, 1) := by decide +kernel
theorem dX6_sumOf_11 : decode cX6_sumOf 11 = .ok (.iload_n 3, 1) := by decide +kernel
theorem dX6_sumOf_12 : decode cX6_sumOf 12 = .ok (.iaload, 1) := by decide +kernel
theorem dX6_sumOf_13 : decode cX6_sumOf 13 = .ok (.iadd, 1) := by decide +kernel
theorem dX6_sumOf_14 : decode cX6_sumOf 14 = .ok (.istore_n 2, 1) := by decide +kernel
theorem dX6_sumOf_15 : decode cX6_sumOf 15 = .ok (.iinc 3 1, 3) := by decide +kernel
theorem dX6_sumOf_18 : decode cX6_sumOf 18 = .ok (.goto (-14), 3) := by decide +kernel
theorem dX6_sumOf_21 : decode cX6_sumOf 21 = .ok (.iload_n 2, 1) := by decide +kernel
theorem dX6_sumOf_22 : decode cX6_sumOf 22 = .ok (.ireturn, 1) := by decide +kernel
theorem dX6_bitsOfFloat_0 : decode cX6_bitsOfFloat 0 = .ok (.fload_n 0, 1) := by decide +kernel
theorem dX6_bitsOfFloat_1 : decode cX6_bitsOfFloat 1 = .ok (.fconst 0, 1) := by decide +kernel
theorem dX6_bitsOfFloat_2 : decode cX6_bitsOfFloat 2 = .ok (.fcmp .g, 1) := by decide +kernel
theorem dX6_bitsOfFloat_3 : decode cX6_bitsOfFloat 3 = .ok (.ifCond .gt 5, 3) := by decide +kernel
theorem dX6_bitsOfFloat_6 : decode cX6_bitsOfFloat 6 = .ok (.iconst 0, 1) := by decide +kernel
theorem dX6_bitsOfFloat_7 : decode cX6_bitsOfFloat 7 = .ok (.ireturn, 1) := by decide +kernel
theorem dX6_bitsOfFloat_8 : decode cX6_bitsOfFloat 8 = .ok (.fload_n 0, 1) := by decide +kernel
theorem dX6_bitsOfFloat_9 : decode cX6_bitsOfFloat 9 = .ok (.fstore_n 1, 1) := by decide +kernel
theorem dX6_bitsOfFloat_10 : decode cX6_bitsOfFloat 10 = .ok (.bipush 127, 2) := by decide +kernel
theorem dX6_bitsOfFloat_12 : decode cX6_bitsOfFloat 12 = .ok (.istore_n 2, 1) := by decide +kernel
theorem dX6_bitsOfFloat_13 : decode cX6_bitsOfFloat 13 = .ok (.fload_n 1, 1) := by decide +kernel
theorem dX6_bitsOfFloat_14 : decode cX6_bitsOfFloat 14 = .ok (.fconst 2, 1) := by decide +kernel
theorem dX6_bitsOfFloat_15 : decode cX6_bitsOfFloat 15 = .ok (.fcmp .l, 1) := by decide +kernel
theorem dX6_bitsOfFloat_16 : decode cX6_bitsOfFloat 16 = .ok (.ifCond .lt 20, 3) := by decide +kernel
theorem dX6_bitsOfFloat_19 : decode cX6_bitsOfFloat 19 = .ok (.iload_n 2, 1) := by decide +kernel
theorem dX6_bitsOfFloat_20 : decode cX6_bitsOfFloat 20 = .ok (.sipush 254, 3) := by decide +kernel
theorem dX6_bitsOfFloat_23 : decode cX6_bitsOfFloat 23 = .ok (.if_icmp .ge 13, 3) := by decide +kernel
theorem dX6_bitsOfFloat_26 : decode cX6_bitsOfFloat 26 = .ok (.fload_n 1, 1) := by decide +kernel
theorem dX6_bitsOfFloat_27 : decode cX6_bitsOfFloat 27 = .ok (.fconst 2, 1) := by decide +kernel
theorem dX6_bitsOfFloat_28 : decode cX6_bitsOfFloat 28 = .ok (.fdiv, 1) := by decide +kernel
theorem dX6_bitsOfFloat_29 : decode cX6_bitsOfFloat 29 = .ok (.fstore_n 1, 1) := by decide +kernel
theorem dX6_bitsOfFloat_30 : decode cX6_bitsOfFloat 30 = .ok (.iinc 2 1, 3) := by decide +kernel
theorem dX6_bitsOfFloat_33 : decode cX6_bitsOfFloat 33 = .ok (.goto (-20), 3) := by decide +kernel
theorem dX6_bitsOfFloat_36 : decode cX6_bitsOfFloat 36 = .ok (.fload_n 1, 1) := by decide +kernel
theorem dX6_bitsOfFloat_37 : decode cX6_bitsOfFloat 37 = .ok (.fconst 1, 1) := by decide +kernel
theorem dX6_bitsOfFloat_38 : decode cX6_bitsOfFloat 38 = .ok (.fcmp .g, 1) := by decide +kernel
theorem dX6_bitsOfFloat_39 : decode cX6_bitsOfFloat 39 = .ok (.ifCond .ge 18, 3) := by decide +kernel
theorem dX6_bitsOfFloat_42 : decode cX6_bitsOfFloat 42 = .ok (.iload_n 2, 1) := by decide +kernel
theorem dX6_bitsOfFloat_43 : decode cX6_bitsOfFloat 43 = .ok (.iconst 1, 1) := by decide +kernel
theorem dX6_bitsOfFloat_44 : decode cX6_bitsOfFloat 44 = .ok (.if_icmp .le 13, 3) := by decide +kernel
theorem dX6_bitsOfFloat_47 : decode cX6_bitsOfFloat 47 = .ok (.fload_n 1, 1) := by decide +kernel
theorem dX6_bitsOfFloat_48 : decode cX6_bitsOfFloat 48 = .ok (.fconst 2, 1) := by decide +kernel
theorem dX6_bitsOfFloat_49 : decode cX6_bitsOfFloat 49 = .ok (.fmul, 1) := by decide +kernel
theorem dX6_bitsOfFloat_50 : decode cX6_bitsOfFloat 50 = .ok (.fstore_n 1, 1) := by decide +kernel
theorem dX6_bitsOfFloat_51 : decode cX6_bitsOfFloat 51 = .ok (.iinc 2 (-1), 3) := by decide +kernel
theorem dX6_bitsOfFloat_54 : decode cX6_bitsOfFloat 54 = .ok (.goto (-18), 3) := by decide +kernel
theorem dX6_bitsOfFloat_57 : decode cX6_bitsOfFloat 57 = .ok (.iload_n 2, 1) := by decide +kernel
theorem dX6_bitsOfFloat_58 : decode cX6_bitsOfFloat 58 = .ok (.bipush 23, 2) := by decide +kernel
theorem dX6_bitsOfFloat_60 : decode cX6_bitsOfFloat 60 = .ok (.ishl, 1) := by decide +kernel
theorem dX6_bitsOfFloat_61 : decode cX6_bitsOfFloat 61 = .ok (.fload_n 1, 1) := by decide +kernel
theorem dX6_bitsOfFloat_62 : decode cX6_bitsOfFloat 62 = .ok (.fconst 1, 1) := by decide +kernel
theorem dX6_bitsOfFloat_63 : decode cX6_bitsOfFloat 63 = .ok (.fsub, 1) := by decide +kernel
theorem dX6_bitsOfFloat_64 : decode cX6_bitsOfFloat 64 = .ok (.ldc_w 377, 3) := by decide +kernel
theorem dX6_bitsOfFloat_67 : decode cX6_bitsOfFloat 67 = .ok (.fmul, 1) := by decide +kernel
theorem dX6_bitsOfFloat_68 : decode cX6_bitsOfFloat 68 = .ok (.f2i, 1) := by decide +kernel
theorem dX6_bitsOfFloat_69 : decode cX6_bitsOfFloat 69 = .ok (.iadd, 1) := by decide +kernel
theorem dX6_bitsOfFloat_70 : decode cX6_bitsOfFloat 70 = .ok (.ireturn, 1) := by decide +kernel
theorem dX7_init_0 : decode cX7_init 0 = .ok (.aload_n 0, 1) := by decide +kernel
theorem dX7_init_1 : decode cX7_init 1 = .ok (.invokespecial 3, 3) := by decide +kernel
theorem dX7_init_4 : decode cX7_init 4 = .ok (.aload_n 0, 1) := by decide +kernel
theorem dX7_init_5 : decode cX7_init 5 = .ok (.sipush 136, 3) := by decide +kernel
theorem dX7_init_8 : decode cX7_init 8 = .ok (.newarray .int, 2) := by decide +kernel
theorem dX7_init_10 : decode cX7_init 10 = .ok (.putfield 9, 3) := by decide +kernel
theorem dX7_init_13 : decode cX7_init 13 = .ok (.aload_n 0, 1) := by decide +kernel
theorem dX7_init_14 : decode cX7_init 14 = .ok (.sipush 816, 3) := by decide +kernel
theorem dX7_init_17 : decode cX7_init 17 = .ok (.newarray .int, 2) := by decide +kernel
theorem dX7_init_19 : decode cX7_init 19 = .ok (.putfield 13, 3) := by decide +kernel
theorem dX7_init_22 : decode cX7_init 22 = .ok (.aload_n 0, 1) := by decide +kernel
theorem dX7_init_23 : decode cX7_init 23 = .ok (.sipush 136, 3) := by decide +kernel
theorem dX7_init_26 : decode cX7_init 26 = .ok (.newarray .int, 2) := by decide +kernel
theorem dX7_init_28 : decode cX7_init 28 = .ok (.putfield 16, 3) := by decide +kernel
theorem dX7_init_31 : decode cX7_init 31 = .ok (.aload_n 0, 1) := by decide +kernel
theorem dX7_init_32 : decode cX7_init 32 = .ok (.sipush 136, 3) := by decide +kernel
theorem dX7_init_35 : decode cX7_init 35 = .ok (.newarray .int, 2) := by decide +kernel
theorem dX7_init_37 : decode cX7_init 37 = .ok (.putfield 19, 3) := by decide +kernel
theorem dX7_init_40 : decode cX7_init 40 = .ok (.aload_n 0, 1) := by decide +kernel
theorem dX7_init_41 : decode cX7_init 41 = .ok (.iconst 0, 1) := by decide +kernel
theorem dX7_init_42 : decode cX7_init 42 = .ok (.putfield 22, 3) := by decide +kernel
theorem dX7_init_45 : decode cX7_init 45 = .ok (.aload_n 0, 1) := by decide +kernel
theorem dX7_init_46 : decode cX7_init 46 = .ok (.iconst 0, 1) := by decide +kernel
theorem dX7_init_47 : decode cX7_init 47 = .ok (.putfield 26, 3) := by decide +kernel
theorem dX7_init_50 : decode cX7_init 50 = .ok (.aload_n 0, 1) := by decide +kernel
theorem dX7_init_51 : decode cX7_init 51 = .ok (.bipush 60, 2) := by decide +kernel
theorem dX7_init_53 : decode cX7_init 53 = .ok (.newarray .int, 2) := by decide +kernel
theorem dX7_init_55 : decode cX7_init 55 = .ok (.putfield 30, 3) := by decide +kernel
theorem dX7_init_58 : decode cX7_init 58 = .ok (.aload_n 0, 1) := by decide +kernel
theorem dX7_init_59 : decode cX7_init 59 = .ok (.iconst 0, 1) := by decide +kernel
theorem dX7_init_60 : decode cX7_init 60 = .ok (.putfield 33, 3) := by decide +kernel
theorem dX7_init_63 : decode cX7_init 63 = .ok (.aload_n 0, 1) := by decide +kernel
theorem dX7_init_64 : decode cX7_init 64 = .ok (.iconst 0, 1) := by decide +kernel
theorem dX7_init_65 : decode cX7_init 65 = .ok (.putfield 36, 3) := by decide +kernel
theorem dX7_init_68 : decode cX7_init 68 = .ok (.aload_n 0, 1) := by decide +kernel
theorem dX7_init_69 : decode cX7_init 69 = .ok (.bipush (-4), 2) := by decide +kernel
theorem dX7_init_71 : decode cX7_init 71 = .ok (.putfield 39, 3) := by decide +kernel
theorem dX7_init_74 : decode cX7_init 74 = .ok (.aload_n 0, 1) := by decide +kernel
theorem dX7_init_75 : decode cX7_init 75 = .ok (.iconst 0, 1) := by decide +kernel
theorem dX7_init_76 : decode cX7_init 76 = .ok (.putfield 42, 3) := by decide +kernel
theorem dX7_init_79 : decode cX7_init 79 = .ok (.aload_n 0, 1) := by decide +kernel
theorem dX7_init_80 : decode cX7_init 80 = .ok (.iconst 3, 1) := by decide +kernel
theorem dX7_init_81 : decode cX7_init 81 = .ok (.newarray .int, 2) := by decide +kernel
theorem dX7_init_83 : decode cX7_init 83 = .ok (.putfield 45, 3) := by decide +kernel
theorem dX7_init_86 : decode cX7_init 86 = .ok (.aload_n 0, 1) := by decide +kernel
theorem dX7_init_87 : decode cX7_init 87 = .ok (.bipush 24, 2) := by decide +kernel
theorem dX7_init_89 : decode cX7_init 89 = .ok (.newarray .int, 2) := by decide +kernel
theorem dX7_init_91 : decode cX7_init 91 = .ok (.putfield 48, 3) := by decide +kernel
theorem dX7_init_94 : decode cX7_init 94 = .ok (.aload_n 0, 1) := by decide +kernel
theorem dX7_init_95 : decode cX7_init 95 = .ok (.bipush 12, 2) := by decide +kernel
theorem dX7_init_97 : decode cX7_init 97 = .ok (.newarray .int, 2) := by decide +kernel
theorem dX7_init_99 : decode cX7_init 99 = .ok (.putfield 51, 3) := by decide +kernel
theorem dX7_init_102 : decode cX7_init 102 = .ok (.aload_n 0, 1) := by decide +kernel
theorem dX7_init_103 : decode cX7_init 103 = .ok (.bipush 48, 2) := by decide +kernel
theorem dX7_init_105 : decode cX7_init 105 = .ok (.newarray .int, 2) := by decide +kernel
theorem dX7_init_107 : decode cX7_init 107 = .ok (.putfield 54, 3) := by decide +kernel
theorem dX7_init_110 : decode cX7_init 110 = .ok (.return_, 1) := by decide +kernel
theorem dX7_in_0 : decode cX7_in 0 = .ok (.iload_n 0, 1) := by decide +kernel
theorem dX7_in_1 : decode cX7_in 1 = .ok (.iload_n 1, 1) := by decide +kernel
theorem dX7_in_2 : decode cX7_in 2 = .ok (.if_icmp .lt 12, 3) := by decide +kernel
theorem dX7_in_5 : decode cX7_in 5 = .ok (.iload_n 0, 1) := by decide +kernel
theorem dX7_in_6 : decode cX7_in 6 = .ok (.iload_n 2, 1) := by decide +kernel
theorem dX7_in_7 : decode cX7_in 7 = .ok (.if_icmp .gt 7, 3) := by decide +kernel
theorem dX7_in_10 : decode cX7_in 10 = .ok (.iconst 1, 1) := by decide +kernel
theorem dX7_in_11 : decode cX7_in 11 = .ok (.goto 4, 3) := by decide +kernel
theorem dX7_in_14 : decode cX7_in 14 = .ok (.iconst 0, 1) := by decide +kernel
theorem dX7_in_15 : decode cX7_in 15 = .ok (.ireturn, 1) := by decide +kernel
theorem dX7_copies_0 : decode cX7_copies 0 = .ok (.iconst 0, 1) := by decide +kernel
theorem dX7_copies_1 : decode cX7_copies 1 = .ok (.istore 4, 2) := by decide +kernel
theorem dX7_copies_3 : decode cX7_copies 3 = .ok (.iload 4, 2) := by decide +kernel
theorem dX7_copies_5 : decode cX7_copies 5 = .ok (.sipush 136, 3) := by decide +kernel
theorem dX7_copies_8 : decode cX7_copies 8 = .ok (.if_icmp .ge 21, 3) := by decide +kernel
theorem dX7_copies_11 : decode cX7_copies 11 = .ok (.aload_n 2, 1) := by decide +kernel
theorem dX7_copies_12 : decode cX7_copies 12 = .ok (.iload_n 3, 1) := by decide +kernel
theorem dX7_copies_13 : decode cX7_copies 13 = .ok (.iload 4, 2) := by decide +kernel
theorem dX7_copies_15 : decode cX7_copies 15 = .ok (.iadd, 1) := by decide +kernel
theorem dX7_copies_16 : decode cX7_copies 16 = .ok (.aload_n 0, 1) := by decide +kernel
theorem dX7_copies_17 : decode cX7_copies 17 = .ok (.iload_n 1, 1) := by decide +kernel
theorem dX7_copies_18 : decode cX7_copies 18 = .ok (.iload 4, 2) := by decide +kernel
theorem dX7_copies_20 : decode cX7_copies 20 = .ok (.iadd, 1) := by decide +kernel
theorem dX7_copies_21 : decode cX7_copies 21 = .ok (.iaload, 1) := by decide +kernel
theorem dX7_copies_22 : decode cX7_copies 22 = .ok (.iastore, 1) := by decide +kernel
theorem dX7_copies_23 : decode cX7_copies 23 = .ok (.iinc 4 1, 3) := by decide +kernel
theorem dX7_copies_26 : decode cX7_copies 26 = .ok (.goto (-23), 3) := by decide +kernel
theorem dX7_copies_29 : decode cX7_copies 29 = .ok (.return_, 1) := by decide +kernel
theorem dX7_keeps_0 : decode cX7_keeps 0 = .ok (.aload_n 0, 1) := by decide +kernel
theorem dX7_keeps_1 : decode cX7_keeps 1 = .ok (.getfield 9, 3) := by decide +kernel
theorem dX7_keeps_4 : decode cX7_keeps 4 = .ok (.iconst 0, 1) := by decide +kernel
theorem dX7_keeps_5 : decode cX7_keeps 5 = .ok (.aload_n 0, 1) := by decide +kernel
theorem dX7_keeps_6 : decode cX7_keeps 6 = .ok (.getfield 19, 3) := by decide +kernel
theorem dX7_keeps_9 : decode cX7_keeps 9 = .ok (.iconst 0, 1) := by decide +kernel
theorem dX7_keeps_10 : decode cX7_keeps 10 = .ok (.invokestatic 57, 3) := by decide +kernel
theorem dX7_keeps_13 : decode cX7_keeps 13 = .ok (.return_, 1) := by decide +kernel
theorem dX7_changes_0 : decode cX7_changes 0 = .ok (.aload_n 0, 1) := by decide +kernel
theorem dX7_changes_1 : decode cX7_changes 1 = .ok (.getfield 22, 3) := by decide +kernel
theorem dX7_changes_4 : decode cX7_changes 4 = .ok (.bipush 6, 2) := by decide +kernel
theorem dX7_changes_6 : decode cX7_changes 6 = .ok (.if_icmp .ne 50, 3) := by decide +kernel
theorem dX7_changes_9 : decode cX7_changes 9 = .ok (.iconst 1, 1) := by decide +kernel
theorem dX7_changes_10 : decode cX7_changes 10 = .ok (.istore_n 1, 1) := by decide +kernel
theorem dX7_changes_11 : decode cX7_changes 11 = .ok (.iload_n 1, 1) := by decide +kernel
theorem dX7_changes_12 : decode cX7_changes 12 = .ok (.bipush 6, 2) := by decide +kernel
theorem dX7_changes_14 : decode cX7_changes 14 = .ok (.if_icmp .ge 32, 3) := by decide +kernel
theorem dX7_changes_17 : decode cX7_changes 17 = .ok (.aload_n 0, 1) := by decide +kernel
theorem dX7_changes_18 : decode cX7_changes 18 = .ok (.getfield 13, 3) := by decide +kernel
theorem dX7_changes_21 : decode cX7_changes 21 = .ok (.sipush 136, 3) := by decide +kernel
theorem dX7_changes_24 : decode cX7_changes 24 = .ok (.iload_n 1, 1) := by decide +kernel
theorem dX7_changes_25 : decode cX7_changes 25 = .ok (.imul, 1) := by decide +kernel
theorem dX7_changes_26 : decode cX7_changes 26 = .ok (.aload_n 0, 1) := by decide +kernel
theorem dX7_changes_27 : decode cX7_changes 27 = .ok (.getfield 13, 3) := by decide +kernel
theorem dX7_changes_30 : decode cX7_changes 30 = .ok (.sipush 136, 3) := by decide +kernel
theorem dX7_changes_33 : decode cX7_changes 33 = .ok (.iload_n 1, 1) := by decide +kernel
theorem dX7_changes_34 : decode cX7_changes 34 = .ok (.iconst 1, 1) := by decide +kernel
theorem dX7_changes_35 : decode cX7_changes 35 = .ok (.isub, 1) := by decide +kernel
theorem dX7_changes_36 : decode cX7_changes 36 = .ok (.imul, 1) := by decide +kernel
theorem dX7_changes_37 : decode cX7_changes 37 = .ok (.invokestatic 57, 3) := by decide +kernel
theorem dX7_changes_40 : decode cX7_changes 40 = .ok (.iinc 1 1, 3) := by decide +kernel
theorem dX7_changes_43 : decode cX7_changes 43 = .ok (.goto (-32), 3) := by decide +kernel
theorem dX7_changes_46 : decode cX7_changes 46 = .ok (.aload_n 0, 1) := by decide +kernel
theorem dX7_changes_47 : decode cX7_changes 47 = .ok (.dup, 1) := by decide +kernel
theorem dX7_changes_48 : decode cX7_changes 48 = .ok (.getfield 22, 3) := by decide +kernel
theorem dX7_changes_51 : decode cX7_changes 51 = .ok (.iconst 1, 1) := by decide +kernel
theorem dX7_changes_52 : decode cX7_changes 52 = .ok (.isub, 1) := by decide +kernel
theorem dX7_changes_53 : decode cX7_changes 53 = .ok (.putfield 22, 3) := by decide +kernel
theorem dX7_changes_56 : decode cX7_changes 56 = .ok (.aload_n 0, 1) := by decide +kernel
theorem dX7_changes_57 : decode cX7_changes 57 = .ok (.getfield 19, 3) := by decide +kernel
theorem dX7_changes_60 : decode cX7_changes 60 = .ok (.iconst 0, 1) := by decide +kernel
theorem dX7_changes_61 : decode cX7_changes 61 = .ok (.aload_n 0, 1) := by decide +kernel
theorem dX7_changes_62 : decode cX7_changes 62 = .ok (.getfield 13, 3) := by decide +kernel
theorem dX7_changes_65 : decode cX7_changes 65 = .ok (.sipush 136, 3) := by decide +kernel
theorem dX7_changes_68 : decode cX7_changes 68 = .ok (.aload_n 0, 1) := by decide +kernel
theorem dX7_changes_69 : decode cX7_changes 69 = .ok (.getfield 22, 3) := by decide +kernel
theorem dX7_changes_72 : decode cX7_changes 72 = .ok (.imul, 1) := by decide +kernel
theorem dX7_changes_73 : decode cX7_changes 73 = .ok (.invokestatic 57, 3) := by decide +kernel
theorem dX7_changes_76 : decode cX7_changes 76 = .ok (.aload_n 0, 1) := by decide +kernel
theorem dX7_changes_77 : decode cX7_changes 77 = .ok (.dup, 1) := by decide +kernel
theorem dX7_changes_78 : decode cX7_changes 78 = .ok (.getfield 22, 3) := by decide +kernel
theorem dX7_changes_81 : decode cX7_changes 81 = .ok (.iconst 1, 1) := by decide +kernel
theorem dX7_changes_82 : decode cX7_changes 82 = .ok (.iadd, 1) := by decide +kernel
theorem dX7_changes_83 : decode cX7_changes 83 = .ok (.putfield 22, 3) := by decide +kernel
theorem dX7_changes_86 : decode cX7_changes 86 = .ok (.return_, 1) := by decide +kernel
theorem dX7_isCover_0 : decode cX7_isCover 0 = .ok (.iload_n 1, 1) := by decide +kernel
theorem dX7_isCover_1 : decode cX7_isCover 1 = .ok (.iconst 0, 1) := by decide +kernel
theorem dX7_isCover_2 : decode cX7_isCover 2 = .ok (.aload_n 0, 1) := by decide +kernel
theorem dX7_isCover_3 : decode cX7_isCover 3 = .ok (.getfield 9, 3) := by decide +kernel
theorem dX7_isCover_6 : decode cX7_isCover 6 = .ok (.iconst 0, 1) := by decide +kernel
theorem dX7_isCover_7 : decode cX7_isCover 7 = .ok (.iaload, 1) := by decide +kernel
theorem dX7_isCover_8 : decode cX7_isCover 8 = .ok (.iconst 1, 1) := by decide +kernel
theorem dX7_isCover_9 : decode cX7_isCover 9 = .ok (.isub, 1) := by decide +kernel
theorem dX7_isCover_10 : decode cX7_isCover 10 = .ok (.invokestatic 61, 3) := by decide +kernel
theorem dX7_isCover_13 : decode cX7_isCover 13 = .ok (.ireturn, 1) := by decide +kernel
theorem dX7_isLayer_0 : decode cX7_isLayer 0 = .ok (.iload_n 1, 1) := by decide +kernel
theorem dX7_isLayer_1 : decode cX7_isLayer 1 = .ok (.iconst 0, 1) := by decide +kernel
theorem dX7_isLayer_2 : decode cX7_isLayer 2 = .ok (.aload_n 0, 1) := by decide +kernel
theorem dX7_isLayer_3 : decode cX7_isLayer 3 = .ok (.getfield 9, 3) := by decide +kernel
theorem dX7_isLayer_6 : decode cX7_isLayer 6 = .ok (.iconst 1, 1) := by decide +kernel
theorem dX7_isLayer_7 : decode cX7_isLayer 7 = .ok (.iaload, 1) := by decide +kernel
theorem dX7_isLayer_8 : decode cX7_isLayer 8 = .ok (.iconst 1, 1) := by decide +kernel
theorem dX7_isLayer_9 : decode cX7_isLayer 9 = .ok (.isub, 1) := by decide +kernel
theorem dX7_isLayer_10 : decode cX7_isLayer 10 = .ok (.invokestatic 61, 3) := by decide +kernel
theorem dX7_isLayer_13 : decode cX7_isLayer 13 = .ok (.ireturn, 1) := by decide +kernel
theorem dX7_isEvent_0 : decode cX7_isEvent 0 = .ok (.iload_n 1, 1) := by decide +kernel
theorem dX7_isEvent_1 : decode cX7_isEvent 1 = .ok (.iconst 0, 1) := by decide +kernel
theorem dX7_isEvent_2 : decode cX7_isEvent 2 = .ok (.aload_n 0, 1) := by decide +kernel
theorem dX7_isEvent_3 : decode cX7_isEvent 3 = .ok (.getfield 9, 3) := by decide +kernel
theorem dX7_isEvent_6 : decode cX7_isEvent 6 = .ok (.iconst 2, 1) := by decide +kernel
theorem dX7_isEvent_7 : decode cX7_isEvent 7 = .ok (.iaload, 1) := by decide +kernel
theorem dX7_isEvent_8 : decode cX7_isEvent 8 = .ok (.iconst 1, 1) := by decide +kernel
theorem dX7_isEvent_9 : decode cX7_isEvent 9 = .ok (.isub, 1) := by decide +kernel
theorem dX7_isEvent_10 : decode cX7_isEvent 10 = .ok (.invokestatic 61, 3) := by decide +kernel
theorem dX7_isEvent_13 : decode cX7_isEvent 13 = .ok (.ireturn, 1) := by decide +kernel
theorem dX7_isClaim_0 : decode cX7_isClaim 0 = .ok (.iload_n 1, 1) := by decide +kernel
theorem dX7_isClaim_1 : decode cX7_isClaim 1 = .ok (.iconst 0, 1) := by decide +kernel
theorem dX7_isClaim_2 : decode cX7_isClaim 2 = .ok (.aload_n 0, 1) := by decide +kernel
theorem dX7_isClaim_3 : decode cX7_isClaim 3 = .ok (.getfield 9, 3) := by decide +kernel
theorem dX7_isClaim_6 : decode cX7_isClaim 6 = .ok (.iconst 3, 1) := by decide +kernel
theorem dX7_isClaim_7 : decode cX7_isClaim 7 = .ok (.iaload, 1) := by decide +kernel
theorem dX7_isClaim_8 : decode cX7_isClaim 8 = .ok (.iconst 1, 1) := by decide +kernel
theorem dX7_isClaim_9 : decode cX7_isClaim 9 = .ok (.isub, 1) := by decide +kernel
theorem dX7_isClaim_10 : decode cX7_isClaim 10 = .ok (.invokestatic 61, 3) := by decide +kernel
theorem dX7_isClaim_13 : decode cX7_isClaim 13 = .ok (.ireturn, 1) := by decide +kernel
theorem dX7_isGroup_0 : decode cX7_isGroup 0 = .ok (.iload_n 0, 1) := by decide +kernel
theorem dX7_isGroup_1 : decode cX7_isGroup 1 = .ok (.iconst 0, 1) := by decide +kernel
theorem dX7_isGroup_2 : decode cX7_isGroup 2 = .ok (.iconst 2, 1) := by decide +kernel
theorem dX7_isGroup_3 : decode cX7_isGroup 3 = .ok (.invokestatic 61, 3) := by decide +kernel
theorem dX7_isGroup_6 : decode cX7_isGroup 6 = .ok (.ireturn, 1) := by decide +kernel
theorem dX7_laysCover_0 : decode cX7_laysCover 0 = .ok (.iload_n 1, 1) := by decide +kernel
theorem dX7_laysCover_1 : decode cX7_laysCover 1 = .ok (.iconst 1, 1) := by decide +kernel
theorem dX7_laysCover_2 : decode cX7_laysCover 2 = .ok (.ldc 65, 2) := by decide +kernel
theorem dX7_laysCover_4 : decode cX7_laysCover 4 = .ok (.invokestatic 61, 3) := by decide +kernel
theorem dX7_laysCover_7 : decode cX7_laysCover 7 = .ok (.ifCond .eq 31, 3) := by decide +kernel
theorem dX7_laysCover_10 : decode cX7_laysCover 10 = .ok (.iload_n 2, 1) := by decide +kernel
theorem dX7_laysCover_11 : decode cX7_laysCover 11 = .ok (.iconst 1, 1) := by decide +kernel
theorem dX7_laysCover_12 : decode cX7_laysCover 12 = .ok (.ldc 65, 2) := by decide +kernel
theorem dX7_laysCover_14 : decode cX7_laysCover 14 = .ok (.invokestatic 61, 3) := by decide +kernel
theorem dX7_laysCover_17 : decode cX7_laysCover 17 = .ok (.ifCond .eq 21, 3) := by decide +kernel
theorem dX7_laysCover_20 : decode cX7_laysCover 20 = .ok (.iload_n 3, 1) := by decide +kernel
theorem dX7_laysCover_21 : decode cX7_laysCover 21 = .ok (.iconst 0, 1) := by decide +kernel
theorem dX7_laysCover_22 : decode cX7_laysCover 22 = .ok (.ldc 65, 2) := by decide +kernel
theorem dX7_laysCover_24 : decode cX7_laysCover 24 = .ok (.invokestatic 61, 3) := by decide +kernel
theorem dX7_laysCover_27 : decode cX7_laysCover 27 = .ok (.ifCond .eq 11, 3) := by decide +kernel
theorem dX7_laysCover_30 : decode cX7_laysCover 30 = .ok (.iload 4, 2) := by decide +kernel
theorem dX7_laysCover_32 : decode cX7_laysCover 32 = .ok (.invokestatic 66, 3) := by decide +kernel
theorem dX7_laysCover_35 : decode cX7_laysCover 35 = .ok (.ifCond .ne 6, 3) := by decide +kernel
theorem dX7_laysCover_38 : decode cX7_laysCover 38 = .ok (.bipush (-2), 2) := by decide +kernel
theorem dX7_laysCover_40 : decode cX7_laysCover 40 = .ok (.ireturn, 1) := by decide +kernel
theorem dX7_laysCover_41 : decode cX7_laysCover 41 = .ok (.aload_n 0, 1) := by decide +kernel
theorem dX7_laysCover_42 : decode cX7_laysCover 42 = .ok (.getfield 9, 3) := by decide +kernel
theorem dX7_laysCover_45 : decode cX7_laysCover 45 = .ok (.iconst 0, 1) := by decide +kernel
theorem dX7_laysCover_46 : decode cX7_laysCover 46 = .ok (.iaload, 1) := by decide +kernel
theorem dX7_laysCover_47 : decode cX7_laysCover 47 = .ok (.bipush 6, 2) := by decide +kernel
theorem dX7_laysCover_49 : decode cX7_laysCover 49 = .ok (.if_icmp .ne 6, 3) := by decide +kernel
theorem dX7_laysCover_52 : decode cX7_laysCover 52 = .ok (.bipush (-3), 2) := by decide +kernel
theorem dX7_laysCover_54 : decode cX7_laysCover 54 = .ok (.ireturn, 1) := by decide +kernel
theorem dX7_laysCover_55 : decode cX7_laysCover 55 = .ok (.aload_n 0, 1) := by decide +kernel
theorem dX7_laysCover_56 : decode cX7_laysCover 56 = .ok (.bipush 8, 2) := by decide +kernel
theorem dX7_laysCover_58 : decode cX7_laysCover 58 = .ok (.iconst 0, 1) := by decide +kernel
theorem dX7_laysCover_59 : decode cX7_laysCover 59 = .ok (.iload_n 1, 1) := by decide +kernel
theorem dX7_laysCover_60 : decode cX7_laysCover 60 = .ok (.iload_n 2, 1) := by decide +kernel
theorem dX7_laysCover_61 : decode cX7_laysCover 61 = .ok (.iload_n 3, 1) := by decide +kernel
theorem dX7_laysCover_62 : decode cX7_laysCover 62 = .ok (.iload 4, 2) := by decide +kernel
theorem dX7_laysCover_64 : decode cX7_laysCover 64 = .ok (.invokevirtual 70, 3) := by decide +kernel
theorem dX7_laysCover_67 : decode cX7_laysCover 67 = .ok (.ireturn, 1) := by decide +kernel
theorem dX7_puts_0 : decode cX7_puts 0 = .ok (.iload_n 1, 1) := by decide +kernel
theorem dX7_puts_1 : decode cX7_puts 1 = .ok (.iconst 4, 1) := by decide +kernel
theorem dX7_puts_2 : decode cX7_puts 2 = .ok (.aload_n 0, 1) := by decide +kernel
theorem dX7_puts_3 : decode cX7_puts 3 = .ok (.getfield 9, 3) := by decide +kernel
theorem dX7_puts_6 : decode cX7_puts 6 = .ok (.iload_n 2, 1) := by decide +kernel
theorem dX7_puts_7 : decode cX7_puts 7 = .ok (.iaload, 1) := by decide +kernel
theorem dX7_puts_8 : decode cX7_puts 8 = .ok (.imul, 1) := by decide +kernel
theorem dX7_puts_9 : decode cX7_puts 9 = .ok (.iadd, 1) := by decide +kernel
theorem dX7_puts_10 : decode cX7_puts 10 = .ok (.istore 7, 2) := by decide +kernel
theorem dX7_puts_12 : decode cX7_puts 12 = .ok (.aload_n 0, 1) := by decide +kernel
theorem dX7_puts_13 : decode cX7_puts 13 = .ok (.getfield 9, 3) := by decide +kernel
theorem dX7_puts_16 : decode cX7_puts 16 = .ok (.iload 7, 2) := by decide +kernel
theorem dX7_puts_18 : decode cX7_puts 18 = .ok (.iload_n 3, 1) := by decide +kernel
theorem dX7_puts_19 : decode cX7_puts 19 = .ok (.iastore, 1) := by decide +kernel
theorem dX7_puts_20 : decode cX7_puts 20 = .ok (.aload_n 0, 1) := by decide +kernel
theorem dX7_puts_21 : decode cX7_puts 21 = .ok (.getfield 9, 3) := by decide +kernel
theorem dX7_puts_24 : decode cX7_puts 24 = .ok (.iload 7, 2) := by decide +kernel
theorem dX7_puts_26 : decode cX7_puts 26 = .ok (.iconst 1, 1) := by decide +kernel
theorem dX7_puts_27 : decode cX7_puts 27 = .ok (.iadd, 1) := by decide +kernel
theorem dX7_puts_28 : decode cX7_puts 28 = .ok (.iload 4, 2) := by decide +kernel
theorem dX7_puts_30 : decode cX7_puts 30 = .ok (.iastore, 1) := by decide +kernel
theorem dX7_puts_31 : decode cX7_puts 31 = .ok (.aload_n 0, 1) := by decide +kernel
theorem dX7_puts_32 : decode cX7_puts 32 = .ok (.getfield 9, 3) := by decide +kernel
theorem dX7_puts_35 : decode cX7_puts 35 = .ok (.iload 7, 2) := by decide +kernel
theorem dX7_puts_37 : decode cX7_puts 37 = .ok (.iconst 2, 1) := by decide +kernel
theorem dX7_puts_38 : decode cX7_puts 38 = .ok (.iadd, 1) := by decide +kernel
theorem dX7_puts_39 : decode cX7_puts 39 = .ok (.iload 5, 2) := by decide +kernel
theorem dX7_puts_41 : decode cX7_puts 41 = .ok (.iastore, 1) := by decide +kernel
theorem dX7_puts_42 : decode cX7_puts 42 = .ok (.aload_n 0, 1) := by decide +kernel
theorem dX7_puts_43 : decode cX7_puts 43 = .ok (.getfield 9, 3) := by decide +kernel
theorem dX7_puts_46 : decode cX7_puts 46 = .ok (.iload 7, 2) := by decide +kernel
theorem dX7_puts_48 : decode cX7_puts 48 = .ok (.iconst 3, 1) := by decide +kernel
theorem dX7_puts_49 : decode cX7_puts 49 = .ok (.iadd, 1) := by decide +kernel
theorem dX7_puts_50 : decode cX7_puts 50 = .ok (.iload 6, 2) := by decide +kernel
theorem dX7_puts_52 : decode cX7_puts 52 = .ok (.iastore, 1) := by decide +kernel
theorem dX7_puts_53 : decode cX7_puts 53 = .ok (.aload_n 0, 1) := by decide +kernel
theorem dX7_puts_54 : decode cX7_puts 54 = .ok (.getfield 9, 3) := by decide +kernel
theorem dX7_puts_57 : decode cX7_puts 57 = .ok (.iload_n 2, 1) := by decide +kernel
theorem dX7_puts_58 : decode cX7_puts 58 = .ok (.dup2, 1) := by decide +kernel
theorem dX7_puts_59 : decode cX7_puts 59 = .ok (.iaload, 1) := by decide +kernel
theorem dX7_puts_60 : decode cX7_puts 60 = .ok (.iconst 1, 1) := by decide +kernel
theorem dX7_puts_61 : decode cX7_puts 61 = .ok (.iadd, 1) := by decide +kernel
theorem dX7_puts_62 : decode cX7_puts 62 = .ok (.iastore, 1) := by decide +kernel
theorem dX7_puts_63 : decode cX7_puts 63 = .ok (.aload_n 0, 1) := by decide +kernel
theorem dX7_puts_64 : decode cX7_puts 64 = .ok (.getfield 9, 3) := by decide +kernel
theorem dX7_puts_67 : decode cX7_puts 67 = .ok (.iload_n 2, 1) := by decide +kernel
theorem dX7_puts_68 : decode cX7_puts 68 = .ok (.iaload, 1) := by decide +kernel
theorem dX7_puts_69 : decode cX7_puts 69 = .ok (.iconst 1, 1) := by decide +kernel
theorem dX7_puts_70 : decode cX7_puts 70 = .ok (.isub, 1) := by decide +kernel
theorem dX7_puts_71 : decode cX7_puts 71 = .ok (.ireturn, 1) := by decide +kernel
theorem dX7_laysLayer_0 : decode cX7_laysLayer 0 = .ok (.iload_n 1, 1) := by decide +kernel
theorem dX7_laysLayer_1 : decode cX7_laysLayer 1 = .ok (.iconst 0, 1) := by decide +kernel
theorem dX7_laysLayer_2 : decode cX7_laysLayer 2 = .ok (.ldc 74, 2) := by decide +kernel
theorem dX7_laysLayer_4 : decode cX7_laysLayer 4 = .ok (.invokestatic 61, 3) := by decide +kernel
theorem dX7_laysLayer_7 : decode cX7_laysLayer 7 = .ok (.ifCond .eq 33, 3) := by decide +kernel
theorem dX7_laysLayer_10 : decode cX7_laysLayer 10 = .ok (.iload_n 2, 1) := by decide +kernel
theorem dX7_laysLayer_11 : decode cX7_laysLayer 11 = .ok (.iconst 1, 1) := by decide +kernel
theorem dX7_laysLayer_12 : decode cX7_laysLayer 12 = .ok (.ldc 65, 2) := by decide +kernel
theorem dX7_laysLayer_14 : decode cX7_laysLayer 14 = .ok (.invokestatic 61, 3) := by decide +kernel
theorem dX7_laysLayer_17 : decode cX7_laysLayer 17 = .ok (.ifCond .eq 23, 3) := by decide +kernel
theorem dX7_laysLayer_20 : decode cX7_laysLayer 20 = .ok (.iload_n 3, 1) := by decide +kernel
theorem dX7_laysLayer_21 : decode cX7_laysLayer 21 = .ok (.iconst 0, 1) := by decide +kernel
theorem dX7_laysLayer_22 : decode cX7_laysLayer 22 = .ok (.ldc 65, 2) := by decide +kernel
theorem dX7_laysLayer_24 : decode cX7_laysLayer 24 = .ok (.invokestatic 61, 3) := by decide +kernel
theorem dX7_laysLayer_27 : decode cX7_laysLayer 27 = .ok (.ifCond .eq 13, 3) := by decide +kernel
theorem dX7_laysLayer_30 : decode cX7_laysLayer 30 = .ok (.iload 4, 2) := by decide +kernel
theorem dX7_laysLayer_32 : decode cX7_laysLayer 32 = .ok (.iconst 0, 1) := by decide +kernel
theorem dX7_laysLayer_33 : decode cX7_laysLayer 33 = .ok (.iconst 3, 1) := by decide +kernel
theorem dX7_laysLayer_34 : decode cX7_laysLayer 34 = .ok (.invokestatic 61, 3) := by decide +kernel
theorem dX7_laysLayer_37 : decode cX7_laysLayer 37 = .ok (.ifCond .ne 6, 3) := by decide +kernel
theorem dX7_laysLayer_40 : decode cX7_laysLayer 40 = .ok (.bipush (-2), 2) := by decide +kernel
theorem dX7_laysLayer_42 : decode cX7_laysLayer 42 = .ok (.ireturn, 1) := by decide +kernel
theorem dX7_laysLayer_43 : decode cX7_laysLayer 43 = .ok (.aload_n 0, 1) := by decide +kernel
theorem dX7_laysLayer_44 : decode cX7_laysLayer 44 = .ok (.getfield 9, 3) := by decide +kernel
theorem dX7_laysLayer_47 : decode cX7_laysLayer 47 = .ok (.iconst 1, 1) := by decide +kernel
theorem dX7_laysLayer_48 : decode cX7_laysLayer 48 = .ok (.iaload, 1) := by decide +kernel
theorem dX7_laysLayer_49 : decode cX7_laysLayer 49 = .ok (.istore 5, 2) := by decide +kernel
theorem dX7_laysLayer_51 : decode cX7_laysLayer 51 = .ok (.iload 5, 2) := by decide +kernel
theorem dX7_laysLayer_53 : decode cX7_laysLayer 53 = .ok (.ifCond .le 39, 3) := by decide +kernel
theorem dX7_laysLayer_56 : decode cX7_laysLayer 56 = .ok (.iload_n 1, 1) := by decide +kernel
theorem dX7_laysLayer_57 : decode cX7_laysLayer 57 = .ok (.aload_n 0, 1) := by decide +kernel
theorem dX7_laysLayer_58 : decode cX7_laysLayer 58 = .ok (.getfield 9, 3) := by decide +kernel
theorem dX7_laysLayer_61 : decode cX7_laysLayer 61 = .ok (.bipush 32, 2) := by decide +kernel
theorem dX7_laysLayer_63 : decode cX7_laysLayer 63 = .ok (.iconst 4, 1) := by decide +kernel
theorem dX7_laysLayer_64 : decode cX7_laysLayer 64 = .ok (.iload 5, 2) := by decide +kernel
theorem dX7_laysLayer_66 : decode cX7_laysLayer 66 = .ok (.imul, 1) := by decide +kernel
theorem dX7_laysLayer_67 : decode cX7_laysLayer 67 = .ok (.iadd, 1) := by decide +kernel
theorem dX7_laysLayer_68 : decode cX7_laysLayer 68 = .ok (.iconst 4, 1) := by decide +kernel
theorem dX7_laysLayer_69 : decode cX7_laysLayer 69 = .ok (.isub, 1) := by decide +kernel
theorem dX7_laysLayer_70 : decode cX7_laysLayer 70 = .ok (.iaload, 1) := by decide +kernel
theorem dX7_laysLayer_71 : decode cX7_laysLayer 71 = .ok (.aload_n 0, 1) := by decide +kernel
theorem dX7_laysLayer_72 : decode cX7_laysLayer 72 = .ok (.getfield 9, 3) := by decide +kernel
theorem dX7_laysLayer_75 : decode cX7_laysLayer 75 = .ok (.bipush 32, 2) := by decide +kernel
theorem dX7_laysLayer_77 : decode cX7_laysLayer 77 = .ok (.iconst 4, 1) := by decide +kernel
theorem dX7_laysLayer_78 : decode cX7_laysLayer 78 = .ok (.iload 5, 2) := by decide +kernel
theorem dX7_laysLayer_80 : decode cX7_laysLayer 80 = .ok (.imul, 1) := by decide +kernel
theorem dX7_laysLayer_81 : decode cX7_laysLayer 81 = .ok (.iadd, 1) := by decide +kernel
theorem dX7_laysLayer_82 : decode cX7_laysLayer 82 = .ok (.iconst 3, 1) := by decide +kernel
theorem dX7_laysLayer_83 : decode cX7_laysLayer 83 = .ok (.isub, 1) := by decide +kernel
theorem dX7_laysLayer_84 : decode cX7_laysLayer 84 = .ok (.iaload, 1) := by decide +kernel
theorem dX7_laysLayer_85 : decode cX7_laysLayer 85 = .ok (.iadd, 1) := by decide +kernel
theorem dX7_laysLayer_86 : decode cX7_laysLayer 86 = .ok (.if_icmp .ge 6, 3) := by decide +kernel
theorem dX7_laysLayer_89 : decode cX7_laysLayer 89 = .ok (.bipush (-5), 2) := by decide +kernel
theorem dX7_laysLayer_91 : decode cX7_laysLayer 91 = .ok (.ireturn, 1) := by decide +kernel
theorem dX7_laysLayer_92 : decode cX7_laysLayer 92 = .ok (.iload 5, 2) := by decide +kernel
theorem dX7_laysLayer_94 : decode cX7_laysLayer 94 = .ok (.iconst 4, 1) := by decide +kernel
theorem dX7_laysLayer_95 : decode cX7_laysLayer 95 = .ok (.if_icmp .ne 8, 3) := by decide +kernel
theorem dX7_laysLayer_98 : decode cX7_laysLayer 98 = .ok (.bipush (-3), 2) := by decide +kernel
theorem dX7_laysLayer_100 : decode cX7_laysLayer 100 = .ok (.goto 15, 3) := by decide +kernel
theorem dX7_laysLayer_103 : decode cX7_laysLayer 103 = .ok (.aload_n 0, 1) := by decide +kernel
theorem dX7_laysLayer_104 : decode cX7_laysLayer 104 = .ok (.bipush 32, 2) := by decide +kernel
theorem dX7_laysLayer_106 : decode cX7_laysLayer 106 = .ok (.iconst 1, 1) := by decide +kernel
theorem dX7_laysLayer_107 : decode cX7_laysLayer 107 = .ok (.iload_n 1, 1) := by decide +kernel
theorem dX7_laysLayer_108 : decode cX7_laysLayer 108 = .ok (.iload_n 2, 1) := by decide +kernel
theorem dX7_laysLayer_109 : decode cX7_laysLayer 109 = .ok (.iload_n 3, 1) := by decide +kernel
theorem dX7_laysLayer_110 : decode cX7_laysLayer 110 = .ok (.iload 4, 2) := by decide +kernel
theorem dX7_laysLayer_112 : decode cX7_laysLayer 112 = .ok (.invokevirtual 70, 3) := by decide +kernel
theorem dX7_laysLayer_115 : decode cX7_laysLayer 115 = .ok (.ireturn, 1) := by decide +kernel
theorem dX7_laysEvent_0 : decode cX7_laysEvent 0 = .ok (.iload_n 1, 1) := by decide +kernel
theorem dX7_laysEvent_1 : decode cX7_laysEvent 1 = .ok (.iconst 0, 1) := by decide +kernel
theorem dX7_laysEvent_2 : decode cX7_laysEvent 2 = .ok (.sipush 364, 3) := by decide +kernel
theorem dX7_laysEvent_5 : decode cX7_laysEvent 5 = .ok (.invokestatic 61, 3) := by decide +kernel
theorem dX7_laysEvent_8 : decode cX7_laysEvent 8 = .ok (.ifCond .ne 6, 3) := by decide +kernel
theorem dX7_laysEvent_11 : decode cX7_laysEvent 11 = .ok (.bipush (-2), 2) := by decide +kernel
theorem dX7_laysEvent_13 : decode cX7_laysEvent 13 = .ok (.ireturn, 1) := by decide +kernel
theorem dX7_laysEvent_14 : decode cX7_laysEvent 14 = .ok (.aload_n 0, 1) := by decide +kernel
theorem dX7_laysEvent_15 : decode cX7_laysEvent 15 = .ok (.getfield 9, 3) := by decide +kernel
theorem dX7_laysEvent_18 : decode cX7_laysEvent 18 = .ok (.iconst 2, 1) := by decide +kernel
theorem dX7_laysEvent_19 : decode cX7_laysEvent 19 = .ok (.iaload, 1) := by decide +kernel
theorem dX7_laysEvent_20 : decode cX7_laysEvent 20 = .ok (.bipush 8, 2) := by decide +kernel
theorem dX7_laysEvent_22 : decode cX7_laysEvent 22 = .ok (.if_icmp .ne 6, 3) := by decide +kernel
theorem dX7_laysEvent_25 : decode cX7_laysEvent 25 = .ok (.bipush (-3), 2) := by decide +kernel
theorem dX7_laysEvent_27 : decode cX7_laysEvent 27 = .ok (.ireturn, 1) := by decide +kernel
theorem dX7_laysEvent_28 : decode cX7_laysEvent 28 = .ok (.aload_n 0, 1) := by decide +kernel
theorem dX7_laysEvent_29 : decode cX7_laysEvent 29 = .ok (.getfield 9, 3) := by decide +kernel
theorem dX7_laysEvent_32 : decode cX7_laysEvent 32 = .ok (.bipush 48, 2) := by decide +kernel
theorem dX7_laysEvent_34 : decode cX7_laysEvent 34 = .ok (.aload_n 0, 1) := by decide +kernel
theorem dX7_laysEvent_35 : decode cX7_laysEvent 35 = .ok (.getfield 9, 3) := by decide +kernel
theorem dX7_laysEvent_38 : decode cX7_laysEvent 38 = .ok (.iconst 2, 1) := by decide +kernel
theorem dX7_laysEvent_39 : decode cX7_laysEvent 39 = .ok (.iaload, 1) := by decide +kernel
theorem dX7_laysEvent_40 : decode cX7_laysEvent 40 = .ok (.iadd, 1) := by decide +kernel
theorem dX7_laysEvent_41 : decode cX7_laysEvent 41 = .ok (.iload_n 1, 1) := by decide +kernel
theorem dX7_laysEvent_42 : decode cX7_laysEvent 42 = .ok (.iastore, 1) := by decide +kernel
theorem dX7_laysEvent_43 : decode cX7_laysEvent 43 = .ok (.aload_n 0, 1) := by decide +kernel
theorem dX7_laysEvent_44 : decode cX7_laysEvent 44 = .ok (.getfield 9, 3) := by decide +kernel
theorem dX7_laysEvent_47 : decode cX7_laysEvent 47 = .ok (.bipush 56, 2) := by decide +kernel
theorem dX7_laysEvent_49 : decode cX7_laysEvent 49 = .ok (.aload_n 0, 1) := by decide +kernel
theorem dX7_laysEvent_50 : decode cX7_laysEvent 50 = .ok (.getfield 9, 3) := by decide +kernel
theorem dX7_laysEvent_53 : decode cX7_laysEvent 53 = .ok (.iconst 2, 1) := by decide +kernel
theorem dX7_laysEvent_54 : decode cX7_laysEvent 54 = .ok (.iaload, 1) := by decide +kernel
theorem dX7_laysEvent_55 : decode cX7_laysEvent 55 = .ok (.iadd, 1) := by decide +kernel
theorem dX7_laysEvent_56 : decode cX7_laysEvent 56 = .ok (.iconst 0, 1) := by decide +kernel
theorem dX7_laysEvent_57 : decode cX7_laysEvent 57 = .ok (.iastore, 1) := by decide +kernel
theorem dX7_laysEvent_58 : decode cX7_laysEvent 58 = .ok (.aload_n 0, 1) := by decide +kernel
theorem dX7_laysEvent_59 : decode cX7_laysEvent 59 = .ok (.getfield 9, 3) := by decide +kernel
theorem dX7_laysEvent_62 : decode cX7_laysEvent 62 = .ok (.iconst 2, 1) := by decide +kernel
theorem dX7_laysEvent_63 : decode cX7_laysEvent 63 = .ok (.dup2, 1) := by decide +kernel
theorem dX7_laysEvent_64 : decode cX7_laysEvent 64 = .ok (.iaload, 1) := by decide +kernel
theorem dX7_laysEvent_65 : decode cX7_laysEvent 65 = .ok (.iconst 1, 1) := by decide +kernel
theorem dX7_laysEvent_66 : decode cX7_laysEvent 66 = .ok (.iadd, 1) := by decide +kernel
theorem dX7_laysEvent_67 : decode cX7_laysEvent 67 = .ok (.iastore, 1) := by decide +kernel
theorem dX7_laysEvent_68 : decode cX7_laysEvent 68 = .ok (.aload_n 0, 1) := by decide +kernel
theorem dX7_laysEvent_69 : decode cX7_laysEvent 69 = .ok (.getfield 9, 3) := by decide +kernel
theorem dX7_laysEvent_72 : decode cX7_laysEvent 72 = .ok (.iconst 2, 1) := by decide +kernel
theorem dX7_laysEvent_73 : decode cX7_laysEvent 73 = .ok (.iaload, 1) := by decide +kernel
theorem dX7_laysEvent_74 : decode cX7_laysEvent 74 = .ok (.iconst 1, 1) := by decide +kernel
theorem dX7_laysEvent_75 : decode cX7_laysEvent 75 = .ok (.isub, 1) := by decide +kernel
theorem dX7_laysEvent_76 : decode cX7_laysEvent 76 = .ok (.ireturn, 1) := by decide +kernel
theorem dX7_laysClaim_0 : decode cX7_laysClaim 0 = .ok (.aload_n 0, 1) := by decide +kernel
theorem dX7_laysClaim_1 : decode cX7_laysClaim 1 = .ok (.iload_n 1, 1) := by decide +kernel
theorem dX7_laysClaim_2 : decode cX7_laysClaim 2 = .ok (.invokevirtual 75, 3) := by decide +kernel
theorem dX7_laysClaim_5 : decode cX7_laysClaim 5 = .ok (.ifCond .eq 11, 3) := by decide +kernel
theorem dX7_laysClaim_8 : decode cX7_laysClaim 8 = .ok (.aload_n 0, 1) := by decide +kernel
theorem dX7_laysClaim_9 : decode cX7_laysClaim 9 = .ok (.iload_n 2, 1) := by decide +kernel
theorem dX7_laysClaim_10 : decode cX7_laysClaim 10 = .ok (.invokevirtual 78, 3) := by decide +kernel
theorem dX7_laysClaim_13 : decode cX7_laysClaim 13 = .ok (.ifCond .ne 5, 3) := by decide +kernel
theorem dX7_laysClaim_16 : decode cX7_laysClaim 16 = .ok (.iconst (-1), 1) := by decide +kernel
theorem dX7_laysClaim_17 : decode cX7_laysClaim 17 = .ok (.ireturn, 1) := by decide +kernel
theorem dX7_laysClaim_18 : decode cX7_laysClaim 18 = .ok (.iload_n 3, 1) := by decide +kernel
theorem dX7_laysClaim_19 : decode cX7_laysClaim 19 = .ok (.iconst 1, 1) := by decide +kernel
theorem dX7_laysClaim_20 : decode cX7_laysClaim 20 = .ok (.ldc 65, 2) := by decide +kernel
theorem dX7_laysClaim_22 : decode cX7_laysClaim 22 = .ok (.invokestatic 61, 3) := by decide +kernel
theorem dX7_laysClaim_25 : decode cX7_laysClaim 25 = .ok (.ifCond .ne 6, 3) := by decide +kernel
theorem dX7_laysClaim_28 : decode cX7_laysClaim 28 = .ok (.bipush (-2), 2) := by decide +kernel
theorem dX7_laysClaim_30 : decode cX7_laysClaim 30 = .ok (.ireturn, 1) := by decide +kernel
theorem dX7_laysClaim_31 : decode cX7_laysClaim 31 = .ok (.aload_n 0, 1) := by decide +kernel
theorem dX7_laysClaim_32 : decode cX7_laysClaim 32 = .ok (.getfield 9, 3) := by decide +kernel
theorem dX7_laysClaim_35 : decode cX7_laysClaim 35 = .ok (.iconst 3, 1) := by decide +kernel
theorem dX7_laysClaim_36 : decode cX7_laysClaim 36 = .ok (.iaload, 1) := by decide +kernel
theorem dX7_laysClaim_37 : decode cX7_laysClaim 37 = .ok (.bipush 24, 2) := by decide +kernel
theorem dX7_laysClaim_39 : decode cX7_laysClaim 39 = .ok (.if_icmp .ne 6, 3) := by decide +kernel
theorem dX7_laysClaim_42 : decode cX7_laysClaim 42 = .ok (.bipush (-3), 2) := by decide +kernel
theorem dX7_laysClaim_44 : decode cX7_laysClaim 44 = .ok (.ireturn, 1) := by decide +kernel
theorem dX7_laysClaim_45 : decode cX7_laysClaim 45 = .ok (.bipush 64, 2) := by decide +kernel
theorem dX7_laysClaim_47 : decode cX7_laysClaim 47 = .ok (.iconst 3, 1) := by decide +kernel
theorem dX7_laysClaim_48 : decode cX7_laysClaim 48 = .ok (.aload_n 0, 1) := by decide +kernel
theorem dX7_laysClaim_49 : decode cX7_laysClaim 49 = .ok (.getfield 9, 3) := by decide +kernel
theorem dX7_laysClaim_52 : decode cX7_laysClaim 52 = .ok (.iconst 3, 1) := by decide +kernel
theorem dX7_laysClaim_53 : decode cX7_laysClaim 53 = .ok (.iaload, 1) := by decide +kernel
theorem dX7_laysClaim_54 : decode cX7_laysClaim 54 = .ok (.imul, 1) := by decide +kernel
theorem dX7_laysClaim_55 : decode cX7_laysClaim 55 = .ok (.iadd, 1) := by decide +kernel
theorem dX7_laysClaim_56 : decode cX7_laysClaim 56 = .ok (.istore 4, 2) := by decide +kernel
theorem dX7_laysClaim_58 : decode cX7_laysClaim 58 = .ok (.aload_n 0, 1) := by decide +kernel
theorem dX7_laysClaim_59 : decode cX7_laysClaim 59 = .ok (.getfield 9, 3) := by decide +kernel
theorem dX7_laysClaim_62 : decode cX7_laysClaim 62 = .ok (.iload 4, 2) := by decide +kernel
theorem dX7_laysClaim_64 : decode cX7_laysClaim 64 = .ok (.iload_n 1, 1) := by decide +kernel
theorem dX7_laysClaim_65 : decode cX7_laysClaim 65 = .ok (.iastore, 1) := by decide +kernel
theorem dX7_laysClaim_66 : decode cX7_laysClaim 66 = .ok (.aload_n 0, 1) := by decide +kernel
theorem dX7_laysClaim_67 : decode cX7_laysClaim 67 = .ok (.getfield 9, 3) := by decide +kernel
theorem dX7_laysClaim_70 : decode cX7_laysClaim 70 = .ok (.iload 4, 2) := by decide +kernel
theorem dX7_laysClaim_72 : decode cX7_laysClaim 72 = .ok (.iconst 1, 1) := by decide +kernel
theorem dX7_laysClaim_73 : decode cX7_laysClaim 73 = .ok (.iadd, 1) := by decide +kernel
theorem dX7_laysClaim_74 : decode cX7_laysClaim 74 = .ok (.iload_n 2, 1) := by decide +kernel
theorem dX7_laysClaim_75 : decode cX7_laysClaim 75 = .ok (.iastore, 1) := by decide +kernel
theorem dX7_laysClaim_76 : decode cX7_laysClaim 76 = .ok (.aload_n 0, 1) := by decide +kernel
theorem dX7_laysClaim_77 : decode cX7_laysClaim 77 = .ok (.getfield 9, 3) := by decide +kernel
theorem dX7_laysClaim_80 : decode cX7_laysClaim 80 = .ok (.iload 4, 2) := by decide +kernel
theorem dX7_laysClaim_82 : decode cX7_laysClaim 82 = .ok (.iconst 2, 1) := by decide +kernel
theorem dX7_laysClaim_83 : decode cX7_laysClaim 83 = .ok (.iadd, 1) := by decide +kernel
theorem dX7_laysClaim_84 : decode cX7_laysClaim 84 = .ok (.iload_n 3, 1) := by decide +kernel
theorem dX7_laysClaim_85 : decode cX7_laysClaim 85 = .ok (.iastore, 1) := by decide +kernel
theorem dX7_laysClaim_86 : decode cX7_laysClaim 86 = .ok (.aload_n 0, 1) := by decide +kernel
theorem dX7_laysClaim_87 : decode cX7_laysClaim 87 = .ok (.getfield 9, 3) := by decide +kernel
theorem dX7_laysClaim_90 : decode cX7_laysClaim 90 = .ok (.iconst 3, 1) := by decide +kernel
theorem dX7_laysClaim_91 : decode cX7_laysClaim 91 = .ok (.dup2, 1) := by decide +kernel
theorem dX7_laysClaim_92 : decode cX7_laysClaim 92 = .ok (.iaload, 1) := by decide +kernel
theorem dX7_laysClaim_93 : decode cX7_laysClaim 93 = .ok (.iconst 1, 1) := by decide +kernel
theorem dX7_laysClaim_94 : decode cX7_laysClaim 94 = .ok (.iadd, 1) := by decide +kernel
theorem dX7_laysClaim_95 : decode cX7_laysClaim 95 = .ok (.iastore, 1) := by decide +kernel
theorem dX7_laysClaim_96 : decode cX7_laysClaim 96 = .ok (.aload_n 0, 1) := by decide +kernel
theorem dX7_laysClaim_97 : decode cX7_laysClaim 97 = .ok (.getfield 9, 3) := by decide +kernel
theorem dX7_laysClaim_100 : decode cX7_laysClaim 100 = .ok (.iconst 3, 1) := by decide +kernel
theorem dX7_laysClaim_101 : decode cX7_laysClaim 101 = .ok (.iaload, 1) := by decide +kernel
theorem dX7_laysClaim_102 : decode cX7_laysClaim 102 = .ok (.iconst 1, 1) := by decide +kernel
theorem dX7_laysClaim_103 : decode cX7_laysClaim 103 = .ok (.isub, 1) := by decide +kernel
theorem dX7_laysClaim_104 : decode cX7_laysClaim 104 = .ok (.ireturn, 1) := by decide +kernel
theorem dX7_laysRecovery_0 : decode cX7_laysRecovery 0 = .ok (.aload_n 0, 1) := by decide +kernel
theorem dX7_laysRecovery_1 : decode cX7_laysRecovery 1 = .ok (.iload_n 1, 1) := by decide +kernel
theorem dX7_laysRecovery_2 : decode cX7_laysRecovery 2 = .ok (.invokevirtual 75, 3) := by decide +kernel
theorem dX7_laysRecovery_5 : decode cX7_laysRecovery 5 = .ok (.ifCond .ne 5, 3) := by decide +kernel
theorem dX7_laysRecovery_8 : decode cX7_laysRecovery 8 = .ok (.iconst (-1), 1) := by decide +kernel
theorem dX7_laysRecovery_9 : decode cX7_laysRecovery 9 = .ok (.ireturn, 1) := by decide +kernel
theorem dX7_laysRecovery_10 : decode cX7_laysRecovery 10 = .ok (.iload_n 2, 1) := by decide +kernel
theorem dX7_laysRecovery_11 : decode cX7_laysRecovery 11 = .ok (.iconst 0, 1) := by decide +kernel
theorem dX7_laysRecovery_12 : decode cX7_laysRecovery 12 = .ok (.ldc 74, 2) := by decide +kernel
theorem dX7_laysRecovery_14 : decode cX7_laysRecovery 14 = .ok (.invokestatic 61, 3) := by decide +kernel
theorem dX7_laysRecovery_17 : decode cX7_laysRecovery 17 = .ok (.ifCond .ne 6, 3) := by decide +kernel
theorem dX7_laysRecovery_20 : decode cX7_laysRecovery 20 = .ok (.bipush (-2), 2) := by decide +kernel
theorem dX7_laysRecovery_22 : decode cX7_laysRecovery 22 = .ok (.ireturn, 1) := by decide +kernel
theorem dX7_laysRecovery_23 : decode cX7_laysRecovery 23 = .ok (.aload_n 0, 1) := by decide +kernel
theorem dX7_laysRecovery_24 : decode cX7_laysRecovery 24 = .ok (.getfield 9, 3) := by decide +kernel
theorem dX7_laysRecovery_27 : decode cX7_laysRecovery 27 = .ok (.bipush 56, 2) := by decide +kernel
theorem dX7_laysRecovery_29 : decode cX7_laysRecovery 29 = .ok (.iload_n 1, 1) := by decide +kernel
theorem dX7_laysRecovery_30 : decode cX7_laysRecovery 30 = .ok (.iadd, 1) := by decide +kernel
theorem dX7_laysRecovery_31 : decode cX7_laysRecovery 31 = .ok (.iaload, 1) := by decide +kernel
theorem dX7_laysRecovery_32 : decode cX7_laysRecovery 32 = .ok (.istore_n 3, 1) := by decide +kernel
theorem dX7_laysRecovery_33 : decode cX7_laysRecovery 33 = .ok (.aload_n 0, 1) := by decide +kernel
theorem dX7_laysRecovery_34 : decode cX7_laysRecovery 34 = .ok (.getfield 9, 3) := by decide +kernel
theorem dX7_laysRecovery_37 : decode cX7_laysRecovery 37 = .ok (.bipush 56, 2) := by decide +kernel
theorem dX7_laysRecovery_39 : decode cX7_laysRecovery 39 = .ok (.iload_n 1, 1) := by decide +kernel
theorem dX7_laysRecovery_40 : decode cX7_laysRecovery 40 = .ok (.iadd, 1) := by decide +kernel
theorem dX7_laysRecovery_41 : decode cX7_laysRecovery 41 = .ok (.iload_n 2, 1) := by decide +kernel
theorem dX7_laysRecovery_42 : decode cX7_laysRecovery 42 = .ok (.iastore, 1) := by decide +kernel
theorem dX7_laysRecovery_43 : decode cX7_laysRecovery 43 = .ok (.iload_n 3, 1) := by decide +kernel
theorem dX7_laysRecovery_44 : decode cX7_laysRecovery 44 = .ok (.ireturn, 1) := by decide +kernel
theorem dX7_made_0 : decode cX7_made 0 = .ok (.iload_n 1, 1) := by decide +kernel
theorem dX7_made_1 : decode cX7_made 1 = .ok (.ifCond .lt 7, 3) := by decide +kernel
theorem dX7_made_4 : decode cX7_made 4 = .ok (.aload_n 0, 1) := by decide +kernel
theorem dX7_made_5 : decode cX7_made 5 = .ok (.invokevirtual 81, 3) := by decide +kernel
theorem dX7_made_8 : decode cX7_made 8 = .ok (.iload_n 1, 1) := by decide +kernel
theorem dX7_made_9 : decode cX7_made 9 = .ok (.ireturn, 1) := by decide +kernel
theorem dX7_addCover_0 : decode cX7_addCover 0 = .ok (.aload_n 0, 1) := by decide +kernel
theorem dX7_addCover_1 : decode cX7_addCover 1 = .ok (.invokevirtual 83, 3) := by decide +kernel
theorem dX7_addCover_4 : decode cX7_addCover 4 = .ok (.aload_n 0, 1) := by decide +kernel
theorem dX7_addCover_5 : decode cX7_addCover 5 = .ok (.aload_n 0, 1) := by decide +kernel
theorem dX7_addCover_6 : decode cX7_addCover 6 = .ok (.iload_n 1, 1) := by decide +kernel
theorem dX7_addCover_7 : decode cX7_addCover 7 = .ok (.iload_n 2, 1) := by decide +kernel
theorem dX7_addCover_8 : decode cX7_addCover 8 = .ok (.iload_n 3, 1) := by decide +kernel
theorem dX7_addCover_9 : decode cX7_addCover 9 = .ok (.iload 4, 2) := by decide +kernel
theorem dX7_addCover_11 : decode cX7_addCover 11 = .ok (.invokevirtual 86, 3) := by decide +kernel
theorem dX7_addCover_14 : decode cX7_addCover 14 = .ok (.invokevirtual 90, 3) := by decide +kernel
theorem dX7_addCover_17 : decode cX7_addCover 17 = .ok (.ireturn, 1) := by decide +kernel
theorem dX7_addLayer_0 : decode cX7_addLayer 0 = .ok (.aload_n 0, 1) := by decide +kernel
theorem dX7_addLayer_1 : decode cX7_addLayer 1 = .ok (.invokevirtual 83, 3) := by decide +kernel
theorem dX7_addLayer_4 : decode cX7_addLayer 4 = .ok (.aload_n 0, 1) := by decide +kernel
theorem dX7_addLayer_5 : decode cX7_addLayer 5 = .ok (.aload_n 0, 1) := by decide +kernel
theorem dX7_addLayer_6 : decode cX7_addLayer 6 = .ok (.iload_n 1, 1) := by decide +kernel
theorem dX7_addLayer_7 : decode cX7_addLayer 7 = .ok (.iload_n 2, 1) := by decide +kernel
theorem dX7_addLayer_8 : decode cX7_addLayer 8 = .ok (.iload_n 3, 1) := by decide +kernel
theorem dX7_addLayer_9 : decode cX7_addLayer 9 = .ok (.iload 4, 2) := by decide +kernel
theorem dX7_addLayer_11 : decode cX7_addLayer 11 = .ok (.invokevirtual 94, 3) := by decide +kernel
theorem dX7_addLayer_14 : decode cX7_addLayer 14 = .ok (.invokevirtual 90, 3) := by decide +kernel
theorem dX7_addLayer_17 : decode cX7_addLayer 17 = .ok (.ireturn, 1) := by decide +kernel
theorem dX7_addEvent_0 : decode cX7_addEvent 0 = .ok (.aload_n 0, 1) := by decide +kernel
theorem dX7_addEvent_1 : decode cX7_addEvent 1 = .ok (.invokevirtual 83, 3) := by decide +kernel
theorem dX7_addEvent_4 : decode cX7_addEvent 4 = .ok (.aload_n 0, 1) := by decide +kernel
theorem dX7_addEvent_5 : decode cX7_addEvent 5 = .ok (.aload_n 0, 1) := by decide +kernel
theorem dX7_addEvent_6 : decode cX7_addEvent 6 = .ok (.iload_n 1, 1) := by decide +kernel
theorem dX7_addEvent_7 : decode cX7_addEvent 7 = .ok (.invokevirtual 97, 3) := by decide +kernel
theorem dX7_addEvent_10 : decode cX7_addEvent 10 = .ok (.invokevirtual 90, 3) := by decide +kernel
theorem dX7_addEvent_13 : decode cX7_addEvent 13 = .ok (.ireturn, 1) := by decide +kernel
theorem dX7_addClaim_0 : decode cX7_addClaim 0 = .ok (.aload_n 0, 1) := by decide +kernel
theorem dX7_addClaim_1 : decode cX7_addClaim 1 = .ok (.invokevirtual 83, 3) := by decide +kernel
theorem dX7_addClaim_4 : decode cX7_addClaim 4 = .ok (.aload_n 0, 1) := by decide +kernel
theorem dX7_addClaim_5 : decode cX7_addClaim 5 = .ok (.aload_n 0, 1) := by decide +kernel
theorem dX7_addClaim_6 : decode cX7_addClaim 6 = .ok (.iload_n 1, 1) := by decide +kernel
theorem dX7_addClaim_7 : decode cX7_addClaim 7 = .ok (.iload_n 2, 1) := by decide +kernel
theorem dX7_addClaim_8 : decode cX7_addClaim 8 = .ok (.iload_n 3, 1) := by decide +kernel
theorem dX7_addClaim_9 : decode cX7_addClaim 9 = .ok (.invokevirtual 100, 3) := by decide +kernel
theorem dX7_addClaim_12 : decode cX7_addClaim 12 = .ok (.invokevirtual 90, 3) := by decide +kernel
theorem dX7_addClaim_15 : decode cX7_addClaim 15 = .ok (.ireturn, 1) := by decide +kernel
theorem dX7_removeClaim_0 : decode cX7_removeClaim 0 = .ok (.aload_n 0, 1) := by decide +kernel
theorem dX7_removeClaim_1 : decode cX7_removeClaim 1 = .ok (.iload_n 1, 1) := by decide +kernel
theorem dX7_removeClaim_2 : decode cX7_removeClaim 2 = .ok (.invokevirtual 104, 3) := by decide +kernel
theorem dX7_removeClaim_5 : decode cX7_removeClaim 5 = .ok (.ifCond .ne 5, 3) := by decide +kernel
theorem dX7_removeClaim_8 : decode cX7_removeClaim 8 = .ok (.iconst (-1), 1) := by decide +kernel
theorem dX7_removeClaim_9 : decode cX7_removeClaim 9 = .ok (.ireturn, 1) := by decide +kernel
theorem dX7_removeClaim_10 : decode cX7_removeClaim 10 = .ok (.aload_n 0, 1) := by decide +kernel
theorem dX7_removeClaim_11 : decode cX7_removeClaim 11 = .ok (.invokevirtual 83, 3) := by decide +kernel
theorem dX7_removeClaim_14 : decode cX7_removeClaim 14 = .ok (.bipush 64, 2) := by decide +kernel
theorem dX7_removeClaim_16 : decode cX7_removeClaim 16 = .ok (.iconst 3, 1) := by decide +kernel
theorem dX7_removeClaim_17 : decode cX7_removeClaim 17 = .ok (.iload_n 1, 1) := by decide +kernel
theorem dX7_removeClaim_18 : decode cX7_removeClaim 18 = .ok (.imul, 1) := by decide +kernel
theorem dX7_removeClaim_19 : decode cX7_removeClaim 19 = .ok (.iadd, 1) := by decide +kernel
theorem dX7_removeClaim_20 : decode cX7_removeClaim 20 = .ok (.istore_n 2, 1) := by decide +kernel
theorem dX7_removeClaim_21 : decode cX7_removeClaim 21 = .ok (.iload_n 2, 1) := by decide +kernel
theorem dX7_removeClaim_22 : decode cX7_removeClaim 22 = .ok (.iconst 3, 1) := by decide +kernel
theorem dX7_removeClaim_23 : decode cX7_removeClaim 23 = .ok (.iadd, 1) := by decide +kernel
theorem dX7_removeClaim_24 : decode cX7_removeClaim 24 = .ok (.sipush 136, 3) := by decide +kernel
theorem dX7_removeClaim_27 : decode cX7_removeClaim 27 = .ok (.if_icmp .ge 23, 3) := by decide +kernel
theorem dX7_removeClaim_30 : decode cX7_removeClaim 30 = .ok (.aload_n 0, 1) := by decide +kernel
theorem dX7_removeClaim_31 : decode cX7_removeClaim 31 = .ok (.getfield 9, 3) := by decide +kernel
theorem dX7_removeClaim_34 : decode cX7_removeClaim 34 = .ok (.iload_n 2, 1) := by decide +kernel
theorem dX7_removeClaim_35 : decode cX7_removeClaim 35 = .ok (.aload_n 0, 1) := by decide +kernel
theorem dX7_removeClaim_36 : decode cX7_removeClaim 36 = .ok (.getfield 9, 3) := by decide +kernel
theorem dX7_removeClaim_39 : decode cX7_removeClaim 39 = .ok (.iload_n 2, 1) := by decide +kernel
theorem dX7_removeClaim_40 : decode cX7_removeClaim 40 = .ok (.iconst 3, 1) := by decide +kernel
theorem dX7_removeClaim_41 : decode cX7_removeClaim 41 = .ok (.iadd, 1) := by decide +kernel
theorem dX7_removeClaim_42 : decode cX7_removeClaim 42 = .ok (.iaload, 1) := by decide +kernel
theorem dX7_removeClaim_43 : decode cX7_removeClaim 43 = .ok (.iastore, 1) := by decide +kernel
theorem dX7_removeClaim_44 : decode cX7_removeClaim 44 = .ok (.iinc 2 1, 3) := by decide +kernel
theorem dX7_removeClaim_47 : decode cX7_removeClaim 47 = .ok (.goto (-26), 3) := by decide +kernel
theorem dX7_removeClaim_50 : decode cX7_removeClaim 50 = .ok (.aload_n 0, 1) := by decide +kernel
theorem dX7_removeClaim_51 : decode cX7_removeClaim 51 = .ok (.getfield 9, 3) := by decide +kernel
theorem dX7_removeClaim_54 : decode cX7_removeClaim 54 = .ok (.iconst 3, 1) := by decide +kernel
theorem dX7_removeClaim_55 : decode cX7_removeClaim 55 = .ok (.dup2, 1) := by decide +kernel
theorem dX7_removeClaim_56 : decode cX7_removeClaim 56 = .ok (.iaload, 1) := by decide +kernel
theorem dX7_removeClaim_57 : decode cX7_removeClaim 57 = .ok (.iconst 1, 1) := by decide +kernel
theorem dX7_removeClaim_58 : decode cX7_removeClaim 58 = .ok (.isub, 1) := by decide +kernel
theorem dX7_removeClaim_59 : decode cX7_removeClaim 59 = .ok (.iastore, 1) := by decide +kernel
theorem dX7_removeClaim_60 : decode cX7_removeClaim 60 = .ok (.aload_n 0, 1) := by decide +kernel
theorem dX7_removeClaim_61 : decode cX7_removeClaim 61 = .ok (.aload_n 0, 1) := by decide +kernel
theorem dX7_removeClaim_62 : decode cX7_removeClaim 62 = .ok (.getfield 9, 3) := by decide +kernel
theorem dX7_removeClaim_65 : decode cX7_removeClaim 65 = .ok (.iconst 3, 1) := by decide +kernel
theorem dX7_removeClaim_66 : decode cX7_removeClaim 66 = .ok (.iaload, 1) := by decide +kernel
theorem dX7_removeClaim_67 : decode cX7_removeClaim 67 = .ok (.invokevirtual 90, 3) := by decide +kernel
theorem dX7_removeClaim_70 : decode cX7_removeClaim 70 = .ok (.ireturn, 1) := by decide +kernel
theorem dX7_setDay_0 : decode cX7_setDay 0 = .ok (.aload_n 0, 1) := by decide +kernel
theorem dX7_setDay_1 : decode cX7_setDay 1 = .ok (.iload_n 1, 1) := by decide +kernel
theorem dX7_setDay_2 : decode cX7_setDay 2 = .ok (.invokevirtual 75, 3) := by decide +kernel
theorem dX7_setDay_5 : decode cX7_setDay 5 = .ok (.ifCond .ne 5, 3) := by decide +kernel
theorem dX7_setDay_8 : decode cX7_setDay 8 = .ok (.iconst (-1), 1) := by decide +kernel
theorem dX7_setDay_9 : decode cX7_setDay 9 = .ok (.ireturn, 1) := by decide +kernel
theorem dX7_setDay_10 : decode cX7_setDay 10 = .ok (.iload_n 2, 1) := by decide +kernel
theorem dX7_setDay_11 : decode cX7_setDay 11 = .ok (.iconst 0, 1) := by decide +kernel
theorem dX7_setDay_12 : decode cX7_setDay 12 = .ok (.sipush 364, 3) := by decide +kernel
theorem dX7_setDay_15 : decode cX7_setDay 15 = .ok (.invokestatic 61, 3) := by decide +kernel
theorem dX7_setDay_18 : decode cX7_setDay 18 = .ok (.ifCond .ne 6, 3) := by decide +kernel
theorem dX7_setDay_21 : decode cX7_setDay 21 = .ok (.bipush (-2), 2) := by decide +kernel
theorem dX7_setDay_23 : decode cX7_setDay 23 = .ok (.ireturn, 1) := by decide +kernel
theorem dX7_setDay_24 : decode cX7_setDay 24 = .ok (.aload_n 0, 1) := by decide +kernel
theorem dX7_setDay_25 : decode cX7_setDay 25 = .ok (.invokevirtual 83, 3) := by decide +kernel
theorem dX7_setDay_28 : decode cX7_setDay 28 = .ok (.aload_n 0, 1) := by decide +kernel
theorem dX7_setDay_29 : decode cX7_setDay 29 = .ok (.getfield 9, 3) := by decide +kernel
theorem dX7_setDay_32 : decode cX7_setDay 32 = .ok (.bipush 48, 2) := by decide +kernel
theorem dX7_setDay_34 : decode cX7_setDay 34 = .ok (.iload_n 1, 1) := by decide +kernel
theorem dX7_setDay_35 : decode cX7_setDay 35 = .ok (.iadd, 1) := by decide +kernel
theorem dX7_setDay_36 : decode cX7_setDay 36 = .ok (.iaload, 1) := by decide +kernel
theorem dX7_setDay_37 : decode cX7_setDay 37 = .ok (.istore_n 3, 1) := by decide +kernel
theorem dX7_setDay_38 : decode cX7_setDay 38 = .ok (.aload_n 0, 1) := by decide +kernel
theorem dX7_setDay_39 : decode cX7_setDay 39 = .ok (.getfield 9, 3) := by decide +kernel
theorem dX7_setDay_42 : decode cX7_setDay 42 = .ok (.bipush 48, 2) := by decide +kernel
theorem dX7_setDay_44 : decode cX7_setDay 44 = .ok (.iload_n 1, 1) := by decide +kernel
theorem dX7_setDay_45 : decode cX7_setDay 45 = .ok (.iadd, 1) := by decide +kernel
theorem dX7_setDay_46 : decode cX7_setDay 46 = .ok (.iload_n 2, 1) := by decide +kernel
theorem dX7_setDay_47 : decode cX7_setDay 47 = .ok (.iastore, 1) := by decide +kernel
theorem dX7_setDay_48 : decode cX7_setDay 48 = .ok (.aload_n 0, 1) := by decide +kernel
theorem dX7_setDay_49 : decode cX7_setDay 49 = .ok (.iload_n 3, 1) := by decide +kernel
theorem dX7_setDay_50 : decode cX7_setDay 50 = .ok (.invokevirtual 90, 3) := by decide +kernel
theorem dX7_setDay_53 : decode cX7_setDay 53 = .ok (.ireturn, 1) := by decide +kernel
theorem dX7_setDeductible_0 : decode cX7_setDeductible 0 = .ok (.iload_n 1, 1) := by decide +kernel
theorem dX7_setDeductible_1 : decode cX7_setDeductible 1 = .ok (.invokestatic 66, 3) := by decide +kernel
theorem dX7_setDeductible_4 : decode cX7_setDeductible 4 = .ok (.ifCond .ne 5, 3) := by decide +kernel
theorem dX7_setDeductible_7 : decode cX7_setDeductible 7 = .ok (.iconst (-1), 1) := by decide +kernel
theorem dX7_setDeductible_8 : decode cX7_setDeductible 8 = .ok (.ireturn, 1) := by decide +kernel
theorem dX7_setDeductible_9 : decode cX7_setDeductible 9 = .ok (.iload_n 2, 1) := by decide +kernel
theorem dX7_setDeductible_10 : decode cX7_setDeductible 10 = .ok (.iconst 0, 1) := by decide +kernel
theorem dX7_setDeductible_11 : decode cX7_setDeductible 11 = .ok (.ldc 65, 2) := by decide +kernel
theorem dX7_setDeductible_13 : decode cX7_setDeductible 13 = .ok (.invokestatic 61, 3) := by decide +kernel
theorem dX7_setDeductible_16 : decode cX7_setDeductible 16 = .ok (.ifCond .ne 6, 3) := by decide +kernel
theorem dX7_setDeductible_19 : decode cX7_setDeductible 19 = .ok (.bipush (-2), 2) := by decide +kernel
theorem dX7_setDeductible_21 : decode cX7_setDeductible 21 = .ok (.ireturn, 1) := by decide +kernel
theorem dX7_setDeductible_22 : decode cX7_setDeductible 22 = .ok (.aload_n 0, 1) := by decide +kernel
theorem dX7_setDeductible_23 : decode cX7_setDeductible 23 = .ok (.invokevirtual 83, 3) := by decide +kernel
theorem dX7_setDeductible_26 : decode cX7_setDeductible 26 = .ok (.aload_n 0, 1) := by decide +kernel
theorem dX7_setDeductible_27 : decode cX7_setDeductible 27 = .ok (.getfield 9, 3) := by decide +kernel
theorem dX7_setDeductible_30 : decode cX7_setDeductible 30 = .ok (.iconst 5, 1) := by decide +kernel
theorem dX7_setDeductible_31 : decode cX7_setDeductible 31 = .ok (.iload_n 1, 1) := by decide +kernel
theorem dX7_setDeductible_32 : decode cX7_setDeductible 32 = .ok (.iadd, 1) := by decide +kernel
theorem dX7_setDeductible_33 : decode cX7_setDeductible 33 = .ok (.iaload, 1) := by decide +kernel
theorem dX7_setDeductible_34 : decode cX7_setDeductible 34 = .ok (.istore_n 3, 1) := by decide +kernel
theorem dX7_setDeductible_35 : decode cX7_setDeductible 35 = .ok (.aload_n 0, 1) := by decide +kernel
theorem dX7_setDeductible_36 : decode cX7_setDeductible 36 = .ok (.getfield 9, 3) := by decide +kernel
theorem dX7_setDeductible_39 : decode cX7_setDeductible 39 = .ok (.iconst 5, 1) := by decide +kernel
theorem dX7_setDeductible_40 : decode cX7_setDeductible 40 = .ok (.iload_n 1, 1) := by decide +kernel
theorem dX7_setDeductible_41 : decode cX7_setDeductible 41 = .ok (.iadd, 1) := by decide +kernel
theorem dX7_setDeductible_42 : decode cX7_setDeductible 42 = .ok (.iload_n 2, 1) := by decide +kernel
theorem dX7_setDeductible_43 : decode cX7_setDeductible 43 = .ok (.iastore, 1) := by decide +kernel
theorem dX7_setDeductible_44 : decode cX7_setDeductible 44 = .ok (.aload_n 0, 1) := by decide +kernel
theorem dX7_setDeductible_45 : decode cX7_setDeductible 45 = .ok (.iload_n 3, 1) := by decide +kernel
theorem dX7_setDeductible_46 : decode cX7_setDeductible 46 = .ok (.invokevirtual 90, 3) := by decide +kernel
theorem dX7_setDeductible_49 : decode cX7_setDeductible 49 = .ok (.ireturn, 1) := by decide +kernel
theorem dX7_setIndex_0 : decode cX7_setIndex 0 = .ok (.iload_n 1, 1) := by decide +kernel
theorem dX7_setIndex_1 : decode cX7_setIndex 1 = .ok (.iconst 0, 1) := by decide +kernel
theorem dX7_setIndex_2 : decode cX7_setIndex 2 = .ok (.bipush 100, 2) := by decide +kernel
theorem dX7_setIndex_4 : decode cX7_setIndex 4 = .ok (.invokestatic 61, 3) := by decide +kernel
theorem dX7_setIndex_7 : decode cX7_setIndex 7 = .ok (.ifCond .ne 6, 3) := by decide +kernel
theorem dX7_setIndex_10 : decode cX7_setIndex 10 = .ok (.bipush (-2), 2) := by decide +kernel
theorem dX7_setIndex_12 : decode cX7_setIndex 12 = .ok (.ireturn, 1) := by decide +kernel
theorem dX7_setIndex_13 : decode cX7_setIndex 13 = .ok (.aload_n 0, 1) := by decide +kernel
theorem dX7_setIndex_14 : decode cX7_setIndex 14 = .ok (.invokevirtual 83, 3) := by decide +kernel
theorem dX7_setIndex_17 : decode cX7_setIndex 17 = .ok (.aload_n 0, 1) := by decide +kernel
theorem dX7_setIndex_18 : decode cX7_setIndex 18 = .ok (.getfield 9, 3) := by decide +kernel
theorem dX7_setIndex_21 : decode cX7_setIndex 21 = .ok (.iconst 4, 1) := by decide +kernel
theorem dX7_setIndex_22 : decode cX7_setIndex 22 = .ok (.iaload, 1) := by decide +kernel
theorem dX7_setIndex_23 : decode cX7_setIndex 23 = .ok (.istore_n 2, 1) := by decide +kernel
theorem dX7_setIndex_24 : decode cX7_setIndex 24 = .ok (.aload_n 0, 1) := by decide +kernel
theorem dX7_setIndex_25 : decode cX7_setIndex 25 = .ok (.getfield 9, 3) := by decide +kernel
theorem dX7_setIndex_28 : decode cX7_setIndex 28 = .ok (.iconst 4, 1) := by decide +kernel
theorem dX7_setIndex_29 : decode cX7_setIndex 29 = .ok (.iload_n 1, 1) := by decide +kernel
theorem dX7_setIndex_30 : decode cX7_setIndex 30 = .ok (.iastore, 1) := by decide +kernel
theorem dX7_setIndex_31 : decode cX7_setIndex 31 = .ok (.aload_n 0, 1) := by decide +kernel
theorem dX7_setIndex_32 : decode cX7_setIndex 32 = .ok (.iload_n 2, 1) := by decide +kernel
theorem dX7_setIndex_33 : decode cX7_setIndex 33 = .ok (.invokevirtual 90, 3) := by decide +kernel
theorem dX7_setIndex_36 : decode cX7_setIndex 36 = .ok (.ireturn, 1) := by decide +kernel
theorem dX7_setRecovery_0 : decode cX7_setRecovery 0 = .ok (.aload_n 0, 1) := by decide +kernel
theorem dX7_setRecovery_1 : decode cX7_setRecovery 1 = .ok (.invokevirtual 83, 3) := by decide +kernel
theorem dX7_setRecovery_4 : decode cX7_setRecovery 4 = .ok (.aload_n 0, 1) := by decide +kernel
theorem dX7_setRecovery_5 : decode cX7_setRecovery 5 = .ok (.aload_n 0, 1) := by decide +kernel
theorem dX7_setRecovery_6 : decode cX7_setRecovery 6 = .ok (.iload_n 1, 1) := by decide +kernel
theorem dX7_setRecovery_7 : decode cX7_setRecovery 7 = .ok (.iload_n 2, 1) := by decide +kernel
theorem dX7_setRecovery_8 : decode cX7_setRecovery 8 = .ok (.invokevirtual 107, 3) := by decide +kernel
theorem dX7_setRecovery_11 : decode cX7_setRecovery 11 = .ok (.invokevirtual 90, 3) := by decide +kernel
theorem dX7_setRecovery_14 : decode cX7_setRecovery 14 = .ok (.ireturn, 1) := by decide +kernel
theorem dX7_append_0 : decode cX7_append 0 = .ok (.iconst 0, 1) := by decide +kernel
theorem dX7_append_1 : decode cX7_append 1 = .ok (.istore_n 2, 1) := by decide +kernel
theorem dX7_append_2 : decode cX7_append 2 = .ok (.bipush 24, 2) := by decide +kernel
theorem dX7_append_4 : decode cX7_append 4 = .ok (.istore_n 3, 1) := by decide +kernel
theorem dX7_append_5 : decode cX7_append 5 = .ok (.iload_n 3, 1) := by decide +kernel
theorem dX7_append_6 : decode cX7_append 6 = .ok (.ifCond .lt 44, 3) := by decide +kernel
theorem dX7_append_9 : decode cX7_append 9 = .ok (.iload_n 1, 1) := by decide +kernel
theorem dX7_append_10 : decode cX7_append 10 = .ok (.iload_n 3, 1) := by decide +kernel
theorem dX7_append_11 : decode cX7_append 11 = .ok (.iushr, 1) := by decide +kernel
theorem dX7_append_12 : decode cX7_append 12 = .ok (.sipush 255, 3) := by decide +kernel
theorem dX7_append_15 : decode cX7_append 15 = .ok (.iand, 1) := by decide +kernel
theorem dX7_append_16 : decode cX7_append 16 = .ok (.istore 4, 2) := by decide +kernel
theorem dX7_append_18 : decode cX7_append 18 = .ok (.iload 4, 2) := by decide +kernel
theorem dX7_append_20 : decode cX7_append 20 = .ok (.ifCond .ne 6, 3) := by decide +kernel
theorem dX7_append_23 : decode cX7_append 23 = .ok (.goto 21, 3) := by decide +kernel
theorem dX7_append_26 : decode cX7_append 26 = .ok (.iload 4, 2) := by decide +kernel
theorem dX7_append_28 : decode cX7_append 28 = .ok (.bipush 33, 2) := by decide +kernel
theorem dX7_append_30 : decode cX7_append 30 = .ok (.bipush 126, 2) := by decide +kernel
theorem dX7_append_32 : decode cX7_append 32 = .ok (.invokestatic 61, 3) := by decide +kernel
theorem dX7_append_35 : decode cX7_append 35 = .ok (.ifCond .ne 6, 3) := by decide +kernel
theorem dX7_append_38 : decode cX7_append 38 = .ok (.bipush (-2), 2) := by decide +kernel
theorem dX7_append_40 : decode cX7_append 40 = .ok (.ireturn, 1) := by decide +kernel
theorem dX7_append_41 : decode cX7_append 41 = .ok (.iinc 2 1, 3) := by decide +kernel
theorem dX7_append_44 : decode cX7_append 44 = .ok (.iinc 3 (-8), 3) := by decide +kernel
theorem dX7_append_47 : decode cX7_append 47 = .ok (.goto (-42), 3) := by decide +kernel
theorem dX7_append_50 : decode cX7_append 50 = .ok (.aload_n 0, 1) := by decide +kernel
theorem dX7_append_51 : decode cX7_append 51 = .ok (.getfield 33, 3) := by decide +kernel
theorem dX7_append_54 : decode cX7_append 54 = .ok (.iload_n 2, 1) := by decide +kernel
theorem dX7_append_55 : decode cX7_append 55 = .ok (.iadd, 1) := by decide +kernel
theorem dX7_append_56 : decode cX7_append 56 = .ok (.bipush 60, 2) := by decide +kernel
theorem dX7_append_58 : decode cX7_append 58 = .ok (.if_icmp .le 6, 3) := by decide +kernel
theorem dX7_append_61 : decode cX7_append 61 = .ok (.bipush (-3), 2) := by decide +kernel
theorem dX7_append_63 : decode cX7_append 63 = .ok (.ireturn, 1) := by decide +kernel
theorem dX7_append_64 : decode cX7_append 64 = .ok (.bipush 24, 2) := by decide +kernel
theorem dX7_append_66 : decode cX7_append 66 = .ok (.istore_n 3, 1) := by decide +kernel
theorem dX7_append_67 : decode cX7_append 67 = .ok (.iload_n 3, 1) := by decide +kernel
theorem dX7_append_68 : decode cX7_append 68 = .ok (.ifCond .lt 47, 3) := by decide +kernel
theorem dX7_append_71 : decode cX7_append 71 = .ok (.iload_n 1, 1) := by decide +kernel
theorem dX7_append_72 : decode cX7_append 72 = .ok (.iload_n 3, 1) := by decide +kernel
theorem dX7_append_73 : decode cX7_append 73 = .ok (.iushr, 1) := by decide +kernel
theorem dX7_append_74 : decode cX7_append 74 = .ok (.sipush 255, 3) := by decide +kernel
theorem dX7_append_77 : decode cX7_append 77 = .ok (.iand, 1) := by decide +kernel
theorem dX7_append_78 : decode cX7_append 78 = .ok (.istore 4, 2) := by decide +kernel
theorem dX7_append_80 : decode cX7_append 80 = .ok (.iload 4, 2) := by decide +kernel
theorem dX7_append_82 : decode cX7_append 82 = .ok (.ifCond .ne 6, 3) := by decide +kernel
theorem dX7_append_85 : decode cX7_append 85 = .ok (.goto 24, 3) := by decide +kernel
theorem dX7_append_88 : decode cX7_append 88 = .ok (.aload_n 0, 1) := by decide +kernel
theorem dX7_append_89 : decode cX7_append 89 = .ok (.getfield 30, 3) := by decide +kernel
theorem dX7_append_92 : decode cX7_append 92 = .ok (.aload_n 0, 1) := by decide +kernel
theorem dX7_append_93 : decode cX7_append 93 = .ok (.getfield 33, 3) := by decide +kernel
theorem dX7_append_96 : decode cX7_append 96 = .ok (.iload 4, 2) := by decide +kernel
theorem dX7_append_98 : decode cX7_append 98 = .ok (.iastore, 1) := by decide +kernel
theorem dX7_append_99 : decode cX7_append 99 = .ok (.aload_n 0, 1) := by decide +kernel
theorem dX7_append_100 : decode cX7_append 100 = .ok (.dup, 1) := by decide +kernel
theorem dX7_append_101 : decode cX7_append 101 = .ok (.getfield 33, 3) := by decide +kernel
theorem dX7_append_104 : decode cX7_append 104 = .ok (.iconst 1, 1) := by decide +kernel
theorem dX7_append_105 : decode cX7_append 105 = .ok (.iadd, 1) := by decide +kernel
theorem dX7_append_106 : decode cX7_append 106 = .ok (.putfield 33, 3) := by decide +kernel
theorem dX7_append_109 : decode cX7_append 109 = .ok (.iinc 3 (-8), 3) := by decide +kernel
theorem dX7_append_112 : decode cX7_append 112 = .ok (.goto (-45), 3) := by decide +kernel
theorem dX7_append_115 : decode cX7_append 115 = .ok (.aload_n 0, 1) := by decide +kernel
theorem dX7_append_116 : decode cX7_append 116 = .ok (.getfield 33, 3) := by decide +kernel
theorem dX7_append_119 : decode cX7_append 119 = .ok (.ireturn, 1) := by decide +kernel
theorem dX7_sign_0 : decode cX7_sign 0 = .ok (.aload_n 0, 1) := by decide +kernel
theorem dX7_sign_1 : decode cX7_sign 1 = .ok (.getfield 42, 3) := by decide +kernel
theorem dX7_sign_4 : decode cX7_sign 4 = .ok (.ifCond .ne 26, 3) := by decide +kernel
theorem dX7_sign_7 : decode cX7_sign 7 = .ok (.aload_n 0, 1) := by decide +kernel
theorem dX7_sign_8 : decode cX7_sign 8 = .ok (.getfield 36, 3) := by decide +kernel
theorem dX7_sign_11 : decode cX7_sign 11 = .ok (.aload_n 0, 1) := by decide +kernel
theorem dX7_sign_12 : decode cX7_sign 12 = .ok (.getfield 33, 3) := by decide +kernel
theorem dX7_sign_15 : decode cX7_sign 15 = .ok (.if_icmp .ge 15, 3) := by decide +kernel
theorem dX7_sign_18 : decode cX7_sign 18 = .ok (.aload_n 0, 1) := by decide +kernel
theorem dX7_sign_19 : decode cX7_sign 19 = .ok (.getfield 30, 3) := by decide +kernel
theorem dX7_sign_22 : decode cX7_sign 22 = .ok (.aload_n 0, 1) := by decide +kernel
theorem dX7_sign_23 : decode cX7_sign 23 = .ok (.getfield 36, 3) := by decide +kernel
theorem dX7_sign_26 : decode cX7_sign 26 = .ok (.iaload, 1) := by decide +kernel
theorem dX7_sign_27 : decode cX7_sign 27 = .ok (.goto 5, 3) := by decide +kernel
theorem dX7_sign_30 : decode cX7_sign 30 = .ok (.bipush (-4), 2) := by decide +kernel
theorem dX7_sign_32 : decode cX7_sign 32 = .ok (.ireturn, 1) := by decide +kernel
theorem dX7_takes_0 : decode cX7_takes 0 = .ok (.aload_n 0, 1) := by decide +kernel
theorem dX7_takes_1 : decode cX7_takes 1 = .ok (.invokevirtual 111, 3) := by decide +kernel
theorem dX7_takes_4 : decode cX7_takes 4 = .ok (.iload_n 1, 1) := by decide +kernel
theorem dX7_takes_5 : decode cX7_takes 5 = .ok (.if_icmp .ne 16, 3) := by decide +kernel
theorem dX7_takes_8 : decode cX7_takes 8 = .ok (.aload_n 0, 1) := by decide +kernel
theorem dX7_takes_9 : decode cX7_takes 9 = .ok (.dup, 1) := by decide +kernel
theorem dX7_takes_10 : decode cX7_takes 10 = .ok (.getfield 36, 3) := by decide +kernel
theorem dX7_takes_13 : decode cX7_takes 13 = .ok (.iconst 1, 1) := by decide +kernel
theorem dX7_takes_14 : decode cX7_takes 14 = .ok (.iadd, 1) := by decide +kernel
theorem dX7_takes_15 : decode cX7_takes 15 = .ok (.putfield 36, 3) := by decide +kernel
theorem dX7_takes_18 : decode cX7_takes 18 = .ok (.goto 8, 3) := by decide +kernel
theorem dX7_takes_21 : decode cX7_takes 21 = .ok (.aload_n 0, 1) := by decide +kernel
theorem dX7_takes_22 : decode cX7_takes 22 = .ok (.iconst 1, 1) := by decide +kernel
theorem dX7_takes_23 : decode cX7_takes 23 = .ok (.putfield 42, 3) := by decide +kernel
theorem dX7_takes_26 : decode cX7_takes 26 = .ok (.return_, 1) := by decide +kernel
theorem dX7_number_0 : decode cX7_number 0 = .ok (.iconst 0, 1) := by decide +kernel
theorem dX7_number_1 : decode cX7_number 1 = .ok (.istore_n 1, 1) := by decide +kernel
theorem dX7_number_2 : decode cX7_number 2 = .ok (.iconst 0, 1) := by decide +kernel
theorem dX7_number_3 : decode cX7_number 3 = .ok (.istore_n 2, 1) := by decide +kernel
theorem dX7_number_4 : decode cX7_number 4 = .ok (.iload_n 2, 1) := by decide +kernel
theorem dX7_number_5 : decode cX7_number 5 = .ok (.bipush 6, 2) := by decide +kernel
theorem dX7_number_7 : decode cX7_number 7 = .ok (.if_icmp .ge 46, 3) := by decide +kernel
theorem dX7_number_10 : decode cX7_number 10 = .ok (.aload_n 0, 1) := by decide +kernel
theorem dX7_number_11 : decode cX7_number 11 = .ok (.invokevirtual 111, 3) := by decide +kernel
theorem dX7_number_14 : decode cX7_number 14 = .ok (.bipush 48, 2) := by decide +kernel
theorem dX7_number_16 : decode cX7_number 16 = .ok (.bipush 57, 2) := by decide +kernel
theorem dX7_number_18 : decode cX7_number 18 = .ok (.invokestatic 61, 3) := by decide +kernel
theorem dX7_number_21 : decode cX7_number 21 = .ok (.ifCond .eq 32, 3) := by decide +kernel
theorem dX7_number_24 : decode cX7_number 24 = .ok (.bipush 10, 2) := by decide +kernel
theorem dX7_number_26 : decode cX7_number 26 = .ok (.iload_n 1, 1) := by decide +kernel
theorem dX7_number_27 : decode cX7_number 27 = .ok (.imul, 1) := by decide +kernel
theorem dX7_number_28 : decode cX7_number 28 = .ok (.aload_n 0, 1) := by decide +kernel
theorem dX7_number_29 : decode cX7_number 29 = .ok (.invokevirtual 111, 3) := by decide +kernel
theorem dX7_number_32 : decode cX7_number 32 = .ok (.iadd, 1) := by decide +kernel
theorem dX7_number_33 : decode cX7_number 33 = .ok (.bipush 48, 2) := by decide +kernel
theorem dX7_number_35 : decode cX7_number 35 = .ok (.isub, 1) := by decide +kernel
theorem dX7_number_36 : decode cX7_number 36 = .ok (.istore_n 1, 1) := by decide +kernel
theorem dX7_number_37 : decode cX7_number 37 = .ok (.aload_n 0, 1) := by decide +kernel
theorem dX7_number_38 : decode cX7_number 38 = .ok (.dup, 1) := by decide +kernel
theorem dX7_number_39 : decode cX7_number 39 = .ok (.getfield 36, 3) := by decide +kernel
theorem dX7_number_42 : decode cX7_number 42 = .ok (.iconst 1, 1) := by decide +kernel
theorem dX7_number_43 : decode cX7_number 43 = .ok (.iadd, 1) := by decide +kernel
theorem dX7_number_44 : decode cX7_number 44 = .ok (.putfield 36, 3) := by decide +kernel
theorem dX7_number_47 : decode cX7_number 47 = .ok (.iinc 2 1, 3) := by decide +kernel
theorem dX7_number_50 : decode cX7_number 50 = .ok (.goto (-46), 3) := by decide +kernel
theorem dX7_number_53 : decode cX7_number 53 = .ok (.aload_n 0, 1) := by decide +kernel
theorem dX7_number_54 : decode cX7_number 54 = .ok (.dup, 1) := by decide +kernel
theorem dX7_number_55 : decode cX7_number 55 = .ok (.getfield 42, 3) := by decide +kernel
theorem dX7_number_58 : decode cX7_number 58 = .ok (.iload_n 2, 1) := by decide +kernel
theorem dX7_number_59 : decode cX7_number 59 = .ok (.ifCond .ne 7, 3) := by decide +kernel
theorem dX7_number_62 : decode cX7_number 62 = .ok (.iconst 1, 1) := by decide +kernel
theorem dX7_number_63 : decode cX7_number 63 = .ok (.goto 4, 3) := by decide +kernel
theorem dX7_number_66 : decode cX7_number 66 = .ok (.iconst 0, 1) := by decide +kernel
theorem dX7_number_67 : decode cX7_number 67 = .ok (.ior, 1) := by decide +kernel
theorem dX7_number_68 : decode cX7_number 68 = .ok (.putfield 42, 3) := by decide +kernel
theorem dX7_number_71 : decode cX7_number 71 = .ok (.iload_n 1, 1) := by decide +kernel
theorem dX7_number_72 : decode cX7_number 72 = .ok (.ireturn, 1) := by decide +kernel
theorem dX7_entry_0 : decode cX7_entry 0 = .ok (.aload_n 0, 1) := by decide +kernel
theorem dX7_entry_1 : decode cX7_entry 1 = .ok (.invokevirtual 111, 3) := by decide +kernel
theorem dX7_entry_4 : decode cX7_entry 4 = .ok (.istore_n 1, 1) := by decide +kernel
theorem dX7_entry_5 : decode cX7_entry 5 = .ok (.iload_n 1, 1) := by decide +kernel
theorem dX7_entry_6 : decode cX7_entry 6 = .ok (.bipush 101, 2) := by decide +kernel
theorem dX7_entry_8 : decode cX7_entry 8 = .ok (.if_icmp .eq 22, 3) := by decide +kernel
theorem dX7_entry_11 : decode cX7_entry 11 = .ok (.iload_n 1, 1) := by decide +kernel
theorem dX7_entry_12 : decode cX7_entry 12 = .ok (.bipush 99, 2) := by decide +kernel
theorem dX7_entry_14 : decode cX7_entry 14 = .ok (.if_icmp .eq 16, 3) := by decide +kernel
theorem dX7_entry_17 : decode cX7_entry 17 = .ok (.iload_n 1, 1) := by decide +kernel
theorem dX7_entry_18 : decode cX7_entry 18 = .ok (.bipush 114, 2) := by decide +kernel
theorem dX7_entry_20 : decode cX7_entry 20 = .ok (.if_icmp .eq 10, 3) := by decide +kernel
theorem dX7_entry_23 : decode cX7_entry 23 = .ok (.aload_n 0, 1) := by decide +kernel
theorem dX7_entry_24 : decode cX7_entry 24 = .ok (.iconst 1, 1) := by decide +kernel
theorem dX7_entry_25 : decode cX7_entry 25 = .ok (.putfield 42, 3) := by decide +kernel
theorem dX7_entry_28 : decode cX7_entry 28 = .ok (.iload_n 1, 1) := by decide +kernel
theorem dX7_entry_29 : decode cX7_entry 29 = .ok (.ireturn, 1) := by decide +kernel
theorem dX7_entry_30 : decode cX7_entry 30 = .ok (.aload_n 0, 1) := by decide +kernel
theorem dX7_entry_31 : decode cX7_entry 31 = .ok (.dup, 1) := by decide +kernel
theorem dX7_entry_32 : decode cX7_entry 32 = .ok (.getfield 36, 3) := by decide +kernel
theorem dX7_entry_35 : decode cX7_entry 35 = .ok (.iconst 1, 1) := by decide +kernel
theorem dX7_entry_36 : decode cX7_entry 36 = .ok (.iadd, 1) := by decide +kernel
theorem dX7_entry_37 : decode cX7_entry 37 = .ok (.putfield 36, 3) := by decide +kernel
theorem dX7_entry_40 : decode cX7_entry 40 = .ok (.aload_n 0, 1) := by decide +kernel
theorem dX7_entry_41 : decode cX7_entry 41 = .ok (.getfield 45, 3) := by decide +kernel
theorem dX7_entry_44 : decode cX7_entry 44 = .ok (.iconst 0, 1) := by decide +kernel
theorem dX7_entry_45 : decode cX7_entry 45 = .ok (.aload_n 0, 1) := by decide +kernel
theorem dX7_entry_46 : decode cX7_entry 46 = .ok (.invokevirtual 115, 3) := by decide +kernel
theorem dX7_entry_49 : decode cX7_entry 49 = .ok (.iastore, 1) := by decide +kernel
theorem dX7_entry_50 : decode cX7_entry 50 = .ok (.iload_n 1, 1) := by decide +kernel
theorem dX7_entry_51 : decode cX7_entry 51 = .ok (.bipush 101, 2) := by decide +kernel
theorem dX7_entry_53 : decode cX7_entry 53 = .ok (.if_icmp .ne 5, 3) := by decide +kernel
theorem dX7_entry_56 : decode cX7_entry 56 = .ok (.iload_n 1, 1) := by decide +kernel
theorem dX7_entry_57 : decode cX7_entry 57 = .ok (.ireturn, 1) := by decide +kernel
theorem dX7_entry_58 : decode cX7_entry 58 = .ok (.aload_n 0, 1) := by decide +kernel
theorem dX7_entry_59 : decode cX7_entry 59 = .ok (.iload_n 1, 1) := by decide +kernel
theorem dX7_entry_60 : decode cX7_entry 60 = .ok (.bipush 99, 2) := by decide +kernel
theorem dX7_entry_62 : decode cX7_entry 62 = .ok (.if_icmp .ne 8, 3) := by decide +kernel
theorem dX7_entry_65 : decode cX7_entry 65 = .ok (.bipush 44, 2) := by decide +kernel
theorem dX7_entry_67 : decode cX7_entry 67 = .ok (.goto 5, 3) := by decide +kernel
theorem dX7_entry_70 : decode cX7_entry 70 = .ok (.bipush 61, 2) := by decide +kernel
theorem dX7_entry_72 : decode cX7_entry 72 = .ok (.invokevirtual 118, 3) := by decide +kernel
theorem dX7_entry_75 : decode cX7_entry 75 = .ok (.aload_n 0, 1) := by decide +kernel
theorem dX7_entry_76 : decode cX7_entry 76 = .ok (.getfield 45, 3) := by decide +kernel
theorem dX7_entry_79 : decode cX7_entry 79 = .ok (.iconst 1, 1) := by decide +kernel
theorem dX7_entry_80 : decode cX7_entry 80 = .ok (.aload_n 0, 1) := by decide +kernel
theorem dX7_entry_81 : decode cX7_entry 81 = .ok (.getfield 42, 3) := by decide +kernel
theorem dX7_entry_84 : decode cX7_entry 84 = .ok (.ifCond .eq 7, 3) := by decide +kernel
theorem dX7_entry_87 : decode cX7_entry 87 = .ok (.iconst 0, 1) := by decide +kernel
theorem dX7_entry_88 : decode cX7_entry 88 = .ok (.goto 7, 3) := by decide +kernel
theorem dX7_entry_91 : decode cX7_entry 91 = .ok (.aload_n 0, 1) := by decide +kernel
theorem dX7_entry_92 : decode cX7_entry 92 = .ok (.invokevirtual 115, 3) := by decide +kernel
theorem dX7_entry_95 : decode cX7_entry 95 = .ok (.iastore, 1) := by decide +kernel
theorem dX7_entry_96 : decode cX7_entry 96 = .ok (.iload_n 1, 1) := by decide +kernel
theorem dX7_entry_97 : decode cX7_entry 97 = .ok (.bipush 114, 2) := by decide +kernel
theorem dX7_entry_99 : decode cX7_entry 99 = .ok (.if_icmp .ne 5, 3) := by decide +kernel
theorem dX7_entry_102 : decode cX7_entry 102 = .ok (.iload_n 1, 1) := by decide +kernel
theorem dX7_entry_103 : decode cX7_entry 103 = .ok (.ireturn, 1) := by decide +kernel
theorem dX7_entry_104 : decode cX7_entry 104 = .ok (.aload_n 0, 1) := by decide +kernel
theorem dX7_entry_105 : decode cX7_entry 105 = .ok (.bipush 44, 2) := by decide +kernel
theorem dX7_entry_107 : decode cX7_entry 107 = .ok (.invokevirtual 118, 3) := by decide +kernel
theorem dX7_entry_110 : decode cX7_entry 110 = .ok (.aload_n 0, 1) := by decide +kernel
theorem dX7_entry_111 : decode cX7_entry 111 = .ok (.getfield 45, 3) := by decide +kernel
theorem dX7_entry_114 : decode cX7_entry 114 = .ok (.iconst 2, 1) := by decide +kernel
theorem dX7_entry_115 : decode cX7_entry 115 = .ok (.aload_n 0, 1) := by decide +kernel
theorem dX7_entry_116 : decode cX7_entry 116 = .ok (.getfield 42, 3) := by decide +kernel
theorem dX7_entry_119 : decode cX7_entry 119 = .ok (.ifCond .eq 7, 3) := by decide +kernel
theorem dX7_entry_122 : decode cX7_entry 122 = .ok (.iconst 0, 1) := by decide +kernel
theorem dX7_entry_123 : decode cX7_entry 123 = .ok (.goto 7, 3) := by decide +kernel
theorem dX7_entry_126 : decode cX7_entry 126 = .ok (.aload_n 0, 1) := by decide +kernel
theorem dX7_entry_127 : decode cX7_entry 127 = .ok (.invokevirtual 115, 3) := by decide +kernel
theorem dX7_entry_130 : decode cX7_entry 130 = .ok (.iastore, 1) := by decide +kernel
theorem dX7_entry_131 : decode cX7_entry 131 = .ok (.iload_n 1, 1) := by decide +kernel
theorem dX7_entry_132 : decode cX7_entry 132 = .ok (.ireturn, 1) := by decide +kernel
theorem dX7_isFaulty_0 : decode cX7_isFaulty 0 = .ok (.aload_n 0, 1) := by decide +kernel
theorem dX7_isFaulty_1 : decode cX7_isFaulty 1 = .ok (.iconst 0, 1) := by decide +kernel
theorem dX7_isFaulty_2 : decode cX7_isFaulty 2 = .ok (.putfield 36, 3) := by decide +kernel
theorem dX7_isFaulty_5 : decode cX7_isFaulty 5 = .ok (.aload_n 0, 1) := by decide +kernel
theorem dX7_isFaulty_6 : decode cX7_isFaulty 6 = .ok (.iconst 0, 1) := by decide +kernel
theorem dX7_isFaulty_7 : decode cX7_isFaulty 7 = .ok (.putfield 42, 3) := by decide +kernel
theorem dX7_isFaulty_10 : decode cX7_isFaulty 10 = .ok (.aload_n 0, 1) := by decide +kernel
theorem dX7_isFaulty_11 : decode cX7_isFaulty 11 = .ok (.invokevirtual 122, 3) := by decide +kernel
theorem dX7_isFaulty_14 : decode cX7_isFaulty 14 = .ok (.istore_n 1, 1) := by decide +kernel
theorem dX7_isFaulty_15 : decode cX7_isFaulty 15 = .ok (.aload_n 0, 1) := by decide +kernel
theorem dX7_isFaulty_16 : decode cX7_isFaulty 16 = .ok (.invokevirtual 111, 3) := by decide +kernel
theorem dX7_isFaulty_19 : decode cX7_isFaulty 19 = .ok (.bipush 59, 2) := by decide +kernel
theorem dX7_isFaulty_21 : decode cX7_isFaulty 21 = .ok (.if_icmp .ne 21, 3) := by decide +kernel
theorem dX7_isFaulty_24 : decode cX7_isFaulty 24 = .ok (.aload_n 0, 1) := by decide +kernel
theorem dX7_isFaulty_25 : decode cX7_isFaulty 25 = .ok (.dup, 1) := by decide +kernel
theorem dX7_isFaulty_26 : decode cX7_isFaulty 26 = .ok (.getfield 36, 3) := by decide +kernel
theorem dX7_isFaulty_29 : decode cX7_isFaulty 29 = .ok (.iconst 1, 1) := by decide +kernel
theorem dX7_isFaulty_30 : decode cX7_isFaulty 30 = .ok (.iadd, 1) := by decide +kernel
theorem dX7_isFaulty_31 : decode cX7_isFaulty 31 = .ok (.putfield 36, 3) := by decide +kernel
theorem dX7_isFaulty_34 : decode cX7_isFaulty 34 = .ok (.aload_n 0, 1) := by decide +kernel
theorem dX7_isFaulty_35 : decode cX7_isFaulty 35 = .ok (.invokevirtual 122, 3) := by decide +kernel
theorem dX7_isFaulty_38 : decode cX7_isFaulty 38 = .ok (.istore_n 1, 1) := by decide +kernel
theorem dX7_isFaulty_39 : decode cX7_isFaulty 39 = .ok (.goto (-24), 3) := by decide +kernel
theorem dX7_isFaulty_42 : decode cX7_isFaulty 42 = .ok (.aload_n 0, 1) := by decide +kernel
theorem dX7_isFaulty_43 : decode cX7_isFaulty 43 = .ok (.getfield 42, 3) := by decide +kernel
theorem dX7_isFaulty_46 : decode cX7_isFaulty 46 = .ok (.ifCond .ne 14, 3) := by decide +kernel
theorem dX7_isFaulty_49 : decode cX7_isFaulty 49 = .ok (.aload_n 0, 1) := by decide +kernel
theorem dX7_isFaulty_50 : decode cX7_isFaulty 50 = .ok (.getfield 36, 3) := by decide +kernel
theorem dX7_isFaulty_53 : decode cX7_isFaulty 53 = .ok (.aload_n 0, 1) := by decide +kernel
theorem dX7_isFaulty_54 : decode cX7_isFaulty 54 = .ok (.getfield 33, 3) := by decide +kernel
theorem dX7_isFaulty_57 : decode cX7_isFaulty 57 = .ok (.if_icmp .ge 7, 3) := by decide +kernel
theorem dX7_isFaulty_60 : decode cX7_isFaulty 60 = .ok (.iconst 1, 1) := by decide +kernel
theorem dX7_isFaulty_61 : decode cX7_isFaulty 61 = .ok (.goto 4, 3) := by decide +kernel
theorem dX7_isFaulty_64 : decode cX7_isFaulty 64 = .ok (.iconst 0, 1) := by decide +kernel
theorem dX7_isFaulty_65 : decode cX7_isFaulty 65 = .ok (.ireturn, 1) := by decide +kernel
theorem dX7_read_0 : decode cX7_read 0 = .ok (.aload_n 0, 1) := by decide +kernel
theorem dX7_read_1 : decode cX7_read 1 = .ok (.bipush (-4), 2) := by decide +kernel
theorem dX7_read_3 : decode cX7_read 3 = .ok (.putfield 39, 3) := by decide +kernel
theorem dX7_read_6 : decode cX7_read 6 = .ok (.aload_n 0, 1) := by decide +kernel
theorem dX7_read_7 : decode cX7_read 7 = .ok (.invokevirtual 125, 3) := by decide +kernel
theorem dX7_read_10 : decode cX7_read 10 = .ok (.ifCond .eq 19, 3) := by decide +kernel
theorem dX7_read_13 : decode cX7_read 13 = .ok (.aload_n 0, 1) := by decide +kernel
theorem dX7_read_14 : decode cX7_read 14 = .ok (.aload_n 0, 1) := by decide +kernel
theorem dX7_read_15 : decode cX7_read 15 = .ok (.getfield 36, 3) := by decide +kernel
theorem dX7_read_18 : decode cX7_read 18 = .ok (.putfield 39, 3) := by decide +kernel
theorem dX7_read_21 : decode cX7_read 21 = .ok (.aload_n 0, 1) := by decide +kernel
theorem dX7_read_22 : decode cX7_read 22 = .ok (.iconst 0, 1) := by decide +kernel
theorem dX7_read_23 : decode cX7_read 23 = .ok (.putfield 33, 3) := by decide +kernel
theorem dX7_read_26 : decode cX7_read 26 = .ok (.bipush (-2), 2) := by decide +kernel
theorem dX7_read_28 : decode cX7_read 28 = .ok (.ireturn, 1) := by decide +kernel
theorem dX7_read_29 : decode cX7_read 29 = .ok (.aload_n 0, 1) := by decide +kernel
theorem dX7_read_30 : decode cX7_read 30 = .ok (.invokevirtual 83, 3) := by decide +kernel
theorem dX7_read_33 : decode cX7_read 33 = .ok (.aload_n 0, 1) := by decide +kernel
theorem dX7_read_34 : decode cX7_read 34 = .ok (.iconst 0, 1) := by decide +kernel
theorem dX7_read_35 : decode cX7_read 35 = .ok (.putfield 36, 3) := by decide +kernel
theorem dX7_read_38 : decode cX7_read 38 = .ok (.aload_n 0, 1) := by decide +kernel
theorem dX7_read_39 : decode cX7_read 39 = .ok (.iconst 0, 1) := by decide +kernel
theorem dX7_read_40 : decode cX7_read 40 = .ok (.putfield 42, 3) := by decide +kernel
theorem dX7_read_43 : decode cX7_read 43 = .ok (.iconst 0, 1) := by decide +kernel
theorem dX7_read_44 : decode cX7_read 44 = .ok (.istore_n 1, 1) := by decide +kernel
theorem dX7_read_45 : decode cX7_read 45 = .ok (.aload_n 0, 1) := by decide +kernel
theorem dX7_read_46 : decode cX7_read 46 = .ok (.getfield 36, 3) := by decide +kernel
theorem dX7_read_49 : decode cX7_read 49 = .ok (.aload_n 0, 1) := by decide +kernel
theorem dX7_read_50 : decode cX7_read 50 = .ok (.getfield 33, 3) := by decide +kernel
theorem dX7_read_53 : decode cX7_read 53 = .ok (.if_icmp .ge 132, 3) := by decide +kernel
theorem dX7_read_56 : decode cX7_read 56 = .ok (.iload_n 1, 1) := by decide +kernel
theorem dX7_read_57 : decode cX7_read 57 = .ok (.ifCond .le 13, 3) := by decide +kernel
theorem dX7_read_60 : decode cX7_read 60 = .ok (.aload_n 0, 1) := by decide +kernel
theorem dX7_read_61 : decode cX7_read 61 = .ok (.dup, 1) := by decide +kernel
theorem dX7_read_62 : decode cX7_read 62 = .ok (.getfield 36, 3) := by decide +kernel
theorem dX7_read_65 : decode cX7_read 65 = .ok (.iconst 1, 1) := by decide +kernel
theorem dX7_read_66 : decode cX7_read 66 = .ok (.iadd, 1) := by decide +kernel
theorem dX7_read_67 : decode cX7_read 67 = .ok (.putfield 36, 3) := by decide +kernel
theorem dX7_read_70 : decode cX7_read 70 = .ok (.aload_n 0, 1) := by decide +kernel
theorem dX7_read_71 : decode cX7_read 71 = .ok (.getfield 36, 3) := by decide +kernel
theorem dX7_read_74 : decode cX7_read 74 = .ok (.istore_n 2, 1) := by decide +kernel
theorem dX7_read_75 : decode cX7_read 75 = .ok (.aload_n 0, 1) := by decide +kernel
theorem dX7_read_76 : decode cX7_read 76 = .ok (.invokevirtual 122, 3) := by decide +kernel
theorem dX7_read_79 : decode cX7_read 79 = .ok (.istore_n 3, 1) := by decide +kernel
theorem dX7_read_80 : decode cX7_read 80 = .ok (.iload_n 3, 1) := by decide +kernel
theorem dX7_read_81 : decode cX7_read 81 = .ok (.bipush 101, 2) := by decide +kernel
theorem dX7_read_83 : decode cX7_read 83 = .ok (.if_icmp .ne 16, 3) := by decide +kernel
theorem dX7_read_86 : decode cX7_read 86 = .ok (.aload_n 0, 1) := by decide +kernel
theorem dX7_read_87 : decode cX7_read 87 = .ok (.aload_n 0, 1) := by decide +kernel
theorem dX7_read_88 : decode cX7_read 88 = .ok (.getfield 45, 3) := by decide +kernel
theorem dX7_read_91 : decode cX7_read 91 = .ok (.iconst 0, 1) := by decide +kernel
theorem dX7_read_92 : decode cX7_read 92 = .ok (.iaload, 1) := by decide +kernel
theorem dX7_read_93 : decode cX7_read 93 = .ok (.invokevirtual 97, 3) := by decide +kernel
theorem dX7_read_96 : decode cX7_read 96 = .ok (.goto 50, 3) := by decide +kernel
theorem dX7_read_99 : decode cX7_read 99 = .ok (.iload_n 3, 1) := by decide +kernel
theorem dX7_read_100 : decode cX7_read 100 = .ok (.bipush 99, 2) := by decide +kernel
theorem dX7_read_102 : decode cX7_read 102 = .ok (.if_icmp .ne 28, 3) := by decide +kernel
theorem dX7_read_105 : decode cX7_read 105 = .ok (.aload_n 0, 1) := by decide +kernel
theorem dX7_read_106 : decode cX7_read 106 = .ok (.aload_n 0, 1) := by decide +kernel
theorem dX7_read_107 : decode cX7_read 107 = .ok (.getfield 45, 3) := by decide +kernel
theorem dX7_read_110 : decode cX7_read 110 = .ok (.iconst 0, 1) := by decide +kernel
theorem dX7_read_111 : decode cX7_read 111 = .ok (.iaload, 1) := by decide +kernel
theorem dX7_read_112 : decode cX7_read 112 = .ok (.aload_n 0, 1) := by decide +kernel
theorem dX7_read_113 : decode cX7_read 113 = .ok (.getfield 45, 3) := by decide +kernel
theorem dX7_read_116 : decode cX7_read 116 = .ok (.iconst 1, 1) := by decide +kernel
theorem dX7_read_117 : decode cX7_read 117 = .ok (.iaload, 1) := by decide +kernel
theorem dX7_read_118 : decode cX7_read 118 = .ok (.aload_n 0, 1) := by decide +kernel
theorem dX7_read_119 : decode cX7_read 119 = .ok (.getfield 45, 3) := by decide +kernel
theorem dX7_read_122 : decode cX7_read 122 = .ok (.iconst 2, 1) := by decide +kernel
theorem dX7_read_123 : decode cX7_read 123 = .ok (.iaload, 1) := by decide +kernel
theorem dX7_read_124 : decode cX7_read 124 = .ok (.invokevirtual 100, 3) := by decide +kernel
theorem dX7_read_127 : decode cX7_read 127 = .ok (.goto 19, 3) := by decide +kernel
theorem dX7_read_130 : decode cX7_read 130 = .ok (.aload_n 0, 1) := by decide +kernel
theorem dX7_read_131 : decode cX7_read 131 = .ok (.aload_n 0, 1) := by decide +kernel
theorem dX7_read_132 : decode cX7_read 132 = .ok (.getfield 45, 3) := by decide +kernel
theorem dX7_read_135 : decode cX7_read 135 = .ok (.iconst 0, 1) := by decide +kernel
theorem dX7_read_136 : decode cX7_read 136 = .ok (.iaload, 1) := by decide +kernel
theorem dX7_read_137 : decode cX7_read 137 = .ok (.aload_n 0, 1) := by decide +kernel
theorem dX7_read_138 : decode cX7_read 138 = .ok (.getfield 45, 3) := by decide +kernel
theorem dX7_read_141 : decode cX7_read 141 = .ok (.iconst 1, 1) := by decide +kernel
theorem dX7_read_142 : decode cX7_read 142 = .ok (.iaload, 1) := by decide +kernel
theorem dX7_read_143 : decode cX7_read 143 = .ok (.invokevirtual 107, 3) := by decide +kernel
theorem dX7_read_146 : decode cX7_read 146 = .ok (.istore 4, 2) := by decide +kernel
theorem dX7_read_148 : decode cX7_read 148 = .ok (.iload 4, 2) := by decide +kernel
theorem dX7_read_150 : decode cX7_read 150 = .ok (.ifCond .ge 29, 3) := by decide +kernel
theorem dX7_read_153 : decode cX7_read 153 = .ok (.aload_n 0, 1) := by decide +kernel
theorem dX7_read_154 : decode cX7_read 154 = .ok (.getfield 19, 3) := by decide +kernel
theorem dX7_read_157 : decode cX7_read 157 = .ok (.iconst 0, 1) := by decide +kernel
theorem dX7_read_158 : decode cX7_read 158 = .ok (.aload_n 0, 1) := by decide +kernel
theorem dX7_read_159 : decode cX7_read 159 = .ok (.getfield 9, 3) := by decide +kernel
theorem dX7_read_162 : decode cX7_read 162 = .ok (.iconst 0, 1) := by decide +kernel
theorem dX7_read_163 : decode cX7_read 163 = .ok (.invokestatic 57, 3) := by decide +kernel
theorem dX7_read_166 : decode cX7_read 166 = .ok (.aload_n 0, 1) := by decide +kernel
theorem dX7_read_167 : decode cX7_read 167 = .ok (.iload_n 2, 1) := by decide +kernel
theorem dX7_read_168 : decode cX7_read 168 = .ok (.putfield 39, 3) := by decide +kernel
theorem dX7_read_171 : decode cX7_read 171 = .ok (.aload_n 0, 1) := by decide +kernel
theorem dX7_read_172 : decode cX7_read 172 = .ok (.iconst 0, 1) := by decide +kernel
theorem dX7_read_173 : decode cX7_read 173 = .ok (.putfield 33, 3) := by decide +kernel
theorem dX7_read_176 : decode cX7_read 176 = .ok (.bipush (-5), 2) := by decide +kernel
theorem dX7_read_178 : decode cX7_read 178 = .ok (.ireturn, 1) := by decide +kernel
theorem dX7_read_179 : decode cX7_read 179 = .ok (.iinc 1 1, 3) := by decide +kernel
theorem dX7_read_182 : decode cX7_read 182 = .ok (.goto (-137), 3) := by decide +kernel
theorem dX7_read_185 : decode cX7_read 185 = .ok (.aload_n 0, 1) := by decide +kernel
theorem dX7_read_186 : decode cX7_read 186 = .ok (.iconst 0, 1) := by decide +kernel
theorem dX7_read_187 : decode cX7_read 187 = .ok (.putfield 33, 3) := by decide +kernel
theorem dX7_read_190 : decode cX7_read 190 = .ok (.aload_n 0, 1) := by decide +kernel
theorem dX7_read_191 : decode cX7_read 191 = .ok (.invokevirtual 81, 3) := by decide +kernel
theorem dX7_read_194 : decode cX7_read 194 = .ok (.iload_n 1, 1) := by decide +kernel
theorem dX7_read_195 : decode cX7_read 195 = .ok (.ireturn, 1) := by decide +kernel
theorem dX7_faultPosition_0 : decode cX7_faultPosition 0 = .ok (.aload_n 0, 1) := by decide +kernel
theorem dX7_faultPosition_1 : decode cX7_faultPosition 1 = .ok (.getfield 39, 3) := by decide +kernel
theorem dX7_faultPosition_4 : decode cX7_faultPosition 4 = .ok (.ireturn, 1) := by decide +kernel
theorem dX7_undo_0 : decode cX7_undo 0 = .ok (.aload_n 0, 1) := by decide +kernel
theorem dX7_undo_1 : decode cX7_undo 1 = .ok (.getfield 22, 3) := by decide +kernel
theorem dX7_undo_4 : decode cX7_undo 4 = .ok (.ifCond .ne 6, 3) := by decide +kernel
theorem dX7_undo_7 : decode cX7_undo 7 = .ok (.bipush (-4), 2) := by decide +kernel
theorem dX7_undo_9 : decode cX7_undo 9 = .ok (.ireturn, 1) := by decide +kernel
theorem dX7_undo_10 : decode cX7_undo 10 = .ok (.aload_n 0, 1) := by decide +kernel
theorem dX7_undo_11 : decode cX7_undo 11 = .ok (.dup, 1) := by decide +kernel
theorem dX7_undo_12 : decode cX7_undo 12 = .ok (.getfield 22, 3) := by decide +kernel
theorem dX7_undo_15 : decode cX7_undo 15 = .ok (.iconst 1, 1) := by decide +kernel
theorem dX7_undo_16 : decode cX7_undo 16 = .ok (.isub, 1) := by decide +kernel
theorem dX7_undo_17 : decode cX7_undo 17 = .ok (.putfield 22, 3) := by decide +kernel
theorem dX7_undo_20 : decode cX7_undo 20 = .ok (.aload_n 0, 1) := by decide +kernel
theorem dX7_undo_21 : decode cX7_undo 21 = .ok (.getfield 13, 3) := by decide +kernel
theorem dX7_undo_24 : decode cX7_undo 24 = .ok (.sipush 136, 3) := by decide +kernel
theorem dX7_undo_27 : decode cX7_undo 27 = .ok (.aload_n 0, 1) := by decide +kernel
theorem dX7_undo_28 : decode cX7_undo 28 = .ok (.getfield 22, 3) := by decide +kernel
theorem dX7_undo_31 : decode cX7_undo 31 = .ok (.imul, 1) := by decide +kernel
theorem dX7_undo_32 : decode cX7_undo 32 = .ok (.aload_n 0, 1) := by decide +kernel
theorem dX7_undo_33 : decode cX7_undo 33 = .ok (.getfield 9, 3) := by decide +kernel
theorem dX7_undo_36 : decode cX7_undo 36 = .ok (.iconst 0, 1) := by decide +kernel
theorem dX7_undo_37 : decode cX7_undo 37 = .ok (.invokestatic 57, 3) := by decide +kernel
theorem dX7_undo_40 : decode cX7_undo 40 = .ok (.aload_n 0, 1) := by decide +kernel
theorem dX7_undo_41 : decode cX7_undo 41 = .ok (.getfield 22, 3) := by decide +kernel
theorem dX7_undo_44 : decode cX7_undo 44 = .ok (.ireturn, 1) := by decide +kernel
theorem dX7_count_0 : decode cX7_count 0 = .ok (.iload_n 1, 1) := by decide +kernel
theorem dX7_count_1 : decode cX7_count 1 = .ok (.tableswitch 79 0 5 #[39, 46, 53, 60, 67, 72], 39) := by decide +kernel
theorem dX7_count_40 : decode cX7_count 40 = .ok (.aload_n 0, 1) := by decide +kernel
theorem dX7_count_41 : decode cX7_count 41 = .ok (.getfield 9, 3) := by decide +kernel
theorem dX7_count_44 : decode cX7_count 44 = .ok (.iconst 0, 1) := by decide +kernel
theorem dX7_count_45 : decode cX7_count 45 = .ok (.iaload, 1) := by decide +kernel
theorem dX7_count_46 : decode cX7_count 46 = .ok (.ireturn, 1) := by decide +kernel
theorem dX7_count_47 : decode cX7_count 47 = .ok (.aload_n 0, 1) := by decide +kernel
theorem dX7_count_48 : decode cX7_count 48 = .ok (.getfield 9, 3) := by decide +kernel
theorem dX7_count_51 : decode cX7_count 51 = .ok (.iconst 1, 1) := by decide +kernel
theorem dX7_count_52 : decode cX7_count 52 = .ok (.iaload, 1) := by decide +kernel
theorem dX7_count_53 : decode cX7_count 53 = .ok (.ireturn, 1) := by decide +kernel
theorem dX7_count_54 : decode cX7_count 54 = .ok (.aload_n 0, 1) := by decide +kernel
theorem dX7_count_55 : decode cX7_count 55 = .ok (.getfield 9, 3) := by decide +kernel
theorem dX7_count_58 : decode cX7_count 58 = .ok (.iconst 2, 1) := by decide +kernel
theorem dX7_count_59 : decode cX7_count 59 = .ok (.iaload, 1) := by decide +kernel
theorem dX7_count_60 : decode cX7_count 60 = .ok (.ireturn, 1) := by decide +kernel
theorem dX7_count_61 : decode cX7_count 61 = .ok (.aload_n 0, 1) := by decide +kernel
theorem dX7_count_62 : decode cX7_count 62 = .ok (.getfield 9, 3) := by decide +kernel
theorem dX7_count_65 : decode cX7_count 65 = .ok (.iconst 3, 1) := by decide +kernel
theorem dX7_count_66 : decode cX7_count 66 = .ok (.iaload, 1) := by decide +kernel
theorem dX7_count_67 : decode cX7_count 67 = .ok (.ireturn, 1) := by decide +kernel
theorem dX7_count_68 : decode cX7_count 68 = .ok (.aload_n 0, 1) := by decide +kernel
theorem dX7_count_69 : decode cX7_count 69 = .ok (.getfield 33, 3) := by decide +kernel
theorem dX7_count_72 : decode cX7_count 72 = .ok (.ireturn, 1) := by decide +kernel
theorem dX7_count_73 : decode cX7_count 73 = .ok (.aload_n 0, 1) := by decide +kernel
theorem dX7_count_74 : decode cX7_count 74 = .ok (.getfield 9, 3) := by decide +kernel
theorem dX7_count_77 : decode cX7_count 77 = .ok (.iconst 4, 1) := by decide +kernel
theorem dX7_count_78 : decode cX7_count 78 = .ok (.iaload, 1) := by decide +kernel
theorem dX7_count_79 : decode cX7_count 79 = .ok (.ireturn, 1) := by decide +kernel
theorem dX7_count_80 : decode cX7_count 80 = .ok (.bipush (-2), 2) := by decide +kernel
theorem dX7_count_82 : decode cX7_count 82 = .ok (.ireturn, 1) := by decide +kernel
theorem dX7_isBefore_0 : decode cX7_isBefore 0 = .ok (.aload_n 0, 1) := by decide +kernel
theorem dX7_isBefore_1 : decode cX7_isBefore 1 = .ok (.getfield 9, 3) := by decide +kernel
theorem dX7_isBefore_4 : decode cX7_isBefore 4 = .ok (.bipush 48, 2) := by decide +kernel
theorem dX7_isBefore_6 : decode cX7_isBefore 6 = .ok (.iload_n 1, 1) := by decide +kernel
theorem dX7_isBefore_7 : decode cX7_isBefore 7 = .ok (.iadd, 1) := by decide +kernel
theorem dX7_isBefore_8 : decode cX7_isBefore 8 = .ok (.iaload, 1) := by decide +kernel
theorem dX7_isBefore_9 : decode cX7_isBefore 9 = .ok (.aload_n 0, 1) := by decide +kernel
theorem dX7_isBefore_10 : decode cX7_isBefore 10 = .ok (.getfield 9, 3) := by decide +kernel
theorem dX7_isBefore_13 : decode cX7_isBefore 13 = .ok (.bipush 48, 2) := by decide +kernel
theorem dX7_isBefore_15 : decode cX7_isBefore 15 = .ok (.iload_n 2, 1) := by decide +kernel
theorem dX7_isBefore_16 : decode cX7_isBefore 16 = .ok (.iadd, 1) := by decide +kernel
theorem dX7_isBefore_17 : decode cX7_isBefore 17 = .ok (.iaload, 1) := by decide +kernel
theorem dX7_isBefore_18 : decode cX7_isBefore 18 = .ok (.if_icmp .eq 32, 3) := by decide +kernel
theorem dX7_isBefore_21 : decode cX7_isBefore 21 = .ok (.aload_n 0, 1) := by decide +kernel
theorem dX7_isBefore_22 : decode cX7_isBefore 22 = .ok (.getfield 9, 3) := by decide +kernel
theorem dX7_isBefore_25 : decode cX7_isBefore 25 = .ok (.bipush 48, 2) := by decide +kernel
theorem dX7_isBefore_27 : decode cX7_isBefore 27 = .ok (.iload_n 1, 1) := by decide +kernel
theorem dX7_isBefore_28 : decode cX7_isBefore 28 = .ok (.iadd, 1) := by decide +kernel
theorem dX7_isBefore_29 : decode cX7_isBefore 29 = .ok (.iaload, 1) := by decide +kernel
theorem dX7_isBefore_30 : decode cX7_isBefore 30 = .ok (.aload_n 0, 1) := by decide +kernel
theorem dX7_isBefore_31 : decode cX7_isBefore 31 = .ok (.getfield 9, 3) := by decide +kernel
theorem dX7_isBefore_34 : decode cX7_isBefore 34 = .ok (.bipush 48, 2) := by decide +kernel
theorem dX7_isBefore_36 : decode cX7_isBefore 36 = .ok (.iload_n 2, 1) := by decide +kernel
theorem dX7_isBefore_37 : decode cX7_isBefore 37 = .ok (.iadd, 1) := by decide +kernel
theorem dX7_isBefore_38 : decode cX7_isBefore 38 = .ok (.iaload, 1) := by decide +kernel
theorem dX7_isBefore_39 : decode cX7_isBefore 39 = .ok (.if_icmp .ge 7, 3) := by decide +kernel
theorem dX7_isBefore_42 : decode cX7_isBefore 42 = .ok (.iconst 1, 1) := by decide +kernel
theorem dX7_isBefore_43 : decode cX7_isBefore 43 = .ok (.goto 17, 3) := by decide +kernel
theorem dX7_isBefore_46 : decode cX7_isBefore 46 = .ok (.iconst 0, 1) := by decide +kernel
theorem dX7_isBefore_47 : decode cX7_isBefore 47 = .ok (.goto 13, 3) := by decide +kernel
theorem dX7_isBefore_50 : decode cX7_isBefore 50 = .ok (.iload_n 1, 1) := by decide +kernel
theorem dX7_isBefore_51 : decode cX7_isBefore 51 = .ok (.iload_n 2, 1) := by decide +kernel
theorem dX7_isBefore_52 : decode cX7_isBefore 52 = .ok (.if_icmp .ge 7, 3) := by decide +kernel
theorem dX7_isBefore_55 : decode cX7_isBefore 55 = .ok (.iconst 1, 1) := by decide +kernel
theorem dX7_isBefore_56 : decode cX7_isBefore 56 = .ok (.goto 4, 3) := by decide +kernel
theorem dX7_isBefore_59 : decode cX7_isBefore 59 = .ok (.iconst 0, 1) := by decide +kernel
theorem dX7_isBefore_60 : decode cX7_isBefore 60 = .ok (.ireturn, 1) := by decide +kernel
theorem dX7_positionOf_0 : decode cX7_positionOf 0 = .ok (.iconst 0, 1) := by decide +kernel
theorem dX7_positionOf_1 : decode cX7_positionOf 1 = .ok (.istore_n 2, 1) := by decide +kernel
theorem dX7_positionOf_2 : decode cX7_positionOf 2 = .ok (.iconst 0, 1) := by decide +kernel
theorem dX7_positionOf_3 : decode cX7_positionOf 3 = .ok (.istore_n 3, 1) := by decide +kernel
theorem dX7_positionOf_4 : decode cX7_positionOf 4 = .ok (.iload_n 3, 1) := by decide +kernel
theorem dX7_positionOf_5 : decode cX7_positionOf 5 = .ok (.aload_n 0, 1) := by decide +kernel
theorem dX7_positionOf_6 : decode cX7_positionOf 6 = .ok (.getfield 9, 3) := by decide +kernel
theorem dX7_positionOf_9 : decode cX7_positionOf 9 = .ok (.iconst 2, 1) := by decide +kernel
theorem dX7_positionOf_10 : decode cX7_positionOf 10 = .ok (.iaload, 1) := by decide +kernel
theorem dX7_positionOf_11 : decode cX7_positionOf 11 = .ok (.if_icmp .ge 31, 3) := by decide +kernel
theorem dX7_positionOf_14 : decode cX7_positionOf 14 = .ok (.iload_n 2, 1) := by decide +kernel
theorem dX7_positionOf_15 : decode cX7_positionOf 15 = .ok (.iload_n 3, 1) := by decide +kernel
theorem dX7_positionOf_16 : decode cX7_positionOf 16 = .ok (.iload_n 1, 1) := by decide +kernel
theorem dX7_positionOf_17 : decode cX7_positionOf 17 = .ok (.if_icmp .eq 16, 3) := by decide +kernel
theorem dX7_positionOf_20 : decode cX7_positionOf 20 = .ok (.aload_n 0, 1) := by decide +kernel
theorem dX7_positionOf_21 : decode cX7_positionOf 21 = .ok (.iload_n 3, 1) := by decide +kernel
theorem dX7_positionOf_22 : decode cX7_positionOf 22 = .ok (.iload_n 1, 1) := by decide +kernel
theorem dX7_positionOf_23 : decode cX7_positionOf 23 = .ok (.invokevirtual 129, 3) := by decide +kernel
theorem dX7_positionOf_26 : decode cX7_positionOf 26 = .ok (.ifCond .eq 7, 3) := by decide +kernel
theorem dX7_positionOf_29 : decode cX7_positionOf 29 = .ok (.iconst 1, 1) := by decide +kernel
theorem dX7_positionOf_30 : decode cX7_positionOf 30 = .ok (.goto 4, 3) := by decide +kernel
theorem dX7_positionOf_33 : decode cX7_positionOf 33 = .ok (.iconst 0, 1) := by decide +kernel
theorem dX7_positionOf_34 : decode cX7_positionOf 34 = .ok (.iadd, 1) := by decide +kernel
theorem dX7_positionOf_35 : decode cX7_positionOf 35 = .ok (.istore_n 2, 1) := by decide +kernel
theorem dX7_positionOf_36 : decode cX7_positionOf 36 = .ok (.iinc 3 1, 3) := by decide +kernel
theorem dX7_positionOf_39 : decode cX7_positionOf 39 = .ok (.goto (-35), 3) := by decide +kernel
theorem dX7_positionOf_42 : decode cX7_positionOf 42 = .ok (.iload_n 2, 1) := by decide +kernel
theorem dX7_positionOf_43 : decode cX7_positionOf 43 = .ok (.ireturn, 1) := by decide +kernel
theorem dX7_eventOn_0 : decode cX7_eventOn 0 = .ok (.iconst 0, 1) := by decide +kernel
theorem dX7_eventOn_1 : decode cX7_eventOn 1 = .ok (.istore_n 2, 1) := by decide +kernel
theorem dX7_eventOn_2 : decode cX7_eventOn 2 = .ok (.iload_n 2, 1) := by decide +kernel
theorem dX7_eventOn_3 : decode cX7_eventOn 3 = .ok (.aload_n 0, 1) := by decide +kernel
theorem dX7_eventOn_4 : decode cX7_eventOn 4 = .ok (.getfield 9, 3) := by decide +kernel
theorem dX7_eventOn_7 : decode cX7_eventOn 7 = .ok (.iconst 2, 1) := by decide +kernel
theorem dX7_eventOn_8 : decode cX7_eventOn 8 = .ok (.iaload, 1) := by decide +kernel
theorem dX7_eventOn_9 : decode cX7_eventOn 9 = .ok (.if_icmp .ge 20, 3) := by decide +kernel
theorem dX7_eventOn_12 : decode cX7_eventOn 12 = .ok (.aload_n 0, 1) := by decide +kernel
theorem dX7_eventOn_13 : decode cX7_eventOn 13 = .ok (.iload_n 2, 1) := by decide +kernel
theorem dX7_eventOn_14 : decode cX7_eventOn 14 = .ok (.invokevirtual 133, 3) := by decide +kernel
theorem dX7_eventOn_17 : decode cX7_eventOn 17 = .ok (.iload_n 1, 1) := by decide +kernel
theorem dX7_eventOn_18 : decode cX7_eventOn 18 = .ok (.if_icmp .ne 5, 3) := by decide +kernel
theorem dX7_eventOn_21 : decode cX7_eventOn 21 = .ok (.iload_n 2, 1) := by decide +kernel
theorem dX7_eventOn_22 : decode cX7_eventOn 22 = .ok (.ireturn, 1) := by decide +kernel
theorem dX7_eventOn_23 : decode cX7_eventOn 23 = .ok (.iinc 2 1, 3) := by decide +kernel
theorem dX7_eventOn_26 : decode cX7_eventOn 26 = .ok (.goto (-24), 3) := by decide +kernel
theorem dX7_eventOn_29 : decode cX7_eventOn 29 = .ok (.iconst (-1), 1) := by decide +kernel
theorem dX7_eventOn_30 : decode cX7_eventOn 30 = .ok (.ireturn, 1) := by decide +kernel
theorem dX7_lossOf_0 : decode cX7_lossOf 0 = .ok (.aload_n 0, 1) := by decide +kernel
theorem dX7_lossOf_1 : decode cX7_lossOf 1 = .ok (.getfield 9, 3) := by decide +kernel
theorem dX7_lossOf_4 : decode cX7_lossOf 4 = .ok (.bipush 64, 2) := by decide +kernel
theorem dX7_lossOf_6 : decode cX7_lossOf 6 = .ok (.iconst 3, 1) := by decide +kernel
theorem dX7_lossOf_7 : decode cX7_lossOf 7 = .ok (.iload_n 1, 1) := by decide +kernel
theorem dX7_lossOf_8 : decode cX7_lossOf 8 = .ok (.imul, 1) := by decide +kernel
theorem dX7_lossOf_9 : decode cX7_lossOf 9 = .ok (.iadd, 1) := by decide +kernel
theorem dX7_lossOf_10 : decode cX7_lossOf 10 = .ok (.iaload, 1) := by decide +kernel
theorem dX7_lossOf_11 : decode cX7_lossOf 11 = .ok (.istore_n 2, 1) := by decide +kernel
theorem dX7_lossOf_12 : decode cX7_lossOf 12 = .ok (.fconst 1, 1) := by decide +kernel
theorem dX7_lossOf_13 : decode cX7_lossOf 13 = .ok (.aload_n 0, 1) := by decide +kernel
theorem dX7_lossOf_14 : decode cX7_lossOf 14 = .ok (.getfield 9, 3) := by decide +kernel
theorem dX7_lossOf_17 : decode cX7_lossOf 17 = .ok (.iconst 4, 1) := by decide +kernel
theorem dX7_lossOf_18 : decode cX7_lossOf 18 = .ok (.iaload, 1) := by decide +kernel
theorem dX7_lossOf_19 : decode cX7_lossOf 19 = .ok (.aload_n 0, 1) := by decide +kernel
theorem dX7_lossOf_20 : decode cX7_lossOf 20 = .ok (.getfield 9, 3) := by decide +kernel
theorem dX7_lossOf_23 : decode cX7_lossOf 23 = .ok (.bipush 48, 2) := by decide +kernel
theorem dX7_lossOf_25 : decode cX7_lossOf 25 = .ok (.iload_n 2, 1) := by decide +kernel
theorem dX7_lossOf_26 : decode cX7_lossOf 26 = .ok (.iadd, 1) := by decide +kernel
theorem dX7_lossOf_27 : decode cX7_lossOf 27 = .ok (.iaload, 1) := by decide +kernel
theorem dX7_lossOf_28 : decode cX7_lossOf 28 = .ok (.imul, 1) := by decide +kernel
theorem dX7_lossOf_29 : decode cX7_lossOf 29 = .ok (.bipush 30, 2) := by decide +kernel
theorem dX7_lossOf_31 : decode cX7_lossOf 31 = .ok (.idiv, 1) := by decide +kernel
theorem dX7_lossOf_32 : decode cX7_lossOf 32 = .ok (.i2f, 1) := by decide +kernel
theorem dX7_lossOf_33 : decode cX7_lossOf 33 = .ok (.ldc 136, 2) := by decide +kernel
theorem dX7_lossOf_35 : decode cX7_lossOf 35 = .ok (.fdiv, 1) := by decide +kernel
theorem dX7_lossOf_36 : decode cX7_lossOf 36 = .ok (.fadd, 1) := by decide +kernel
theorem dX7_lossOf_37 : decode cX7_lossOf 37 = .ok (.fstore_n 3, 1) := by decide +kernel
theorem dX7_lossOf_38 : decode cX7_lossOf 38 = .ok (.aload_n 0, 1) := by decide +kernel
theorem dX7_lossOf_39 : decode cX7_lossOf 39 = .ok (.getfield 9, 3) := by decide +kernel
theorem dX7_lossOf_42 : decode cX7_lossOf 42 = .ok (.bipush 64, 2) := by decide +kernel
theorem dX7_lossOf_44 : decode cX7_lossOf 44 = .ok (.iconst 3, 1) := by decide +kernel
theorem dX7_lossOf_45 : decode cX7_lossOf 45 = .ok (.iload_n 1, 1) := by decide +kernel
theorem dX7_lossOf_46 : decode cX7_lossOf 46 = .ok (.imul, 1) := by decide +kernel
theorem dX7_lossOf_47 : decode cX7_lossOf 47 = .ok (.iadd, 1) := by decide +kernel
theorem dX7_lossOf_48 : decode cX7_lossOf 48 = .ok (.iconst 2, 1) := by decide +kernel
theorem dX7_lossOf_49 : decode cX7_lossOf 49 = .ok (.iadd, 1) := by decide +kernel
theorem dX7_lossOf_50 : decode cX7_lossOf 50 = .ok (.iaload, 1) := by decide +kernel
theorem dX7_lossOf_51 : decode cX7_lossOf 51 = .ok (.i2f, 1) := by decide +kernel
theorem dX7_lossOf_52 : decode cX7_lossOf 52 = .ok (.fload_n 3, 1) := by decide +kernel
theorem dX7_lossOf_53 : decode cX7_lossOf 53 = .ok (.fmul, 1) := by decide +kernel
theorem dX7_lossOf_54 : decode cX7_lossOf 54 = .ok (.f2i, 1) := by decide +kernel
theorem dX7_lossOf_55 : decode cX7_lossOf 55 = .ok (.ireturn, 1) := by decide +kernel
theorem dX7_isOf_0 : decode cX7_isOf 0 = .ok (.aload_n 0, 1) := by decide +kernel
theorem dX7_isOf_1 : decode cX7_isOf 1 = .ok (.getfield 9, 3) := by decide +kernel
theorem dX7_isOf_4 : decode cX7_isOf 4 = .ok (.bipush 64, 2) := by decide +kernel
theorem dX7_isOf_6 : decode cX7_isOf 6 = .ok (.iconst 3, 1) := by decide +kernel
theorem dX7_isOf_7 : decode cX7_isOf 7 = .ok (.iload_n 1, 1) := by decide +kernel
theorem dX7_isOf_8 : decode cX7_isOf 8 = .ok (.imul, 1) := by decide +kernel
theorem dX7_isOf_9 : decode cX7_isOf 9 = .ok (.iadd, 1) := by decide +kernel
theorem dX7_isOf_10 : decode cX7_isOf 10 = .ok (.iaload, 1) := by decide +kernel
theorem dX7_isOf_11 : decode cX7_isOf 11 = .ok (.iload_n 2, 1) := by decide +kernel
theorem dX7_isOf_12 : decode cX7_isOf 12 = .ok (.if_icmp .ne 24, 3) := by decide +kernel
theorem dX7_isOf_15 : decode cX7_isOf 15 = .ok (.aload_n 0, 1) := by decide +kernel
theorem dX7_isOf_16 : decode cX7_isOf 16 = .ok (.getfield 9, 3) := by decide +kernel
theorem dX7_isOf_19 : decode cX7_isOf 19 = .ok (.bipush 64, 2) := by decide +kernel
theorem dX7_isOf_21 : decode cX7_isOf 21 = .ok (.iconst 3, 1) := by decide +kernel
theorem dX7_isOf_22 : decode cX7_isOf 22 = .ok (.iload_n 1, 1) := by decide +kernel
theorem dX7_isOf_23 : decode cX7_isOf 23 = .ok (.imul, 1) := by decide +kernel
theorem dX7_isOf_24 : decode cX7_isOf 24 = .ok (.iadd, 1) := by decide +kernel
theorem dX7_isOf_25 : decode cX7_isOf 25 = .ok (.iconst 1, 1) := by decide +kernel
theorem dX7_isOf_26 : decode cX7_isOf 26 = .ok (.iadd, 1) := by decide +kernel
theorem dX7_isOf_27 : decode cX7_isOf 27 = .ok (.iaload, 1) := by decide +kernel
theorem dX7_isOf_28 : decode cX7_isOf 28 = .ok (.iload_n 3, 1) := by decide +kernel
theorem dX7_isOf_29 : decode cX7_isOf 29 = .ok (.if_icmp .ne 7, 3) := by decide +kernel
theorem dX7_isOf_32 : decode cX7_isOf 32 = .ok (.iconst 1, 1) := by decide +kernel
theorem dX7_isOf_33 : decode cX7_isOf 33 = .ok (.goto 4, 3) := by decide +kernel
theorem dX7_isOf_36 : decode cX7_isOf 36 = .ok (.iconst 0, 1) := by decide +kernel
theorem dX7_isOf_37 : decode cX7_isOf 37 = .ok (.ireturn, 1) := by decide +kernel
theorem dX7_lossesOf_0 : decode cX7_lossesOf 0 = .ok (.iconst 0, 1) := by decide +kernel
theorem dX7_lossesOf_1 : decode cX7_lossesOf 1 = .ok (.istore_n 3, 1) := by decide +kernel
theorem dX7_lossesOf_2 : decode cX7_lossesOf 2 = .ok (.iconst 0, 1) := by decide +kernel
theorem dX7_lossesOf_3 : decode cX7_lossesOf 3 = .ok (.istore 4, 2) := by decide +kernel
theorem dX7_lossesOf_5 : decode cX7_lossesOf 5 = .ok (.iload 4, 2) := by decide +kernel
theorem dX7_lossesOf_7 : decode cX7_lossesOf 7 = .ok (.aload_n 0, 1) := by decide +kernel
theorem dX7_lossesOf_8 : decode cX7_lossesOf 8 = .ok (.getfield 9, 3) := by decide +kernel
theorem dX7_lossesOf_11 : decode cX7_lossesOf 11 = .ok (.iconst 3, 1) := by decide +kernel
theorem dX7_lossesOf_12 : decode cX7_lossesOf 12 = .ok (.iaload, 1) := by decide +kernel
theorem dX7_lossesOf_13 : decode cX7_lossesOf 13 = .ok (.if_icmp .ge 33, 3) := by decide +kernel
theorem dX7_lossesOf_16 : decode cX7_lossesOf 16 = .ok (.iload_n 3, 1) := by decide +kernel
theorem dX7_lossesOf_17 : decode cX7_lossesOf 17 = .ok (.aload_n 0, 1) := by decide +kernel
theorem dX7_lossesOf_18 : decode cX7_lossesOf 18 = .ok (.iload 4, 2) := by decide +kernel
theorem dX7_lossesOf_20 : decode cX7_lossesOf 20 = .ok (.iload_n 1, 1) := by decide +kernel
theorem dX7_lossesOf_21 : decode cX7_lossesOf 21 = .ok (.iload_n 2, 1) := by decide +kernel
theorem dX7_lossesOf_22 : decode cX7_lossesOf 22 = .ok (.invokevirtual 137, 3) := by decide +kernel
theorem dX7_lossesOf_25 : decode cX7_lossesOf 25 = .ok (.ifCond .eq 12, 3) := by decide +kernel
theorem dX7_lossesOf_28 : decode cX7_lossesOf 28 = .ok (.aload_n 0, 1) := by decide +kernel
theorem dX7_lossesOf_29 : decode cX7_lossesOf 29 = .ok (.iload 4, 2) := by decide +kernel
theorem dX7_lossesOf_31 : decode cX7_lossesOf 31 = .ok (.invokevirtual 140, 3) := by decide +kernel
theorem dX7_lossesOf_34 : decode cX7_lossesOf 34 = .ok (.goto 4, 3) := by decide +kernel
theorem dX7_lossesOf_37 : decode cX7_lossesOf 37 = .ok (.iconst 0, 1) := by decide +kernel
theorem dX7_lossesOf_38 : decode cX7_lossesOf 38 = .ok (.iadd, 1) := by decide +kernel
theorem dX7_lossesOf_39 : decode cX7_lossesOf 39 = .ok (.istore_n 3, 1) := by decide +kernel
theorem dX7_lossesOf_40 : decode cX7_lossesOf 40 = .ok (.iinc 4 1, 3) := by decide +kernel
theorem dX7_lossesOf_43 : decode cX7_lossesOf 43 = .ok (.goto (-38), 3) := by decide +kernel
theorem dX7_lossesOf_46 : decode cX7_lossesOf 46 = .ok (.iload_n 3, 1) := by decide +kernel
theorem dX7_lossesOf_47 : decode cX7_lossesOf 47 = .ok (.ireturn, 1) := by decide +kernel
theorem dX7_grossOf_0 : decode cX7_grossOf 0 = .ok (.aload_n 0, 1) := by decide +kernel
theorem dX7_grossOf_1 : decode cX7_grossOf 1 = .ok (.getfield 9, 3) := by decide +kernel
theorem dX7_grossOf_4 : decode cX7_grossOf 4 = .ok (.bipush 8, 2) := by decide +kernel
theorem dX7_grossOf_6 : decode cX7_grossOf 6 = .ok (.iconst 4, 1) := by decide +kernel
theorem dX7_grossOf_7 : decode cX7_grossOf 7 = .ok (.iload_n 2, 1) := by decide +kernel
theorem dX7_grossOf_8 : decode cX7_grossOf 8 = .ok (.imul, 1) := by decide +kernel
theorem dX7_grossOf_9 : decode cX7_grossOf 9 = .ok (.iadd, 1) := by decide +kernel
theorem dX7_grossOf_10 : decode cX7_grossOf 10 = .ok (.iaload, 1) := by decide +kernel
theorem dX7_grossOf_11 : decode cX7_grossOf 11 = .ok (.aload_n 0, 1) := by decide +kernel
theorem dX7_grossOf_12 : decode cX7_grossOf 12 = .ok (.iload_n 1, 1) := by decide +kernel
theorem dX7_grossOf_13 : decode cX7_grossOf 13 = .ok (.iload_n 2, 1) := by decide +kernel
theorem dX7_grossOf_14 : decode cX7_grossOf 14 = .ok (.invokevirtual 143, 3) := by decide +kernel
theorem dX7_grossOf_17 : decode cX7_grossOf 17 = .ok (.invokestatic 146, 3) := by decide +kernel
theorem dX7_grossOf_20 : decode cX7_grossOf 20 = .ok (.ireturn, 1) := by decide +kernel
theorem dX7_shareOf_0 : decode cX7_shareOf 0 = .ok (.lconst 0, 1) := by decide +kernel
theorem dX7_shareOf_1 : decode cX7_shareOf 1 = .ok (.lstore 4, 2) := by decide +kernel
theorem dX7_shareOf_3 : decode cX7_shareOf 3 = .ok (.iconst 0, 1) := by decide +kernel
theorem dX7_shareOf_4 : decode cX7_shareOf 4 = .ok (.istore 6, 2) := by decide +kernel
theorem dX7_shareOf_6 : decode cX7_shareOf 6 = .ok (.iload 6, 2) := by decide +kernel
theorem dX7_shareOf_8 : decode cX7_shareOf 8 = .ok (.iload_n 2, 1) := by decide +kernel
theorem dX7_shareOf_9 : decode cX7_shareOf 9 = .ok (.if_icmp .ge 22, 3) := by decide +kernel
theorem dX7_shareOf_12 : decode cX7_shareOf 12 = .ok (.lload 4, 2) := by decide +kernel
theorem dX7_shareOf_14 : decode cX7_shareOf 14 = .ok (.aload_n 0, 1) := by decide +kernel
theorem dX7_shareOf_15 : decode cX7_shareOf 15 = .ok (.getfield 48, 3) := by decide +kernel
theorem dX7_shareOf_18 : decode cX7_shareOf 18 = .ok (.iload 6, 2) := by decide +kernel
theorem dX7_shareOf_20 : decode cX7_shareOf 20 = .ok (.iaload, 1) := by decide +kernel
theorem dX7_shareOf_21 : decode cX7_shareOf 21 = .ok (.i2l, 1) := by decide +kernel
theorem dX7_shareOf_22 : decode cX7_shareOf 22 = .ok (.ladd, 1) := by decide +kernel
theorem dX7_shareOf_23 : decode cX7_shareOf 23 = .ok (.lstore 4, 2) := by decide +kernel
theorem dX7_shareOf_25 : decode cX7_shareOf 25 = .ok (.iinc 6 1, 3) := by decide +kernel
theorem dX7_shareOf_28 : decode cX7_shareOf 28 = .ok (.goto (-22), 3) := by decide +kernel
theorem dX7_shareOf_31 : decode cX7_shareOf 31 = .ok (.lload 4, 2) := by decide +kernel
theorem dX7_shareOf_33 : decode cX7_shareOf 33 = .ok (.lconst 0, 1) := by decide +kernel
theorem dX7_shareOf_34 : decode cX7_shareOf 34 = .ok (.lcmp, 1) := by decide +kernel
theorem dX7_shareOf_35 : decode cX7_shareOf 35 = .ok (.ifCond .ne 5, 3) := by decide +kernel
theorem dX7_shareOf_38 : decode cX7_shareOf 38 = .ok (.iconst 0, 1) := by decide +kernel
theorem dX7_shareOf_39 : decode cX7_shareOf 39 = .ok (.ireturn, 1) := by decide +kernel
theorem dX7_shareOf_40 : decode cX7_shareOf 40 = .ok (.lconst 0, 1) := by decide +kernel
theorem dX7_shareOf_41 : decode cX7_shareOf 41 = .ok (.lstore 6, 2) := by decide +kernel
theorem dX7_shareOf_43 : decode cX7_shareOf 43 = .ok (.iconst 0, 1) := by decide +kernel
theorem dX7_shareOf_44 : decode cX7_shareOf 44 = .ok (.istore 8, 2) := by decide +kernel
theorem dX7_shareOf_46 : decode cX7_shareOf 46 = .ok (.iload 8, 2) := by decide +kernel
theorem dX7_shareOf_48 : decode cX7_shareOf 48 = .ok (.iload_n 2, 1) := by decide +kernel
theorem dX7_shareOf_49 : decode cX7_shareOf 49 = .ok (.if_icmp .ge 28, 3) := by decide +kernel
theorem dX7_shareOf_52 : decode cX7_shareOf 52 = .ok (.lload 6, 2) := by decide +kernel
theorem dX7_shareOf_54 : decode cX7_shareOf 54 = .ok (.iload_n 1, 1) := by decide +kernel
theorem dX7_shareOf_55 : decode cX7_shareOf 55 = .ok (.i2l, 1) := by decide +kernel
theorem dX7_shareOf_56 : decode cX7_shareOf 56 = .ok (.aload_n 0, 1) := by decide +kernel
theorem dX7_shareOf_57 : decode cX7_shareOf 57 = .ok (.getfield 48, 3) := by decide +kernel
theorem dX7_shareOf_60 : decode cX7_shareOf 60 = .ok (.iload 8, 2) := by decide +kernel
theorem dX7_shareOf_62 : decode cX7_shareOf 62 = .ok (.iaload, 1) := by decide +kernel
theorem dX7_shareOf_63 : decode cX7_shareOf 63 = .ok (.i2l, 1) := by decide +kernel
theorem dX7_shareOf_64 : decode cX7_shareOf 64 = .ok (.lmul, 1) := by decide +kernel
theorem dX7_shareOf_65 : decode cX7_shareOf 65 = .ok (.lload 4, 2) := by decide +kernel
theorem dX7_shareOf_67 : decode cX7_shareOf 67 = .ok (.ldiv, 1) := by decide +kernel
theorem dX7_shareOf_68 : decode cX7_shareOf 68 = .ok (.ladd, 1) := by decide +kernel
theorem dX7_shareOf_69 : decode cX7_shareOf 69 = .ok (.lstore 6, 2) := by decide +kernel
theorem dX7_shareOf_71 : decode cX7_shareOf 71 = .ok (.iinc 8 1, 3) := by decide +kernel
theorem dX7_shareOf_74 : decode cX7_shareOf 74 = .ok (.goto (-28), 3) := by decide +kernel
theorem dX7_shareOf_77 : decode cX7_shareOf 77 = .ok (.iload_n 1, 1) := by decide +kernel
theorem dX7_shareOf_78 : decode cX7_shareOf 78 = .ok (.i2l, 1) := by decide +kernel
theorem dX7_shareOf_79 : decode cX7_shareOf 79 = .ok (.aload_n 0, 1) := by decide +kernel
theorem dX7_shareOf_80 : decode cX7_shareOf 80 = .ok (.getfield 48, 3) := by decide +kernel
theorem dX7_shareOf_83 : decode cX7_shareOf 83 = .ok (.iload_n 3, 1) := by decide +kernel
theorem dX7_shareOf_84 : decode cX7_shareOf 84 = .ok (.iaload, 1) := by decide +kernel
theorem dX7_shareOf_85 : decode cX7_shareOf 85 = .ok (.i2l, 1) := by decide +kernel
theorem dX7_shareOf_86 : decode cX7_shareOf 86 = .ok (.lmul, 1) := by decide +kernel
theorem dX7_shareOf_87 : decode cX7_shareOf 87 = .ok (.lload 4, 2) := by decide +kernel
theorem dX7_shareOf_89 : decode cX7_shareOf 89 = .ok (.lrem, 1) := by decide +kernel
theorem dX7_shareOf_90 : decode cX7_shareOf 90 = .ok (.lstore 8, 2) := by decide +kernel
theorem dX7_shareOf_92 : decode cX7_shareOf 92 = .ok (.iconst 0, 1) := by decide +kernel
theorem dX7_shareOf_93 : decode cX7_shareOf 93 = .ok (.istore 10, 2) := by decide +kernel
theorem dX7_shareOf_95 : decode cX7_shareOf 95 = .ok (.iconst 0, 1) := by decide +kernel
theorem dX7_shareOf_96 : decode cX7_shareOf 96 = .ok (.istore 11, 2) := by decide +kernel
theorem dX7_shareOf_98 : decode cX7_shareOf 98 = .ok (.iload 11, 2) := by decide +kernel
theorem dX7_shareOf_100 : decode cX7_shareOf 100 = .ok (.iload_n 2, 1) := by decide +kernel
theorem dX7_shareOf_101 : decode cX7_shareOf 101 = .ok (.if_icmp .ge 57, 3) := by decide +kernel
theorem dX7_shareOf_104 : decode cX7_shareOf 104 = .ok (.iload_n 1, 1) := by decide +kernel
theorem dX7_shareOf_105 : decode cX7_shareOf 105 = .ok (.i2l, 1) := by decide +kernel
theorem dX7_shareOf_106 : decode cX7_shareOf 106 = .ok (.aload_n 0, 1) := by decide +kernel
theorem dX7_shareOf_107 : decode cX7_shareOf 107 = .ok (.getfield 48, 3) := by decide +kernel
theorem dX7_shareOf_110 : decode cX7_shareOf 110 = .ok (.iload 11, 2) := by decide +kernel
theorem dX7_shareOf_112 : decode cX7_shareOf 112 = .ok (.iaload, 1) := by decide +kernel
theorem dX7_shareOf_113 : decode cX7_shareOf 113 = .ok (.i2l, 1) := by decide +kernel
theorem dX7_shareOf_114 : decode cX7_shareOf 114 = .ok (.lmul, 1) := by decide +kernel
theorem dX7_shareOf_115 : decode cX7_shareOf 115 = .ok (.lload 4, 2) := by decide +kernel
theorem dX7_shareOf_117 : decode cX7_shareOf 117 = .ok (.lrem, 1) := by decide +kernel
theorem dX7_shareOf_118 : decode cX7_shareOf 118 = .ok (.lstore 12, 2) := by decide +kernel
theorem dX7_shareOf_120 : decode cX7_shareOf 120 = .ok (.iload 10, 2) := by decide +kernel
theorem dX7_shareOf_122 : decode cX7_shareOf 122 = .ok (.lload 12, 2) := by decide +kernel
theorem dX7_shareOf_124 : decode cX7_shareOf 124 = .ok (.lload 8, 2) := by decide +kernel
theorem dX7_shareOf_126 : decode cX7_shareOf 126 = .ok (.lcmp, 1) := by decide +kernel
theorem dX7_shareOf_127 : decode cX7_shareOf 127 = .ok (.ifCond .gt 17, 3) := by decide +kernel
theorem dX7_shareOf_130 : decode cX7_shareOf 130 = .ok (.lload 12, 2) := by decide +kernel
theorem dX7_shareOf_132 : decode cX7_shareOf 132 = .ok (.lload 8, 2) := by decide +kernel
theorem dX7_shareOf_134 : decode cX7_shareOf 134 = .ok (.lcmp, 1) := by decide +kernel
theorem dX7_shareOf_135 : decode cX7_shareOf 135 = .ok (.ifCond .ne 13, 3) := by decide +kernel
theorem dX7_shareOf_138 : decode cX7_shareOf 138 = .ok (.iload 11, 2) := by decide +kernel
theorem dX7_shareOf_140 : decode cX7_shareOf 140 = .ok (.iload_n 3, 1) := by decide +kernel
theorem dX7_shareOf_141 : decode cX7_shareOf 141 = .ok (.if_icmp .ge 7, 3) := by decide +kernel
theorem dX7_shareOf_144 : decode cX7_shareOf 144 = .ok (.iconst 1, 1) := by decide +kernel
theorem dX7_shareOf_145 : decode cX7_shareOf 145 = .ok (.goto 4, 3) := by decide +kernel
theorem dX7_shareOf_148 : decode cX7_shareOf 148 = .ok (.iconst 0, 1) := by decide +kernel
theorem dX7_shareOf_149 : decode cX7_shareOf 149 = .ok (.iadd, 1) := by decide +kernel
theorem dX7_shareOf_150 : decode cX7_shareOf 150 = .ok (.istore 10, 2) := by decide +kernel
theorem dX7_shareOf_152 : decode cX7_shareOf 152 = .ok (.iinc 11 1, 3) := by decide +kernel
theorem dX7_shareOf_155 : decode cX7_shareOf 155 = .ok (.goto (-57), 3) := by decide +kernel
theorem dX7_shareOf_158 : decode cX7_shareOf 158 = .ok (.iload_n 1, 1) := by decide +kernel
theorem dX7_shareOf_159 : decode cX7_shareOf 159 = .ok (.i2l, 1) := by decide +kernel
theorem dX7_shareOf_160 : decode cX7_shareOf 160 = .ok (.aload_n 0, 1) := by decide +kernel
theorem dX7_shareOf_161 : decode cX7_shareOf 161 = .ok (.getfield 48, 3) := by decide +kernel
theorem dX7_shareOf_164 : decode cX7_shareOf 164 = .ok (.iload_n 3, 1) := by decide +kernel
theorem dX7_shareOf_165 : decode cX7_shareOf 165 = .ok (.iaload, 1) := by decide +kernel
theorem dX7_shareOf_166 : decode cX7_shareOf 166 = .ok (.i2l, 1) := by decide +kernel
theorem dX7_shareOf_167 : decode cX7_shareOf 167 = .ok (.lmul, 1) := by decide +kernel
theorem dX7_shareOf_168 : decode cX7_shareOf 168 = .ok (.lload 4, 2) := by decide +kernel
theorem dX7_shareOf_170 : decode cX7_shareOf 170 = .ok (.ldiv, 1) := by decide +kernel
theorem dX7_shareOf_171 : decode cX7_shareOf 171 = .ok (.l2i, 1) := by decide +kernel
theorem dX7_shareOf_172 : decode cX7_shareOf 172 = .ok (.iload 10, 2) := by decide +kernel
theorem dX7_shareOf_174 : decode cX7_shareOf 174 = .ok (.i2l, 1) := by decide +kernel
theorem dX7_shareOf_175 : decode cX7_shareOf 175 = .ok (.iload_n 1, 1) := by decide +kernel
theorem dX7_shareOf_176 : decode cX7_shareOf 176 = .ok (.i2l, 1) := by decide +kernel
theorem dX7_shareOf_177 : decode cX7_shareOf 177 = .ok (.lload 6, 2) := by decide +kernel
theorem dX7_shareOf_179 : decode cX7_shareOf 179 = .ok (.lsub, 1) := by decide +kernel
theorem dX7_shareOf_180 : decode cX7_shareOf 180 = .ok (.lcmp, 1) := by decide +kernel
theorem dX7_shareOf_181 : decode cX7_shareOf 181 = .ok (.ifCond .ge 7, 3) := by decide +kernel
theorem dX7_shareOf_184 : decode cX7_shareOf 184 = .ok (.iconst 1, 1) := by decide +kernel
theorem dX7_shareOf_185 : decode cX7_shareOf 185 = .ok (.goto 4, 3) := by decide +kernel
theorem dX7_shareOf_188 : decode cX7_shareOf 188 = .ok (.iconst 0, 1) := by decide +kernel
theorem dX7_shareOf_189 : decode cX7_shareOf 189 = .ok (.iadd, 1) := by decide +kernel
theorem dX7_shareOf_190 : decode cX7_shareOf 190 = .ok (.ireturn, 1) := by decide +kernel
theorem dX7_deductedOf_0 : decode cX7_deductedOf 0 = .ok (.aload_n 0, 1) := by decide +kernel
theorem dX7_deductedOf_1 : decode cX7_deductedOf 1 = .ok (.getfield 9, 3) := by decide +kernel
theorem dX7_deductedOf_4 : decode cX7_deductedOf 4 = .ok (.bipush 8, 2) := by decide +kernel
theorem dX7_deductedOf_6 : decode cX7_deductedOf 6 = .ok (.iconst 4, 1) := by decide +kernel
theorem dX7_deductedOf_7 : decode cX7_deductedOf 7 = .ok (.iload_n 2, 1) := by decide +kernel
theorem dX7_deductedOf_8 : decode cX7_deductedOf 8 = .ok (.imul, 1) := by decide +kernel
theorem dX7_deductedOf_9 : decode cX7_deductedOf 9 = .ok (.iadd, 1) := by decide +kernel
theorem dX7_deductedOf_10 : decode cX7_deductedOf 10 = .ok (.iconst 3, 1) := by decide +kernel
theorem dX7_deductedOf_11 : decode cX7_deductedOf 11 = .ok (.iadd, 1) := by decide +kernel
theorem dX7_deductedOf_12 : decode cX7_deductedOf 12 = .ok (.iaload, 1) := by decide +kernel
theorem dX7_deductedOf_13 : decode cX7_deductedOf 13 = .ok (.istore_n 3, 1) := by decide +kernel
theorem dX7_deductedOf_14 : decode cX7_deductedOf 14 = .ok (.iconst 0, 1) := by decide +kernel
theorem dX7_deductedOf_15 : decode cX7_deductedOf 15 = .ok (.istore 4, 2) := by decide +kernel
theorem dX7_deductedOf_17 : decode cX7_deductedOf 17 = .ok (.iconst 0, 1) := by decide +kernel
theorem dX7_deductedOf_18 : decode cX7_deductedOf 18 = .ok (.istore 5, 2) := by decide +kernel
theorem dX7_deductedOf_20 : decode cX7_deductedOf 20 = .ok (.iload 5, 2) := by decide +kernel
theorem dX7_deductedOf_22 : decode cX7_deductedOf 22 = .ok (.aload_n 0, 1) := by decide +kernel
theorem dX7_deductedOf_23 : decode cX7_deductedOf 23 = .ok (.getfield 9, 3) := by decide +kernel
theorem dX7_deductedOf_26 : decode cX7_deductedOf 26 = .ok (.iconst 0, 1) := by decide +kernel
theorem dX7_deductedOf_27 : decode cX7_deductedOf 27 = .ok (.iaload, 1) := by decide +kernel
theorem dX7_deductedOf_28 : decode cX7_deductedOf 28 = .ok (.if_icmp .ge 57, 3) := by decide +kernel
theorem dX7_deductedOf_31 : decode cX7_deductedOf 31 = .ok (.aload_n 0, 1) := by decide +kernel
theorem dX7_deductedOf_32 : decode cX7_deductedOf 32 = .ok (.getfield 48, 3) := by decide +kernel
theorem dX7_deductedOf_35 : decode cX7_deductedOf 35 = .ok (.iload 5, 2) := by decide +kernel
theorem dX7_deductedOf_37 : decode cX7_deductedOf 37 = .ok (.aload_n 0, 1) := by decide +kernel
theorem dX7_deductedOf_38 : decode cX7_deductedOf 38 = .ok (.getfield 9, 3) := by decide +kernel
theorem dX7_deductedOf_41 : decode cX7_deductedOf 41 = .ok (.bipush 8, 2) := by decide +kernel
theorem dX7_deductedOf_43 : decode cX7_deductedOf 43 = .ok (.iconst 4, 1) := by decide +kernel
theorem dX7_deductedOf_44 : decode cX7_deductedOf 44 = .ok (.iload 5, 2) := by decide +kernel
theorem dX7_deductedOf_46 : decode cX7_deductedOf 46 = .ok (.imul, 1) := by decide +kernel
theorem dX7_deductedOf_47 : decode cX7_deductedOf 47 = .ok (.iadd, 1) := by decide +kernel
theorem dX7_deductedOf_48 : decode cX7_deductedOf 48 = .ok (.iconst 3, 1) := by decide +kernel
theorem dX7_deductedOf_49 : decode cX7_deductedOf 49 = .ok (.iadd, 1) := by decide +kernel
theorem dX7_deductedOf_50 : decode cX7_deductedOf 50 = .ok (.iaload, 1) := by decide +kernel
theorem dX7_deductedOf_51 : decode cX7_deductedOf 51 = .ok (.iload_n 3, 1) := by decide +kernel
theorem dX7_deductedOf_52 : decode cX7_deductedOf 52 = .ok (.if_icmp .ne 13, 3) := by decide +kernel
theorem dX7_deductedOf_55 : decode cX7_deductedOf 55 = .ok (.aload_n 0, 1) := by decide +kernel
theorem dX7_deductedOf_56 : decode cX7_deductedOf 56 = .ok (.iload_n 1, 1) := by decide +kernel
theorem dX7_deductedOf_57 : decode cX7_deductedOf 57 = .ok (.iload 5, 2) := by decide +kernel
theorem dX7_deductedOf_59 : decode cX7_deductedOf 59 = .ok (.invokevirtual 151, 3) := by decide +kernel
theorem dX7_deductedOf_62 : decode cX7_deductedOf 62 = .ok (.goto 4, 3) := by decide +kernel
theorem dX7_deductedOf_65 : decode cX7_deductedOf 65 = .ok (.iconst 0, 1) := by decide +kernel
theorem dX7_deductedOf_66 : decode cX7_deductedOf 66 = .ok (.iastore, 1) := by decide +kernel
theorem dX7_deductedOf_67 : decode cX7_deductedOf 67 = .ok (.iload 4, 2) := by decide +kernel
theorem dX7_deductedOf_69 : decode cX7_deductedOf 69 = .ok (.aload_n 0, 1) := by decide +kernel
theorem dX7_deductedOf_70 : decode cX7_deductedOf 70 = .ok (.getfield 48, 3) := by decide +kernel
theorem dX7_deductedOf_73 : decode cX7_deductedOf 73 = .ok (.iload 5, 2) := by decide +kernel
theorem dX7_deductedOf_75 : decode cX7_deductedOf 75 = .ok (.iaload, 1) := by decide +kernel
theorem dX7_deductedOf_76 : decode cX7_deductedOf 76 = .ok (.iadd, 1) := by decide +kernel
theorem dX7_deductedOf_77 : decode cX7_deductedOf 77 = .ok (.istore 4, 2) := by decide +kernel
theorem dX7_deductedOf_79 : decode cX7_deductedOf 79 = .ok (.iinc 5 1, 3) := by decide +kernel
theorem dX7_deductedOf_82 : decode cX7_deductedOf 82 = .ok (.goto (-62), 3) := by decide +kernel
theorem dX7_deductedOf_85 : decode cX7_deductedOf 85 = .ok (.aload_n 0, 1) := by decide +kernel
theorem dX7_deductedOf_86 : decode cX7_deductedOf 86 = .ok (.aload_n 0, 1) := by decide +kernel
theorem dX7_deductedOf_87 : decode cX7_deductedOf 87 = .ok (.getfield 9, 3) := by decide +kernel
theorem dX7_deductedOf_90 : decode cX7_deductedOf 90 = .ok (.iconst 5, 1) := by decide +kernel
theorem dX7_deductedOf_91 : decode cX7_deductedOf 91 = .ok (.iload_n 3, 1) := by decide +kernel
theorem dX7_deductedOf_92 : decode cX7_deductedOf 92 = .ok (.iadd, 1) := by decide +kernel
theorem dX7_deductedOf_93 : decode cX7_deductedOf 93 = .ok (.iaload, 1) := by decide +kernel
theorem dX7_deductedOf_94 : decode cX7_deductedOf 94 = .ok (.iload 4, 2) := by decide +kernel
theorem dX7_deductedOf_96 : decode cX7_deductedOf 96 = .ok (.invokestatic 146, 3) := by decide +kernel
theorem dX7_deductedOf_99 : decode cX7_deductedOf 99 = .ok (.aload_n 0, 1) := by decide +kernel
theorem dX7_deductedOf_100 : decode cX7_deductedOf 100 = .ok (.getfield 9, 3) := by decide +kernel
theorem dX7_deductedOf_103 : decode cX7_deductedOf 103 = .ok (.iconst 0, 1) := by decide +kernel
theorem dX7_deductedOf_104 : decode cX7_deductedOf 104 = .ok (.iaload, 1) := by decide +kernel
theorem dX7_deductedOf_105 : decode cX7_deductedOf 105 = .ok (.iload_n 2, 1) := by decide +kernel
theorem dX7_deductedOf_106 : decode cX7_deductedOf 106 = .ok (.invokevirtual 154, 3) := by decide +kernel
theorem dX7_deductedOf_109 : decode cX7_deductedOf 109 = .ok (.ireturn, 1) := by decide +kernel
theorem dX7_netOf_0 : decode cX7_netOf 0 = .ok (.aload_n 0, 1) := by decide +kernel
theorem dX7_netOf_1 : decode cX7_netOf 1 = .ok (.iload_n 1, 1) := by decide +kernel
theorem dX7_netOf_2 : decode cX7_netOf 2 = .ok (.iload_n 2, 1) := by decide +kernel
theorem dX7_netOf_3 : decode cX7_netOf 3 = .ok (.invokevirtual 151, 3) := by decide +kernel
theorem dX7_netOf_6 : decode cX7_netOf 6 = .ok (.aload_n 0, 1) := by decide +kernel
theorem dX7_netOf_7 : decode cX7_netOf 7 = .ok (.iload_n 1, 1) := by decide +kernel
theorem dX7_netOf_8 : decode cX7_netOf 8 = .ok (.iload_n 2, 1) := by decide +kernel
theorem dX7_netOf_9 : decode cX7_netOf 9 = .ok (.invokevirtual 157, 3) := by decide +kernel
theorem dX7_netOf_12 : decode cX7_netOf 12 = .ok (.isub, 1) := by decide +kernel
theorem dX7_netOf_13 : decode cX7_netOf 13 = .ok (.ireturn, 1) := by decide +kernel
theorem dX7_leftAt_0 : decode cX7_leftAt 0 = .ok (.aload_n 0, 1) := by decide +kernel
theorem dX7_leftAt_1 : decode cX7_leftAt 1 = .ok (.getfield 9, 3) := by decide +kernel
theorem dX7_leftAt_4 : decode cX7_leftAt 4 = .ok (.bipush 8, 2) := by decide +kernel
theorem dX7_leftAt_6 : decode cX7_leftAt 6 = .ok (.iconst 4, 1) := by decide +kernel
theorem dX7_leftAt_7 : decode cX7_leftAt 7 = .ok (.iload_n 2, 1) := by decide +kernel
theorem dX7_leftAt_8 : decode cX7_leftAt 8 = .ok (.imul, 1) := by decide +kernel
theorem dX7_leftAt_9 : decode cX7_leftAt 9 = .ok (.iadd, 1) := by decide +kernel
theorem dX7_leftAt_10 : decode cX7_leftAt 10 = .ok (.iconst 1, 1) := by decide +kernel
theorem dX7_leftAt_11 : decode cX7_leftAt 11 = .ok (.iadd, 1) := by decide +kernel
theorem dX7_leftAt_12 : decode cX7_leftAt 12 = .ok (.iaload, 1) := by decide +kernel
theorem dX7_leftAt_13 : decode cX7_leftAt 13 = .ok (.istore_n 3, 1) := by decide +kernel
theorem dX7_leftAt_14 : decode cX7_leftAt 14 = .ok (.iconst 0, 1) := by decide +kernel
theorem dX7_leftAt_15 : decode cX7_leftAt 15 = .ok (.istore 4, 2) := by decide +kernel
theorem dX7_leftAt_17 : decode cX7_leftAt 17 = .ok (.iload 4, 2) := by decide +kernel
theorem dX7_leftAt_19 : decode cX7_leftAt 19 = .ok (.iload_n 1, 1) := by decide +kernel
theorem dX7_leftAt_20 : decode cX7_leftAt 20 = .ok (.if_icmp .ge 27, 3) := by decide +kernel
theorem dX7_leftAt_23 : decode cX7_leftAt 23 = .ok (.iload_n 3, 1) := by decide +kernel
theorem dX7_leftAt_24 : decode cX7_leftAt 24 = .ok (.iload_n 3, 1) := by decide +kernel
theorem dX7_leftAt_25 : decode cX7_leftAt 25 = .ok (.aload_n 0, 1) := by decide +kernel
theorem dX7_leftAt_26 : decode cX7_leftAt 26 = .ok (.aload_n 0, 1) := by decide +kernel
theorem dX7_leftAt_27 : decode cX7_leftAt 27 = .ok (.iload 4, 2) := by decide +kernel
theorem dX7_leftAt_29 : decode cX7_leftAt 29 = .ok (.invokevirtual 160, 3) := by decide +kernel
theorem dX7_leftAt_32 : decode cX7_leftAt 32 = .ok (.iload_n 2, 1) := by decide +kernel
theorem dX7_leftAt_33 : decode cX7_leftAt 33 = .ok (.invokevirtual 163, 3) := by decide +kernel
theorem dX7_leftAt_36 : decode cX7_leftAt 36 = .ok (.invokestatic 146, 3) := by decide +kernel
theorem dX7_leftAt_39 : decode cX7_leftAt 39 = .ok (.isub, 1) := by decide +kernel
theorem dX7_leftAt_40 : decode cX7_leftAt 40 = .ok (.istore_n 3, 1) := by decide +kernel
theorem dX7_leftAt_41 : decode cX7_leftAt 41 = .ok (.iinc 4 1, 3) := by decide +kernel
theorem dX7_leftAt_44 : decode cX7_leftAt 44 = .ok (.goto (-27), 3) := by decide +kernel
theorem dX7_leftAt_47 : decode cX7_leftAt 47 = .ok (.iload_n 3, 1) := by decide +kernel
theorem dX7_leftAt_48 : decode cX7_leftAt 48 = .ok (.ireturn, 1) := by decide +kernel
theorem dX7_paidOf_0 : decode cX7_paidOf 0 = .ok (.aload_n 0, 1) := by decide +kernel
theorem dX7_paidOf_1 : decode cX7_paidOf 1 = .ok (.iload_n 1, 1) := by decide +kernel
theorem dX7_paidOf_2 : decode cX7_paidOf 2 = .ok (.iload_n 2, 1) := by decide +kernel
theorem dX7_paidOf_3 : decode cX7_paidOf 3 = .ok (.invokevirtual 163, 3) := by decide +kernel
theorem dX7_paidOf_6 : decode cX7_paidOf 6 = .ok (.aload_n 0, 1) := by decide +kernel
theorem dX7_paidOf_7 : decode cX7_paidOf 7 = .ok (.aload_n 0, 1) := by decide +kernel
theorem dX7_paidOf_8 : decode cX7_paidOf 8 = .ok (.iload_n 1, 1) := by decide +kernel
theorem dX7_paidOf_9 : decode cX7_paidOf 9 = .ok (.invokevirtual 133, 3) := by decide +kernel
theorem dX7_paidOf_12 : decode cX7_paidOf 12 = .ok (.iload_n 2, 1) := by decide +kernel
theorem dX7_paidOf_13 : decode cX7_paidOf 13 = .ok (.invokevirtual 166, 3) := by decide +kernel
theorem dX7_paidOf_16 : decode cX7_paidOf 16 = .ok (.invokestatic 146, 3) := by decide +kernel
theorem dX7_paidOf_19 : decode cX7_paidOf 19 = .ok (.ireturn, 1) := by decide +kernel
theorem dX7_paidFor_0 : decode cX7_paidFor 0 = .ok (.aload_n 0, 1) := by decide +kernel
theorem dX7_paidFor_1 : decode cX7_paidFor 1 = .ok (.getfield 9, 3) := by decide +kernel
theorem dX7_paidFor_4 : decode cX7_paidFor 4 = .ok (.bipush 64, 2) := by decide +kernel
theorem dX7_paidFor_6 : decode cX7_paidFor 6 = .ok (.iconst 3, 1) := by decide +kernel
theorem dX7_paidFor_7 : decode cX7_paidFor 7 = .ok (.iload_n 1, 1) := by decide +kernel
theorem dX7_paidFor_8 : decode cX7_paidFor 8 = .ok (.imul, 1) := by decide +kernel
theorem dX7_paidFor_9 : decode cX7_paidFor 9 = .ok (.iadd, 1) := by decide +kernel
theorem dX7_paidFor_10 : decode cX7_paidFor 10 = .ok (.iaload, 1) := by decide +kernel
theorem dX7_paidFor_11 : decode cX7_paidFor 11 = .ok (.istore_n 2, 1) := by decide +kernel
theorem dX7_paidFor_12 : decode cX7_paidFor 12 = .ok (.aload_n 0, 1) := by decide +kernel
theorem dX7_paidFor_13 : decode cX7_paidFor 13 = .ok (.getfield 9, 3) := by decide +kernel
theorem dX7_paidFor_16 : decode cX7_paidFor 16 = .ok (.bipush 64, 2) := by decide +kernel
theorem dX7_paidFor_18 : decode cX7_paidFor 18 = .ok (.iconst 3, 1) := by decide +kernel
theorem dX7_paidFor_19 : decode cX7_paidFor 19 = .ok (.iload_n 1, 1) := by decide +kernel
theorem dX7_paidFor_20 : decode cX7_paidFor 20 = .ok (.imul, 1) := by decide +kernel
theorem dX7_paidFor_21 : decode cX7_paidFor 21 = .ok (.iadd, 1) := by decide +kernel
theorem dX7_paidFor_22 : decode cX7_paidFor 22 = .ok (.iconst 1, 1) := by decide +kernel
theorem dX7_paidFor_23 : decode cX7_paidFor 23 = .ok (.iadd, 1) := by decide +kernel
theorem dX7_paidFor_24 : decode cX7_paidFor 24 = .ok (.iaload, 1) := by decide +kernel
theorem dX7_paidFor_25 : decode cX7_paidFor 25 = .ok (.istore_n 3, 1) := by decide +kernel
theorem dX7_paidFor_26 : decode cX7_paidFor 26 = .ok (.aload_n 0, 1) := by decide +kernel
theorem dX7_paidFor_27 : decode cX7_paidFor 27 = .ok (.iload_n 2, 1) := by decide +kernel
theorem dX7_paidFor_28 : decode cX7_paidFor 28 = .ok (.iload_n 3, 1) := by decide +kernel
theorem dX7_paidFor_29 : decode cX7_paidFor 29 = .ok (.invokevirtual 169, 3) := by decide +kernel
theorem dX7_paidFor_32 : decode cX7_paidFor 32 = .ok (.istore 4, 2) := by decide +kernel
theorem dX7_paidFor_34 : decode cX7_paidFor 34 = .ok (.iconst 0, 1) := by decide +kernel
theorem dX7_paidFor_35 : decode cX7_paidFor 35 = .ok (.istore 5, 2) := by decide +kernel
theorem dX7_paidFor_37 : decode cX7_paidFor 37 = .ok (.iload 5, 2) := by decide +kernel
theorem dX7_paidFor_39 : decode cX7_paidFor 39 = .ok (.aload_n 0, 1) := by decide +kernel
theorem dX7_paidFor_40 : decode cX7_paidFor 40 = .ok (.getfield 9, 3) := by decide +kernel
theorem dX7_paidFor_43 : decode cX7_paidFor 43 = .ok (.iconst 3, 1) := by decide +kernel
theorem dX7_paidFor_44 : decode cX7_paidFor 44 = .ok (.iaload, 1) := by decide +kernel
theorem dX7_paidFor_45 : decode cX7_paidFor 45 = .ok (.if_icmp .ge 37, 3) := by decide +kernel
theorem dX7_paidFor_48 : decode cX7_paidFor 48 = .ok (.aload_n 0, 1) := by decide +kernel
theorem dX7_paidFor_49 : decode cX7_paidFor 49 = .ok (.getfield 48, 3) := by decide +kernel
theorem dX7_paidFor_52 : decode cX7_paidFor 52 = .ok (.iload 5, 2) := by decide +kernel
theorem dX7_paidFor_54 : decode cX7_paidFor 54 = .ok (.aload_n 0, 1) := by decide +kernel
theorem dX7_paidFor_55 : decode cX7_paidFor 55 = .ok (.iload 5, 2) := by decide +kernel
theorem dX7_paidFor_57 : decode cX7_paidFor 57 = .ok (.iload_n 2, 1) := by decide +kernel
theorem dX7_paidFor_58 : decode cX7_paidFor 58 = .ok (.iload_n 3, 1) := by decide +kernel
theorem dX7_paidFor_59 : decode cX7_paidFor 59 = .ok (.invokevirtual 137, 3) := by decide +kernel
theorem dX7_paidFor_62 : decode cX7_paidFor 62 = .ok (.ifCond .eq 12, 3) := by decide +kernel
theorem dX7_paidFor_65 : decode cX7_paidFor 65 = .ok (.aload_n 0, 1) := by decide +kernel
theorem dX7_paidFor_66 : decode cX7_paidFor 66 = .ok (.iload 5, 2) := by decide +kernel
theorem dX7_paidFor_68 : decode cX7_paidFor 68 = .ok (.invokevirtual 140, 3) := by decide +kernel
theorem dX7_paidFor_71 : decode cX7_paidFor 71 = .ok (.goto 4, 3) := by decide +kernel
theorem dX7_paidFor_74 : decode cX7_paidFor 74 = .ok (.iconst 0, 1) := by decide +kernel
theorem dX7_paidFor_75 : decode cX7_paidFor 75 = .ok (.iastore, 1) := by decide +kernel
theorem dX7_paidFor_76 : decode cX7_paidFor 76 = .ok (.iinc 5 1, 3) := by decide +kernel
theorem dX7_paidFor_79 : decode cX7_paidFor 79 = .ok (.goto (-42), 3) := by decide +kernel
theorem dX7_paidFor_82 : decode cX7_paidFor 82 = .ok (.aload_n 0, 1) := by decide +kernel
theorem dX7_paidFor_83 : decode cX7_paidFor 83 = .ok (.iload 4, 2) := by decide +kernel
theorem dX7_paidFor_85 : decode cX7_paidFor 85 = .ok (.aload_n 0, 1) := by decide +kernel
theorem dX7_paidFor_86 : decode cX7_paidFor 86 = .ok (.getfield 9, 3) := by decide +kernel
theorem dX7_paidFor_89 : decode cX7_paidFor 89 = .ok (.iconst 3, 1) := by decide +kernel
theorem dX7_paidFor_90 : decode cX7_paidFor 90 = .ok (.iaload, 1) := by decide +kernel
theorem dX7_paidFor_91 : decode cX7_paidFor 91 = .ok (.iload_n 1, 1) := by decide +kernel
theorem dX7_paidFor_92 : decode cX7_paidFor 92 = .ok (.invokevirtual 154, 3) := by decide +kernel
theorem dX7_paidFor_95 : decode cX7_paidFor 95 = .ok (.ireturn, 1) := by decide +kernel
theorem dX7_paidByAll_0 : decode cX7_paidByAll 0 = .ok (.iconst 0, 1) := by decide +kernel
theorem dX7_paidByAll_1 : decode cX7_paidByAll 1 = .ok (.istore_n 2, 1) := by decide +kernel
theorem dX7_paidByAll_2 : decode cX7_paidByAll 2 = .ok (.iconst 0, 1) := by decide +kernel
theorem dX7_paidByAll_3 : decode cX7_paidByAll 3 = .ok (.istore_n 3, 1) := by decide +kernel
theorem dX7_paidByAll_4 : decode cX7_paidByAll 4 = .ok (.iload_n 3, 1) := by decide +kernel
theorem dX7_paidByAll_5 : decode cX7_paidByAll 5 = .ok (.aload_n 0, 1) := by decide +kernel
theorem dX7_paidByAll_6 : decode cX7_paidByAll 6 = .ok (.getfield 9, 3) := by decide +kernel
theorem dX7_paidByAll_9 : decode cX7_paidByAll 9 = .ok (.iconst 0, 1) := by decide +kernel
theorem dX7_paidByAll_10 : decode cX7_paidByAll 10 = .ok (.iaload, 1) := by decide +kernel
theorem dX7_paidByAll_11 : decode cX7_paidByAll 11 = .ok (.if_icmp .ge 18, 3) := by decide +kernel
theorem dX7_paidByAll_14 : decode cX7_paidByAll 14 = .ok (.iload_n 2, 1) := by decide +kernel
theorem dX7_paidByAll_15 : decode cX7_paidByAll 15 = .ok (.aload_n 0, 1) := by decide +kernel
theorem dX7_paidByAll_16 : decode cX7_paidByAll 16 = .ok (.iload_n 1, 1) := by decide +kernel
theorem dX7_paidByAll_17 : decode cX7_paidByAll 17 = .ok (.iload_n 3, 1) := by decide +kernel
theorem dX7_paidByAll_18 : decode cX7_paidByAll 18 = .ok (.invokevirtual 169, 3) := by decide +kernel
theorem dX7_paidByAll_21 : decode cX7_paidByAll 21 = .ok (.iadd, 1) := by decide +kernel
theorem dX7_paidByAll_22 : decode cX7_paidByAll 22 = .ok (.istore_n 2, 1) := by decide +kernel
theorem dX7_paidByAll_23 : decode cX7_paidByAll 23 = .ok (.iinc 3 1, 3) := by decide +kernel
theorem dX7_paidByAll_26 : decode cX7_paidByAll 26 = .ok (.goto (-22), 3) := by decide +kernel
theorem dX7_paidByAll_29 : decode cX7_paidByAll 29 = .ok (.iload_n 2, 1) := by decide +kernel
theorem dX7_paidByAll_30 : decode cX7_paidByAll 30 = .ok (.ireturn, 1) := by decide +kernel
theorem dX7_burdenOf_0 : decode cX7_burdenOf 0 = .ok (.iconst 0, 1) := by decide +kernel
theorem dX7_burdenOf_1 : decode cX7_burdenOf 1 = .ok (.aload_n 0, 1) := by decide +kernel
theorem dX7_burdenOf_2 : decode cX7_burdenOf 2 = .ok (.iload_n 1, 1) := by decide +kernel
theorem dX7_burdenOf_3 : decode cX7_burdenOf 3 = .ok (.invokevirtual 172, 3) := by decide +kernel
theorem dX7_burdenOf_6 : decode cX7_burdenOf 6 = .ok (.aload_n 0, 1) := by decide +kernel
theorem dX7_burdenOf_7 : decode cX7_burdenOf 7 = .ok (.getfield 9, 3) := by decide +kernel
theorem dX7_burdenOf_10 : decode cX7_burdenOf 10 = .ok (.bipush 56, 2) := by decide +kernel
theorem dX7_burdenOf_12 : decode cX7_burdenOf 12 = .ok (.iload_n 1, 1) := by decide +kernel
theorem dX7_burdenOf_13 : decode cX7_burdenOf 13 = .ok (.iadd, 1) := by decide +kernel
theorem dX7_burdenOf_14 : decode cX7_burdenOf 14 = .ok (.iaload, 1) := by decide +kernel
theorem dX7_burdenOf_15 : decode cX7_burdenOf 15 = .ok (.isub, 1) := by decide +kernel
theorem dX7_burdenOf_16 : decode cX7_burdenOf 16 = .ok (.invokestatic 175, 3) := by decide +kernel
theorem dX7_burdenOf_19 : decode cX7_burdenOf 19 = .ok (.ireturn, 1) := by decide +kernel
theorem dX7_capacityOf_0 : decode cX7_capacityOf 0 = .ok (.aload_n 0, 1) := by decide +kernel
theorem dX7_capacityOf_1 : decode cX7_capacityOf 1 = .ok (.getfield 9, 3) := by decide +kernel
theorem dX7_capacityOf_4 : decode cX7_capacityOf 4 = .ok (.bipush 32, 2) := by decide +kernel
theorem dX7_capacityOf_6 : decode cX7_capacityOf 6 = .ok (.iconst 4, 1) := by decide +kernel
theorem dX7_capacityOf_7 : decode cX7_capacityOf 7 = .ok (.iload_n 1, 1) := by decide +kernel
theorem dX7_capacityOf_8 : decode cX7_capacityOf 8 = .ok (.imul, 1) := by decide +kernel
theorem dX7_capacityOf_9 : decode cX7_capacityOf 9 = .ok (.iadd, 1) := by decide +kernel
theorem dX7_capacityOf_10 : decode cX7_capacityOf 10 = .ok (.iconst 1, 1) := by decide +kernel
theorem dX7_capacityOf_11 : decode cX7_capacityOf 11 = .ok (.iadd, 1) := by decide +kernel
theorem dX7_capacityOf_12 : decode cX7_capacityOf 12 = .ok (.iaload, 1) := by decide +kernel
theorem dX7_capacityOf_13 : decode cX7_capacityOf 13 = .ok (.aload_n 0, 1) := by decide +kernel
theorem dX7_capacityOf_14 : decode cX7_capacityOf 14 = .ok (.getfield 9, 3) := by decide +kernel
theorem dX7_capacityOf_17 : decode cX7_capacityOf 17 = .ok (.bipush 32, 2) := by decide +kernel
theorem dX7_capacityOf_19 : decode cX7_capacityOf 19 = .ok (.iconst 4, 1) := by decide +kernel
theorem dX7_capacityOf_20 : decode cX7_capacityOf 20 = .ok (.iload_n 1, 1) := by decide +kernel
theorem dX7_capacityOf_21 : decode cX7_capacityOf 21 = .ok (.imul, 1) := by decide +kernel
theorem dX7_capacityOf_22 : decode cX7_capacityOf 22 = .ok (.iadd, 1) := by decide +kernel
theorem dX7_capacityOf_23 : decode cX7_capacityOf 23 = .ok (.iconst 3, 1) := by decide +kernel
theorem dX7_capacityOf_24 : decode cX7_capacityOf 24 = .ok (.iadd, 1) := by decide +kernel
theorem dX7_capacityOf_25 : decode cX7_capacityOf 25 = .ok (.iaload, 1) := by decide +kernel
theorem dX7_capacityOf_26 : decode cX7_capacityOf 26 = .ok (.iconst 1, 1) := by decide +kernel
theorem dX7_capacityOf_27 : decode cX7_capacityOf 27 = .ok (.iadd, 1) := by decide +kernel
theorem dX7_capacityOf_28 : decode cX7_capacityOf 28 = .ok (.imul, 1) := by decide +kernel
theorem dX7_capacityOf_29 : decode cX7_capacityOf 29 = .ok (.ireturn, 1) := by decide +kernel
theorem dX7_wantOf_0 : decode cX7_wantOf 0 = .ok (.aload_n 0, 1) := by decide +kernel
theorem dX7_wantOf_1 : decode cX7_wantOf 1 = .ok (.getfield 9, 3) := by decide +kernel
theorem dX7_wantOf_4 : decode cX7_wantOf 4 = .ok (.bipush 32, 2) := by decide +kernel
theorem dX7_wantOf_6 : decode cX7_wantOf 6 = .ok (.iconst 4, 1) := by decide +kernel
theorem dX7_wantOf_7 : decode cX7_wantOf 7 = .ok (.iload_n 2, 1) := by decide +kernel
theorem dX7_wantOf_8 : decode cX7_wantOf 8 = .ok (.imul, 1) := by decide +kernel
theorem dX7_wantOf_9 : decode cX7_wantOf 9 = .ok (.iadd, 1) := by decide +kernel
theorem dX7_wantOf_10 : decode cX7_wantOf 10 = .ok (.iconst 1, 1) := by decide +kernel
theorem dX7_wantOf_11 : decode cX7_wantOf 11 = .ok (.iadd, 1) := by decide +kernel
theorem dX7_wantOf_12 : decode cX7_wantOf 12 = .ok (.iaload, 1) := by decide +kernel
theorem dX7_wantOf_13 : decode cX7_wantOf 13 = .ok (.iconst 0, 1) := by decide +kernel
theorem dX7_wantOf_14 : decode cX7_wantOf 14 = .ok (.aload_n 0, 1) := by decide +kernel
theorem dX7_wantOf_15 : decode cX7_wantOf 15 = .ok (.iload_n 1, 1) := by decide +kernel
theorem dX7_wantOf_16 : decode cX7_wantOf 16 = .ok (.invokevirtual 178, 3) := by decide +kernel
theorem dX7_wantOf_19 : decode cX7_wantOf 19 = .ok (.aload_n 0, 1) := by decide +kernel
theorem dX7_wantOf_20 : decode cX7_wantOf 20 = .ok (.getfield 9, 3) := by decide +kernel
theorem dX7_wantOf_23 : decode cX7_wantOf 23 = .ok (.bipush 32, 2) := by decide +kernel
theorem dX7_wantOf_25 : decode cX7_wantOf 25 = .ok (.iconst 4, 1) := by decide +kernel
theorem dX7_wantOf_26 : decode cX7_wantOf 26 = .ok (.iload_n 2, 1) := by decide +kernel
theorem dX7_wantOf_27 : decode cX7_wantOf 27 = .ok (.imul, 1) := by decide +kernel
theorem dX7_wantOf_28 : decode cX7_wantOf 28 = .ok (.iadd, 1) := by decide +kernel
theorem dX7_wantOf_29 : decode cX7_wantOf 29 = .ok (.iaload, 1) := by decide +kernel
theorem dX7_wantOf_30 : decode cX7_wantOf 30 = .ok (.isub, 1) := by decide +kernel
theorem dX7_wantOf_31 : decode cX7_wantOf 31 = .ok (.invokestatic 175, 3) := by decide +kernel
theorem dX7_wantOf_34 : decode cX7_wantOf 34 = .ok (.invokestatic 146, 3) := by decide +kernel
theorem dX7_wantOf_37 : decode cX7_wantOf 37 = .ok (.ireturn, 1) := by decide +kernel
theorem dX7_capacityAt_0 : decode cX7_capacityAt 0 = .ok (.aload_n 0, 1) := by decide +kernel
theorem dX7_capacityAt_1 : decode cX7_capacityAt 1 = .ok (.iload_n 2, 1) := by decide +kernel
theorem dX7_capacityAt_2 : decode cX7_capacityAt 2 = .ok (.invokevirtual 181, 3) := by decide +kernel
theorem dX7_capacityAt_5 : decode cX7_capacityAt 5 = .ok (.istore_n 3, 1) := by decide +kernel
theorem dX7_capacityAt_6 : decode cX7_capacityAt 6 = .ok (.iconst 0, 1) := by decide +kernel
theorem dX7_capacityAt_7 : decode cX7_capacityAt 7 = .ok (.istore 4, 2) := by decide +kernel
theorem dX7_capacityAt_9 : decode cX7_capacityAt 9 = .ok (.iload 4, 2) := by decide +kernel
theorem dX7_capacityAt_11 : decode cX7_capacityAt 11 = .ok (.iload_n 1, 1) := by decide +kernel
theorem dX7_capacityAt_12 : decode cX7_capacityAt 12 = .ok (.if_icmp .ge 27, 3) := by decide +kernel
theorem dX7_capacityAt_15 : decode cX7_capacityAt 15 = .ok (.iload_n 3, 1) := by decide +kernel
theorem dX7_capacityAt_16 : decode cX7_capacityAt 16 = .ok (.iload_n 3, 1) := by decide +kernel
theorem dX7_capacityAt_17 : decode cX7_capacityAt 17 = .ok (.aload_n 0, 1) := by decide +kernel
theorem dX7_capacityAt_18 : decode cX7_capacityAt 18 = .ok (.aload_n 0, 1) := by decide +kernel
theorem dX7_capacityAt_19 : decode cX7_capacityAt 19 = .ok (.iload 4, 2) := by decide +kernel
theorem dX7_capacityAt_21 : decode cX7_capacityAt 21 = .ok (.invokevirtual 160, 3) := by decide +kernel
theorem dX7_capacityAt_24 : decode cX7_capacityAt 24 = .ok (.iload_n 2, 1) := by decide +kernel
theorem dX7_capacityAt_25 : decode cX7_capacityAt 25 = .ok (.invokevirtual 184, 3) := by decide +kernel
theorem dX7_capacityAt_28 : decode cX7_capacityAt 28 = .ok (.invokestatic 146, 3) := by decide +kernel
theorem dX7_capacityAt_31 : decode cX7_capacityAt 31 = .ok (.isub, 1) := by decide +kernel
theorem dX7_capacityAt_32 : decode cX7_capacityAt 32 = .ok (.istore_n 3, 1) := by decide +kernel
theorem dX7_capacityAt_33 : decode cX7_capacityAt 33 = .ok (.iinc 4 1, 3) := by decide +kernel
theorem dX7_capacityAt_36 : decode cX7_capacityAt 36 = .ok (.goto (-27), 3) := by decide +kernel
theorem dX7_capacityAt_39 : decode cX7_capacityAt 39 = .ok (.iload_n 3, 1) := by decide +kernel
theorem dX7_capacityAt_40 : decode cX7_capacityAt 40 = .ok (.ireturn, 1) := by decide +kernel
theorem dX7_borneOf_0 : decode cX7_borneOf 0 = .ok (.aload_n 0, 1) := by decide +kernel
theorem dX7_borneOf_1 : decode cX7_borneOf 1 = .ok (.iload_n 1, 1) := by decide +kernel
theorem dX7_borneOf_2 : decode cX7_borneOf 2 = .ok (.iload_n 2, 1) := by decide +kernel
theorem dX7_borneOf_3 : decode cX7_borneOf 3 = .ok (.invokevirtual 184, 3) := by decide +kernel
theorem dX7_borneOf_6 : decode cX7_borneOf 6 = .ok (.aload_n 0, 1) := by decide +kernel
theorem dX7_borneOf_7 : decode cX7_borneOf 7 = .ok (.aload_n 0, 1) := by decide +kernel
theorem dX7_borneOf_8 : decode cX7_borneOf 8 = .ok (.iload_n 1, 1) := by decide +kernel
theorem dX7_borneOf_9 : decode cX7_borneOf 9 = .ok (.invokevirtual 133, 3) := by decide +kernel
theorem dX7_borneOf_12 : decode cX7_borneOf 12 = .ok (.iload_n 2, 1) := by decide +kernel
theorem dX7_borneOf_13 : decode cX7_borneOf 13 = .ok (.invokevirtual 187, 3) := by decide +kernel
theorem dX7_borneOf_16 : decode cX7_borneOf 16 = .ok (.invokestatic 146, 3) := by decide +kernel
theorem dX7_borneOf_19 : decode cX7_borneOf 19 = .ok (.ireturn, 1) := by decide +kernel
theorem dX7_retainedOf_0 : decode cX7_retainedOf 0 = .ok (.aload_n 0, 1) := by decide +kernel
theorem dX7_retainedOf_1 : decode cX7_retainedOf 1 = .ok (.iload_n 1, 1) := by decide +kernel
theorem dX7_retainedOf_2 : decode cX7_retainedOf 2 = .ok (.invokevirtual 178, 3) := by decide +kernel
theorem dX7_retainedOf_5 : decode cX7_retainedOf 5 = .ok (.istore_n 2, 1) := by decide +kernel
theorem dX7_retainedOf_6 : decode cX7_retainedOf 6 = .ok (.iconst 0, 1) := by decide +kernel
theorem dX7_retainedOf_7 : decode cX7_retainedOf 7 = .ok (.istore_n 3, 1) := by decide +kernel
theorem dX7_retainedOf_8 : decode cX7_retainedOf 8 = .ok (.iload_n 3, 1) := by decide +kernel
theorem dX7_retainedOf_9 : decode cX7_retainedOf 9 = .ok (.aload_n 0, 1) := by decide +kernel
theorem dX7_retainedOf_10 : decode cX7_retainedOf 10 = .ok (.getfield 9, 3) := by decide +kernel
theorem dX7_retainedOf_13 : decode cX7_retainedOf 13 = .ok (.iconst 1, 1) := by decide +kernel
theorem dX7_retainedOf_14 : decode cX7_retainedOf 14 = .ok (.iaload, 1) := by decide +kernel
theorem dX7_retainedOf_15 : decode cX7_retainedOf 15 = .ok (.if_icmp .ge 18, 3) := by decide +kernel
theorem dX7_retainedOf_18 : decode cX7_retainedOf 18 = .ok (.iload_n 2, 1) := by decide +kernel
theorem dX7_retainedOf_19 : decode cX7_retainedOf 19 = .ok (.aload_n 0, 1) := by decide +kernel
theorem dX7_retainedOf_20 : decode cX7_retainedOf 20 = .ok (.iload_n 1, 1) := by decide +kernel
theorem dX7_retainedOf_21 : decode cX7_retainedOf 21 = .ok (.iload_n 3, 1) := by decide +kernel
theorem dX7_retainedOf_22 : decode cX7_retainedOf 22 = .ok (.invokevirtual 190, 3) := by decide +kernel
theorem dX7_retainedOf_25 : decode cX7_retainedOf 25 = .ok (.isub, 1) := by decide +kernel
theorem dX7_retainedOf_26 : decode cX7_retainedOf 26 = .ok (.istore_n 2, 1) := by decide +kernel
theorem dX7_retainedOf_27 : decode cX7_retainedOf 27 = .ok (.iinc 3 1, 3) := by decide +kernel
theorem dX7_retainedOf_30 : decode cX7_retainedOf 30 = .ok (.goto (-22), 3) := by decide +kernel
theorem dX7_retainedOf_33 : decode cX7_retainedOf 33 = .ok (.iload_n 2, 1) := by decide +kernel
theorem dX7_retainedOf_34 : decode cX7_retainedOf 34 = .ok (.ireturn, 1) := by decide +kernel
theorem dX7_borneInAll_0 : decode cX7_borneInAll 0 = .ok (.aload_n 0, 1) := by decide +kernel
theorem dX7_borneInAll_1 : decode cX7_borneInAll 1 = .ok (.iload_n 1, 1) := by decide +kernel
theorem dX7_borneInAll_2 : decode cX7_borneInAll 2 = .ok (.invokevirtual 181, 3) := by decide +kernel
theorem dX7_borneInAll_5 : decode cX7_borneInAll 5 = .ok (.aload_n 0, 1) := by decide +kernel
theorem dX7_borneInAll_6 : decode cX7_borneInAll 6 = .ok (.aload_n 0, 1) := by decide +kernel
theorem dX7_borneInAll_7 : decode cX7_borneInAll 7 = .ok (.getfield 9, 3) := by decide +kernel
theorem dX7_borneInAll_10 : decode cX7_borneInAll 10 = .ok (.iconst 2, 1) := by decide +kernel
theorem dX7_borneInAll_11 : decode cX7_borneInAll 11 = .ok (.iaload, 1) := by decide +kernel
theorem dX7_borneInAll_12 : decode cX7_borneInAll 12 = .ok (.iload_n 1, 1) := by decide +kernel
theorem dX7_borneInAll_13 : decode cX7_borneInAll 13 = .ok (.invokevirtual 187, 3) := by decide +kernel
theorem dX7_borneInAll_16 : decode cX7_borneInAll 16 = .ok (.isub, 1) := by decide +kernel
theorem dX7_borneInAll_17 : decode cX7_borneInAll 17 = .ok (.ireturn, 1) := by decide +kernel
theorem dX7_reinstated_0 : decode cX7_reinstated 0 = .ok (.aload_n 0, 1) := by decide +kernel
theorem dX7_reinstated_1 : decode cX7_reinstated 1 = .ok (.iload_n 1, 1) := by decide +kernel
theorem dX7_reinstated_2 : decode cX7_reinstated 2 = .ok (.invokevirtual 193, 3) := by decide +kernel
theorem dX7_reinstated_5 : decode cX7_reinstated 5 = .ok (.aload_n 0, 1) := by decide +kernel
theorem dX7_reinstated_6 : decode cX7_reinstated 6 = .ok (.getfield 9, 3) := by decide +kernel
theorem dX7_reinstated_9 : decode cX7_reinstated 9 = .ok (.bipush 32, 2) := by decide +kernel
theorem dX7_reinstated_11 : decode cX7_reinstated 11 = .ok (.iconst 4, 1) := by decide +kernel
theorem dX7_reinstated_12 : decode cX7_reinstated 12 = .ok (.iload_n 1, 1) := by decide +kernel
theorem dX7_reinstated_13 : decode cX7_reinstated 13 = .ok (.imul, 1) := by decide +kernel
theorem dX7_reinstated_14 : decode cX7_reinstated 14 = .ok (.iadd, 1) := by decide +kernel
theorem dX7_reinstated_15 : decode cX7_reinstated 15 = .ok (.iconst 1, 1) := by decide +kernel
theorem dX7_reinstated_16 : decode cX7_reinstated 16 = .ok (.iadd, 1) := by decide +kernel
theorem dX7_reinstated_17 : decode cX7_reinstated 17 = .ok (.iaload, 1) := by decide +kernel
theorem dX7_reinstated_18 : decode cX7_reinstated 18 = .ok (.aload_n 0, 1) := by decide +kernel
theorem dX7_reinstated_19 : decode cX7_reinstated 19 = .ok (.getfield 9, 3) := by decide +kernel
theorem dX7_reinstated_22 : decode cX7_reinstated 22 = .ok (.bipush 32, 2) := by decide +kernel
theorem dX7_reinstated_24 : decode cX7_reinstated 24 = .ok (.iconst 4, 1) := by decide +kernel
theorem dX7_reinstated_25 : decode cX7_reinstated 25 = .ok (.iload_n 1, 1) := by decide +kernel
theorem dX7_reinstated_26 : decode cX7_reinstated 26 = .ok (.imul, 1) := by decide +kernel
theorem dX7_reinstated_27 : decode cX7_reinstated 27 = .ok (.iadd, 1) := by decide +kernel
theorem dX7_reinstated_28 : decode cX7_reinstated 28 = .ok (.iconst 3, 1) := by decide +kernel
theorem dX7_reinstated_29 : decode cX7_reinstated 29 = .ok (.iadd, 1) := by decide +kernel
theorem dX7_reinstated_30 : decode cX7_reinstated 30 = .ok (.iaload, 1) := by decide +kernel
theorem dX7_reinstated_31 : decode cX7_reinstated 31 = .ok (.imul, 1) := by decide +kernel
theorem dX7_reinstated_32 : decode cX7_reinstated 32 = .ok (.invokestatic 146, 3) := by decide +kernel
theorem dX7_reinstated_35 : decode cX7_reinstated 35 = .ok (.ireturn, 1) := by decide +kernel
theorem dX7_reinstatementPremium_0 : decode cX7_reinstatementPremium 0 = .ok (.aload_n 0, 1) := by decide +kernel
theorem dX7_reinstatementPremium_1 : decode cX7_reinstatementPremium 1 = .ok (.getfield 9, 3) := by decide +kernel
theorem dX7_reinstatementPremium_4 : decode cX7_reinstatementPremium 4 = .ok (.bipush 32, 2) := by decide +kernel
theorem dX7_reinstatementPremium_6 : decode cX7_reinstatementPremium 6 = .ok (.iconst 4, 1) := by decide +kernel
theorem dX7_reinstatementPremium_7 : decode cX7_reinstatementPremium 7 = .ok (.iload_n 1, 1) := by decide +kernel
theorem dX7_reinstatementPremium_8 : decode cX7_reinstatementPremium 8 = .ok (.imul, 1) := by decide +kernel
theorem dX7_reinstatementPremium_9 : decode cX7_reinstatementPremium 9 = .ok (.iadd, 1) := by decide +kernel
theorem dX7_reinstatementPremium_10 : decode cX7_reinstatementPremium 10 = .ok (.iconst 2, 1) := by decide +kernel
theorem dX7_reinstatementPremium_11 : decode cX7_reinstatementPremium 11 = .ok (.iadd, 1) := by decide +kernel
theorem dX7_reinstatementPremium_12 : decode cX7_reinstatementPremium 12 = .ok (.iaload, 1) := by decide +kernel
theorem dX7_reinstatementPremium_13 : decode cX7_reinstatementPremium 13 = .ok (.i2l, 1) := by decide +kernel
theorem dX7_reinstatementPremium_14 : decode cX7_reinstatementPremium 14 = .ok (.aload_n 0, 1) := by decide +kernel
theorem dX7_reinstatementPremium_15 : decode cX7_reinstatementPremium 15 = .ok (.iload_n 1, 1) := by decide +kernel
theorem dX7_reinstatementPremium_16 : decode cX7_reinstatementPremium 16 = .ok (.invokevirtual 196, 3) := by decide +kernel
theorem dX7_reinstatementPremium_19 : decode cX7_reinstatementPremium 19 = .ok (.i2l, 1) := by decide +kernel
theorem dX7_reinstatementPremium_20 : decode cX7_reinstatementPremium 20 = .ok (.lmul, 1) := by decide +kernel
theorem dX7_reinstatementPremium_21 : decode cX7_reinstatementPremium 21 = .ok (.aload_n 0, 1) := by decide +kernel
theorem dX7_reinstatementPremium_22 : decode cX7_reinstatementPremium 22 = .ok (.getfield 9, 3) := by decide +kernel
theorem dX7_reinstatementPremium_25 : decode cX7_reinstatementPremium 25 = .ok (.bipush 32, 2) := by decide +kernel
theorem dX7_reinstatementPremium_27 : decode cX7_reinstatementPremium 27 = .ok (.iconst 4, 1) := by decide +kernel
theorem dX7_reinstatementPremium_28 : decode cX7_reinstatementPremium 28 = .ok (.iload_n 1, 1) := by decide +kernel
theorem dX7_reinstatementPremium_29 : decode cX7_reinstatementPremium 29 = .ok (.imul, 1) := by decide +kernel
theorem dX7_reinstatementPremium_30 : decode cX7_reinstatementPremium 30 = .ok (.iadd, 1) := by decide +kernel
theorem dX7_reinstatementPremium_31 : decode cX7_reinstatementPremium 31 = .ok (.iconst 1, 1) := by decide +kernel
theorem dX7_reinstatementPremium_32 : decode cX7_reinstatementPremium 32 = .ok (.iadd, 1) := by decide +kernel
theorem dX7_reinstatementPremium_33 : decode cX7_reinstatementPremium 33 = .ok (.iaload, 1) := by decide +kernel
theorem dX7_reinstatementPremium_34 : decode cX7_reinstatementPremium 34 = .ok (.i2l, 1) := by decide +kernel
theorem dX7_reinstatementPremium_35 : decode cX7_reinstatementPremium 35 = .ok (.ldiv, 1) := by decide +kernel
theorem dX7_reinstatementPremium_36 : decode cX7_reinstatementPremium 36 = .ok (.l2i, 1) := by decide +kernel
theorem dX7_reinstatementPremium_37 : decode cX7_reinstatementPremium 37 = .ok (.ireturn, 1) := by decide +kernel
theorem dX7_paidInAll_0 : decode cX7_paidInAll 0 = .ok (.aload_n 0, 1) := by decide +kernel
theorem dX7_paidInAll_1 : decode cX7_paidInAll 1 = .ok (.getfield 9, 3) := by decide +kernel
theorem dX7_paidInAll_4 : decode cX7_paidInAll 4 = .ok (.bipush 8, 2) := by decide +kernel
theorem dX7_paidInAll_6 : decode cX7_paidInAll 6 = .ok (.iconst 4, 1) := by decide +kernel
theorem dX7_paidInAll_7 : decode cX7_paidInAll 7 = .ok (.iload_n 1, 1) := by decide +kernel
theorem dX7_paidInAll_8 : decode cX7_paidInAll 8 = .ok (.imul, 1) := by decide +kernel
theorem dX7_paidInAll_9 : decode cX7_paidInAll 9 = .ok (.iadd, 1) := by decide +kernel
theorem dX7_paidInAll_10 : decode cX7_paidInAll 10 = .ok (.iconst 1, 1) := by decide +kernel
theorem dX7_paidInAll_11 : decode cX7_paidInAll 11 = .ok (.iadd, 1) := by decide +kernel
theorem dX7_paidInAll_12 : decode cX7_paidInAll 12 = .ok (.iaload, 1) := by decide +kernel
theorem dX7_paidInAll_13 : decode cX7_paidInAll 13 = .ok (.aload_n 0, 1) := by decide +kernel
theorem dX7_paidInAll_14 : decode cX7_paidInAll 14 = .ok (.aload_n 0, 1) := by decide +kernel
theorem dX7_paidInAll_15 : decode cX7_paidInAll 15 = .ok (.getfield 9, 3) := by decide +kernel
theorem dX7_paidInAll_18 : decode cX7_paidInAll 18 = .ok (.iconst 2, 1) := by decide +kernel
theorem dX7_paidInAll_19 : decode cX7_paidInAll 19 = .ok (.iaload, 1) := by decide +kernel
theorem dX7_paidInAll_20 : decode cX7_paidInAll 20 = .ok (.iload_n 1, 1) := by decide +kernel
theorem dX7_paidInAll_21 : decode cX7_paidInAll 21 = .ok (.invokevirtual 166, 3) := by decide +kernel
theorem dX7_paidInAll_24 : decode cX7_paidInAll 24 = .ok (.isub, 1) := by decide +kernel
theorem dX7_paidInAll_25 : decode cX7_paidInAll 25 = .ok (.ireturn, 1) := by decide +kernel
theorem dX7_cover_0 : decode cX7_cover 0 = .ok (.aload_n 0, 1) := by decide +kernel
theorem dX7_cover_1 : decode cX7_cover 1 = .ok (.iload_n 1, 1) := by decide +kernel
theorem dX7_cover_2 : decode cX7_cover 2 = .ok (.invokevirtual 78, 3) := by decide +kernel
theorem dX7_cover_5 : decode cX7_cover 5 = .ok (.ifCond .ne 5, 3) := by decide +kernel
theorem dX7_cover_8 : decode cX7_cover 8 = .ok (.iconst (-1), 1) := by decide +kernel
theorem dX7_cover_9 : decode cX7_cover 9 = .ok (.ireturn, 1) := by decide +kernel
theorem dX7_cover_10 : decode cX7_cover 10 = .ok (.iload_n 2, 1) := by decide +kernel
theorem dX7_cover_11 : decode cX7_cover 11 = .ok (.iconst 0, 1) := by decide +kernel
theorem dX7_cover_12 : decode cX7_cover 12 = .ok (.iconst 3, 1) := by decide +kernel
theorem dX7_cover_13 : decode cX7_cover 13 = .ok (.invokestatic 61, 3) := by decide +kernel
theorem dX7_cover_16 : decode cX7_cover 16 = .ok (.ifCond .eq 17, 3) := by decide +kernel
theorem dX7_cover_19 : decode cX7_cover 19 = .ok (.aload_n 0, 1) := by decide +kernel
theorem dX7_cover_20 : decode cX7_cover 20 = .ok (.getfield 9, 3) := by decide +kernel
theorem dX7_cover_23 : decode cX7_cover 23 = .ok (.bipush 8, 2) := by decide +kernel
theorem dX7_cover_25 : decode cX7_cover 25 = .ok (.iconst 4, 1) := by decide +kernel
theorem dX7_cover_26 : decode cX7_cover 26 = .ok (.iload_n 1, 1) := by decide +kernel
theorem dX7_cover_27 : decode cX7_cover 27 = .ok (.imul, 1) := by decide +kernel
theorem dX7_cover_28 : decode cX7_cover 28 = .ok (.iadd, 1) := by decide +kernel
theorem dX7_cover_29 : decode cX7_cover 29 = .ok (.iload_n 2, 1) := by decide +kernel
theorem dX7_cover_30 : decode cX7_cover 30 = .ok (.iadd, 1) := by decide +kernel
theorem dX7_cover_31 : decode cX7_cover 31 = .ok (.iaload, 1) := by decide +kernel
theorem dX7_cover_32 : decode cX7_cover 32 = .ok (.ireturn, 1) := by decide +kernel
theorem dX7_cover_33 : decode cX7_cover 33 = .ok (.iload_n 2, 1) := by decide +kernel
theorem dX7_cover_34 : decode cX7_cover 34 = .ok (.iconst 4, 1) := by decide +kernel
theorem dX7_cover_35 : decode cX7_cover 35 = .ok (.if_icmp .ne 11, 3) := by decide +kernel
theorem dX7_cover_38 : decode cX7_cover 38 = .ok (.aload_n 0, 1) := by decide +kernel
theorem dX7_cover_39 : decode cX7_cover 39 = .ok (.iload_n 1, 1) := by decide +kernel
theorem dX7_cover_40 : decode cX7_cover 40 = .ok (.invokevirtual 199, 3) := by decide +kernel
theorem dX7_cover_43 : decode cX7_cover 43 = .ok (.goto 24, 3) := by decide +kernel
theorem dX7_cover_46 : decode cX7_cover 46 = .ok (.iload_n 2, 1) := by decide +kernel
theorem dX7_cover_47 : decode cX7_cover 47 = .ok (.iconst 5, 1) := by decide +kernel
theorem dX7_cover_48 : decode cX7_cover 48 = .ok (.if_icmp .ne 17, 3) := by decide +kernel
theorem dX7_cover_51 : decode cX7_cover 51 = .ok (.aload_n 0, 1) := by decide +kernel
theorem dX7_cover_52 : decode cX7_cover 52 = .ok (.aload_n 0, 1) := by decide +kernel
theorem dX7_cover_53 : decode cX7_cover 53 = .ok (.getfield 9, 3) := by decide +kernel
theorem dX7_cover_56 : decode cX7_cover 56 = .ok (.iconst 2, 1) := by decide +kernel
theorem dX7_cover_57 : decode cX7_cover 57 = .ok (.iaload, 1) := by decide +kernel
theorem dX7_cover_58 : decode cX7_cover 58 = .ok (.iload_n 1, 1) := by decide +kernel
theorem dX7_cover_59 : decode cX7_cover 59 = .ok (.invokevirtual 166, 3) := by decide +kernel
theorem dX7_cover_62 : decode cX7_cover 62 = .ok (.goto 5, 3) := by decide +kernel
theorem dX7_cover_65 : decode cX7_cover 65 = .ok (.bipush (-2), 2) := by decide +kernel
theorem dX7_cover_67 : decode cX7_cover 67 = .ok (.ireturn, 1) := by decide +kernel
theorem dX7_layer_0 : decode cX7_layer 0 = .ok (.aload_n 0, 1) := by decide +kernel
theorem dX7_layer_1 : decode cX7_layer 1 = .ok (.iload_n 1, 1) := by decide +kernel
theorem dX7_layer_2 : decode cX7_layer 2 = .ok (.invokevirtual 202, 3) := by decide +kernel
theorem dX7_layer_5 : decode cX7_layer 5 = .ok (.ifCond .ne 5, 3) := by decide +kernel
theorem dX7_layer_8 : decode cX7_layer 8 = .ok (.iconst (-1), 1) := by decide +kernel
theorem dX7_layer_9 : decode cX7_layer 9 = .ok (.ireturn, 1) := by decide +kernel
theorem dX7_layer_10 : decode cX7_layer 10 = .ok (.iload_n 2, 1) := by decide +kernel
theorem dX7_layer_11 : decode cX7_layer 11 = .ok (.iconst 0, 1) := by decide +kernel
theorem dX7_layer_12 : decode cX7_layer 12 = .ok (.iconst 3, 1) := by decide +kernel
theorem dX7_layer_13 : decode cX7_layer 13 = .ok (.invokestatic 61, 3) := by decide +kernel
theorem dX7_layer_16 : decode cX7_layer 16 = .ok (.ifCond .eq 17, 3) := by decide +kernel
theorem dX7_layer_19 : decode cX7_layer 19 = .ok (.aload_n 0, 1) := by decide +kernel
theorem dX7_layer_20 : decode cX7_layer 20 = .ok (.getfield 9, 3) := by decide +kernel
theorem dX7_layer_23 : decode cX7_layer 23 = .ok (.bipush 32, 2) := by decide +kernel
theorem dX7_layer_25 : decode cX7_layer 25 = .ok (.iconst 4, 1) := by decide +kernel
theorem dX7_layer_26 : decode cX7_layer 26 = .ok (.iload_n 1, 1) := by decide +kernel
theorem dX7_layer_27 : decode cX7_layer 27 = .ok (.imul, 1) := by decide +kernel
theorem dX7_layer_28 : decode cX7_layer 28 = .ok (.iadd, 1) := by decide +kernel
theorem dX7_layer_29 : decode cX7_layer 29 = .ok (.iload_n 2, 1) := by decide +kernel
theorem dX7_layer_30 : decode cX7_layer 30 = .ok (.iadd, 1) := by decide +kernel
theorem dX7_layer_31 : decode cX7_layer 31 = .ok (.iaload, 1) := by decide +kernel
theorem dX7_layer_32 : decode cX7_layer 32 = .ok (.ireturn, 1) := by decide +kernel
theorem dX7_layer_33 : decode cX7_layer 33 = .ok (.iload_n 2, 1) := by decide +kernel
theorem dX7_layer_34 : decode cX7_layer 34 = .ok (.tableswitch 60 4 7 #[30, 36, 48, 54], 30) := by decide +kernel
theorem dX7_layer_64 : decode cX7_layer 64 = .ok (.aload_n 0, 1) := by decide +kernel
theorem dX7_layer_65 : decode cX7_layer 65 = .ok (.iload_n 1, 1) := by decide +kernel
theorem dX7_layer_66 : decode cX7_layer 66 = .ok (.invokevirtual 193, 3) := by decide +kernel
theorem dX7_layer_69 : decode cX7_layer 69 = .ok (.ireturn, 1) := by decide +kernel
theorem dX7_layer_70 : decode cX7_layer 70 = .ok (.aload_n 0, 1) := by decide +kernel
theorem dX7_layer_71 : decode cX7_layer 71 = .ok (.aload_n 0, 1) := by decide +kernel
theorem dX7_layer_72 : decode cX7_layer 72 = .ok (.getfield 9, 3) := by decide +kernel
theorem dX7_layer_75 : decode cX7_layer 75 = .ok (.iconst 2, 1) := by decide +kernel
theorem dX7_layer_76 : decode cX7_layer 76 = .ok (.iaload, 1) := by decide +kernel
theorem dX7_layer_77 : decode cX7_layer 77 = .ok (.iload_n 1, 1) := by decide +kernel
theorem dX7_layer_78 : decode cX7_layer 78 = .ok (.invokevirtual 187, 3) := by decide +kernel
theorem dX7_layer_81 : decode cX7_layer 81 = .ok (.ireturn, 1) := by decide +kernel
theorem dX7_layer_82 : decode cX7_layer 82 = .ok (.aload_n 0, 1) := by decide +kernel
theorem dX7_layer_83 : decode cX7_layer 83 = .ok (.iload_n 1, 1) := by decide +kernel
theorem dX7_layer_84 : decode cX7_layer 84 = .ok (.invokevirtual 196, 3) := by decide +kernel
theorem dX7_layer_87 : decode cX7_layer 87 = .ok (.ireturn, 1) := by decide +kernel
theorem dX7_layer_88 : decode cX7_layer 88 = .ok (.aload_n 0, 1) := by decide +kernel
theorem dX7_layer_89 : decode cX7_layer 89 = .ok (.iload_n 1, 1) := by decide +kernel
theorem dX7_layer_90 : decode cX7_layer 90 = .ok (.invokevirtual 205, 3) := by decide +kernel
theorem dX7_layer_93 : decode cX7_layer 93 = .ok (.ireturn, 1) := by decide +kernel
theorem dX7_layer_94 : decode cX7_layer 94 = .ok (.bipush (-2), 2) := by decide +kernel
theorem dX7_layer_96 : decode cX7_layer 96 = .ok (.ireturn, 1) := by decide +kernel
theorem dX7_deductible_0 : decode cX7_deductible 0 = .ok (.iload_n 1, 1) := by decide +kernel
theorem dX7_deductible_1 : decode cX7_deductible 1 = .ok (.invokestatic 66, 3) := by decide +kernel
theorem dX7_deductible_4 : decode cX7_deductible 4 = .ok (.ifCond .eq 14, 3) := by decide +kernel
theorem dX7_deductible_7 : decode cX7_deductible 7 = .ok (.aload_n 0, 1) := by decide +kernel
theorem dX7_deductible_8 : decode cX7_deductible 8 = .ok (.getfield 9, 3) := by decide +kernel
theorem dX7_deductible_11 : decode cX7_deductible 11 = .ok (.iconst 5, 1) := by decide +kernel
theorem dX7_deductible_12 : decode cX7_deductible 12 = .ok (.iload_n 1, 1) := by decide +kernel
theorem dX7_deductible_13 : decode cX7_deductible 13 = .ok (.iadd, 1) := by decide +kernel
theorem dX7_deductible_14 : decode cX7_deductible 14 = .ok (.iaload, 1) := by decide +kernel
theorem dX7_deductible_15 : decode cX7_deductible 15 = .ok (.goto 4, 3) := by decide +kernel
theorem dX7_deductible_18 : decode cX7_deductible 18 = .ok (.iconst (-1), 1) := by decide +kernel
theorem dX7_deductible_19 : decode cX7_deductible 19 = .ok (.ireturn, 1) := by decide +kernel
theorem dX7_manyClaims_0 : decode cX7_manyClaims 0 = .ok (.iconst 0, 1) := by decide +kernel
theorem dX7_manyClaims_1 : decode cX7_manyClaims 1 = .ok (.istore_n 2, 1) := by decide +kernel
theorem dX7_manyClaims_2 : decode cX7_manyClaims 2 = .ok (.iconst 0, 1) := by decide +kernel
theorem dX7_manyClaims_3 : decode cX7_manyClaims 3 = .ok (.istore_n 3, 1) := by decide +kernel
theorem dX7_manyClaims_4 : decode cX7_manyClaims 4 = .ok (.iload_n 3, 1) := by decide +kernel
theorem dX7_manyClaims_5 : decode cX7_manyClaims 5 = .ok (.aload_n 0, 1) := by decide +kernel
theorem dX7_manyClaims_6 : decode cX7_manyClaims 6 = .ok (.getfield 9, 3) := by decide +kernel
theorem dX7_manyClaims_9 : decode cX7_manyClaims 9 = .ok (.iconst 3, 1) := by decide +kernel
theorem dX7_manyClaims_10 : decode cX7_manyClaims 10 = .ok (.iaload, 1) := by decide +kernel
theorem dX7_manyClaims_11 : decode cX7_manyClaims 11 = .ok (.if_icmp .ge 32, 3) := by decide +kernel
theorem dX7_manyClaims_14 : decode cX7_manyClaims 14 = .ok (.iload_n 2, 1) := by decide +kernel
theorem dX7_manyClaims_15 : decode cX7_manyClaims 15 = .ok (.aload_n 0, 1) := by decide +kernel
theorem dX7_manyClaims_16 : decode cX7_manyClaims 16 = .ok (.getfield 9, 3) := by decide +kernel
theorem dX7_manyClaims_19 : decode cX7_manyClaims 19 = .ok (.bipush 64, 2) := by decide +kernel
theorem dX7_manyClaims_21 : decode cX7_manyClaims 21 = .ok (.iconst 3, 1) := by decide +kernel
theorem dX7_manyClaims_22 : decode cX7_manyClaims 22 = .ok (.iload_n 3, 1) := by decide +kernel
theorem dX7_manyClaims_23 : decode cX7_manyClaims 23 = .ok (.imul, 1) := by decide +kernel
theorem dX7_manyClaims_24 : decode cX7_manyClaims 24 = .ok (.iadd, 1) := by decide +kernel
theorem dX7_manyClaims_25 : decode cX7_manyClaims 25 = .ok (.iaload, 1) := by decide +kernel
theorem dX7_manyClaims_26 : decode cX7_manyClaims 26 = .ok (.iload_n 1, 1) := by decide +kernel
theorem dX7_manyClaims_27 : decode cX7_manyClaims 27 = .ok (.if_icmp .ne 7, 3) := by decide +kernel
theorem dX7_manyClaims_30 : decode cX7_manyClaims 30 = .ok (.iconst 1, 1) := by decide +kernel
theorem dX7_manyClaims_31 : decode cX7_manyClaims 31 = .ok (.goto 4, 3) := by decide +kernel
theorem dX7_manyClaims_34 : decode cX7_manyClaims 34 = .ok (.iconst 0, 1) := by decide +kernel
theorem dX7_manyClaims_35 : decode cX7_manyClaims 35 = .ok (.iadd, 1) := by decide +kernel
theorem dX7_manyClaims_36 : decode cX7_manyClaims 36 = .ok (.istore_n 2, 1) := by decide +kernel
theorem dX7_manyClaims_37 : decode cX7_manyClaims 37 = .ok (.iinc 3 1, 3) := by decide +kernel
theorem dX7_manyClaims_40 : decode cX7_manyClaims 40 = .ok (.goto (-36), 3) := by decide +kernel
theorem dX7_manyClaims_43 : decode cX7_manyClaims 43 = .ok (.iload_n 2, 1) := by decide +kernel
theorem dX7_manyClaims_44 : decode cX7_manyClaims 44 = .ok (.ireturn, 1) := by decide +kernel
theorem dX7_lossesIn_0 : decode cX7_lossesIn 0 = .ok (.iconst 0, 1) := by decide +kernel
theorem dX7_lossesIn_1 : decode cX7_lossesIn 1 = .ok (.istore_n 2, 1) := by decide +kernel
theorem dX7_lossesIn_2 : decode cX7_lossesIn 2 = .ok (.iconst 0, 1) := by decide +kernel
theorem dX7_lossesIn_3 : decode cX7_lossesIn 3 = .ok (.istore_n 3, 1) := by decide +kernel
theorem dX7_lossesIn_4 : decode cX7_lossesIn 4 = .ok (.iload_n 3, 1) := by decide +kernel
theorem dX7_lossesIn_5 : decode cX7_lossesIn 5 = .ok (.aload_n 0, 1) := by decide +kernel
theorem dX7_lossesIn_6 : decode cX7_lossesIn 6 = .ok (.getfield 9, 3) := by decide +kernel
theorem dX7_lossesIn_9 : decode cX7_lossesIn 9 = .ok (.iconst 3, 1) := by decide +kernel
theorem dX7_lossesIn_10 : decode cX7_lossesIn 10 = .ok (.iaload, 1) := by decide +kernel
theorem dX7_lossesIn_11 : decode cX7_lossesIn 11 = .ok (.if_icmp .ge 36, 3) := by decide +kernel
theorem dX7_lossesIn_14 : decode cX7_lossesIn 14 = .ok (.iload_n 2, 1) := by decide +kernel
theorem dX7_lossesIn_15 : decode cX7_lossesIn 15 = .ok (.aload_n 0, 1) := by decide +kernel
theorem dX7_lossesIn_16 : decode cX7_lossesIn 16 = .ok (.getfield 9, 3) := by decide +kernel
theorem dX7_lossesIn_19 : decode cX7_lossesIn 19 = .ok (.bipush 64, 2) := by decide +kernel
theorem dX7_lossesIn_21 : decode cX7_lossesIn 21 = .ok (.iconst 3, 1) := by decide +kernel
theorem dX7_lossesIn_22 : decode cX7_lossesIn 22 = .ok (.iload_n 3, 1) := by decide +kernel
theorem dX7_lossesIn_23 : decode cX7_lossesIn 23 = .ok (.imul, 1) := by decide +kernel
theorem dX7_lossesIn_24 : decode cX7_lossesIn 24 = .ok (.iadd, 1) := by decide +kernel
theorem dX7_lossesIn_25 : decode cX7_lossesIn 25 = .ok (.iaload, 1) := by decide +kernel
theorem dX7_lossesIn_26 : decode cX7_lossesIn 26 = .ok (.iload_n 1, 1) := by decide +kernel
theorem dX7_lossesIn_27 : decode cX7_lossesIn 27 = .ok (.if_icmp .ne 11, 3) := by decide +kernel
theorem dX7_lossesIn_30 : decode cX7_lossesIn 30 = .ok (.aload_n 0, 1) := by decide +kernel
theorem dX7_lossesIn_31 : decode cX7_lossesIn 31 = .ok (.iload_n 3, 1) := by decide +kernel
theorem dX7_lossesIn_32 : decode cX7_lossesIn 32 = .ok (.invokevirtual 140, 3) := by decide +kernel
theorem dX7_lossesIn_35 : decode cX7_lossesIn 35 = .ok (.goto 4, 3) := by decide +kernel
theorem dX7_lossesIn_38 : decode cX7_lossesIn 38 = .ok (.iconst 0, 1) := by decide +kernel
theorem dX7_lossesIn_39 : decode cX7_lossesIn 39 = .ok (.iadd, 1) := by decide +kernel
theorem dX7_lossesIn_40 : decode cX7_lossesIn 40 = .ok (.istore_n 2, 1) := by decide +kernel
theorem dX7_lossesIn_41 : decode cX7_lossesIn 41 = .ok (.iinc 3 1, 3) := by decide +kernel
theorem dX7_lossesIn_44 : decode cX7_lossesIn 44 = .ok (.goto (-40), 3) := by decide +kernel
theorem dX7_lossesIn_47 : decode cX7_lossesIn 47 = .ok (.iload_n 2, 1) := by decide +kernel
theorem dX7_lossesIn_48 : decode cX7_lossesIn 48 = .ok (.ireturn, 1) := by decide +kernel
theorem dX7_event_0 : decode cX7_event 0 = .ok (.aload_n 0, 1) := by decide +kernel
theorem dX7_event_1 : decode cX7_event 1 = .ok (.iload_n 1, 1) := by decide +kernel
theorem dX7_event_2 : decode cX7_event 2 = .ok (.invokevirtual 75, 3) := by decide +kernel
theorem dX7_event_5 : decode cX7_event 5 = .ok (.ifCond .ne 5, 3) := by decide +kernel
theorem dX7_event_8 : decode cX7_event 8 = .ok (.iconst (-1), 1) := by decide +kernel
theorem dX7_event_9 : decode cX7_event 9 = .ok (.ireturn, 1) := by decide +kernel
theorem dX7_event_10 : decode cX7_event 10 = .ok (.iload_n 2, 1) := by decide +kernel
theorem dX7_event_11 : decode cX7_event 11 = .ok (.tableswitch 101 0 7 #[45, 55, 65, 71, 77, 83, 89, 95], 45) := by decide +kernel
theorem dX7_event_56 : decode cX7_event 56 = .ok (.aload_n 0, 1) := by decide +kernel
theorem dX7_event_57 : decode cX7_event 57 = .ok (.getfield 9, 3) := by decide +kernel
theorem dX7_event_60 : decode cX7_event 60 = .ok (.bipush 48, 2) := by decide +kernel
theorem dX7_event_62 : decode cX7_event 62 = .ok (.iload_n 1, 1) := by decide +kernel
theorem dX7_event_63 : decode cX7_event 63 = .ok (.iadd, 1) := by decide +kernel
theorem dX7_event_64 : decode cX7_event 64 = .ok (.iaload, 1) := by decide +kernel
theorem dX7_event_65 : decode cX7_event 65 = .ok (.ireturn, 1) := by decide +kernel
theorem dX7_event_66 : decode cX7_event 66 = .ok (.aload_n 0, 1) := by decide +kernel
theorem dX7_event_67 : decode cX7_event 67 = .ok (.getfield 9, 3) := by decide +kernel
theorem dX7_event_70 : decode cX7_event 70 = .ok (.bipush 56, 2) := by decide +kernel
theorem dX7_event_72 : decode cX7_event 72 = .ok (.iload_n 1, 1) := by decide +kernel
theorem dX7_event_73 : decode cX7_event 73 = .ok (.iadd, 1) := by decide +kernel
theorem dX7_event_74 : decode cX7_event 74 = .ok (.iaload, 1) := by decide +kernel
theorem dX7_event_75 : decode cX7_event 75 = .ok (.ireturn, 1) := by decide +kernel
theorem dX7_event_76 : decode cX7_event 76 = .ok (.aload_n 0, 1) := by decide +kernel
theorem dX7_event_77 : decode cX7_event 77 = .ok (.iload_n 1, 1) := by decide +kernel
theorem dX7_event_78 : decode cX7_event 78 = .ok (.invokevirtual 208, 3) := by decide +kernel
theorem dX7_event_81 : decode cX7_event 81 = .ok (.ireturn, 1) := by decide +kernel
theorem dX7_event_82 : decode cX7_event 82 = .ok (.aload_n 0, 1) := by decide +kernel
theorem dX7_event_83 : decode cX7_event 83 = .ok (.iload_n 1, 1) := by decide +kernel
theorem dX7_event_84 : decode cX7_event 84 = .ok (.invokevirtual 211, 3) := by decide +kernel
theorem dX7_event_87 : decode cX7_event 87 = .ok (.ireturn, 1) := by decide +kernel
theorem dX7_event_88 : decode cX7_event 88 = .ok (.aload_n 0, 1) := by decide +kernel
theorem dX7_event_89 : decode cX7_event 89 = .ok (.iload_n 1, 1) := by decide +kernel
theorem dX7_event_90 : decode cX7_event 90 = .ok (.invokevirtual 172, 3) := by decide +kernel
theorem dX7_event_93 : decode cX7_event 93 = .ok (.ireturn, 1) := by decide +kernel
theorem dX7_event_94 : decode cX7_event 94 = .ok (.aload_n 0, 1) := by decide +kernel
theorem dX7_event_95 : decode cX7_event 95 = .ok (.iload_n 1, 1) := by decide +kernel
theorem dX7_event_96 : decode cX7_event 96 = .ok (.invokevirtual 178, 3) := by decide +kernel
theorem dX7_event_99 : decode cX7_event 99 = .ok (.ireturn, 1) := by decide +kernel
theorem dX7_event_100 : decode cX7_event 100 = .ok (.aload_n 0, 1) := by decide +kernel
theorem dX7_event_101 : decode cX7_event 101 = .ok (.iload_n 1, 1) := by decide +kernel
theorem dX7_event_102 : decode cX7_event 102 = .ok (.invokevirtual 214, 3) := by decide +kernel
theorem dX7_event_105 : decode cX7_event 105 = .ok (.ireturn, 1) := by decide +kernel
theorem dX7_event_106 : decode cX7_event 106 = .ok (.aload_n 0, 1) := by decide +kernel
theorem dX7_event_107 : decode cX7_event 107 = .ok (.iload_n 1, 1) := by decide +kernel
theorem dX7_event_108 : decode cX7_event 108 = .ok (.invokevirtual 133, 3) := by decide +kernel
theorem dX7_event_111 : decode cX7_event 111 = .ok (.ireturn, 1) := by decide +kernel
theorem dX7_event_112 : decode cX7_event 112 = .ok (.bipush (-2), 2) := by decide +kernel
theorem dX7_event_114 : decode cX7_event 114 = .ok (.ireturn, 1) := by decide +kernel
theorem dX7_eventAt_0 : decode cX7_eventAt 0 = .ok (.aload_n 0, 1) := by decide +kernel
theorem dX7_eventAt_1 : decode cX7_eventAt 1 = .ok (.iload_n 1, 1) := by decide +kernel
theorem dX7_eventAt_2 : decode cX7_eventAt 2 = .ok (.invokevirtual 160, 3) := by decide +kernel
theorem dX7_eventAt_5 : decode cX7_eventAt 5 = .ok (.ireturn, 1) := by decide +kernel
theorem dX7_reasonOf_0 : decode cX7_reasonOf 0 = .ok (.aload_n 0, 1) := by decide +kernel
theorem dX7_reasonOf_1 : decode cX7_reasonOf 1 = .ok (.getfield 9, 3) := by decide +kernel
theorem dX7_reasonOf_4 : decode cX7_reasonOf 4 = .ok (.bipush 64, 2) := by decide +kernel
theorem dX7_reasonOf_6 : decode cX7_reasonOf 6 = .ok (.iconst 3, 1) := by decide +kernel
theorem dX7_reasonOf_7 : decode cX7_reasonOf 7 = .ok (.iload_n 1, 1) := by decide +kernel
theorem dX7_reasonOf_8 : decode cX7_reasonOf 8 = .ok (.imul, 1) := by decide +kernel
theorem dX7_reasonOf_9 : decode cX7_reasonOf 9 = .ok (.iadd, 1) := by decide +kernel
theorem dX7_reasonOf_10 : decode cX7_reasonOf 10 = .ok (.iaload, 1) := by decide +kernel
theorem dX7_reasonOf_11 : decode cX7_reasonOf 11 = .ok (.istore_n 2, 1) := by decide +kernel
theorem dX7_reasonOf_12 : decode cX7_reasonOf 12 = .ok (.aload_n 0, 1) := by decide +kernel
theorem dX7_reasonOf_13 : decode cX7_reasonOf 13 = .ok (.getfield 9, 3) := by decide +kernel
theorem dX7_reasonOf_16 : decode cX7_reasonOf 16 = .ok (.bipush 64, 2) := by decide +kernel
theorem dX7_reasonOf_18 : decode cX7_reasonOf 18 = .ok (.iconst 3, 1) := by decide +kernel
theorem dX7_reasonOf_19 : decode cX7_reasonOf 19 = .ok (.iload_n 1, 1) := by decide +kernel
theorem dX7_reasonOf_20 : decode cX7_reasonOf 20 = .ok (.imul, 1) := by decide +kernel
theorem dX7_reasonOf_21 : decode cX7_reasonOf 21 = .ok (.iadd, 1) := by decide +kernel
theorem dX7_reasonOf_22 : decode cX7_reasonOf 22 = .ok (.iconst 1, 1) := by decide +kernel
theorem dX7_reasonOf_23 : decode cX7_reasonOf 23 = .ok (.iadd, 1) := by decide +kernel
theorem dX7_reasonOf_24 : decode cX7_reasonOf 24 = .ok (.iaload, 1) := by decide +kernel
theorem dX7_reasonOf_25 : decode cX7_reasonOf 25 = .ok (.istore_n 3, 1) := by decide +kernel
theorem dX7_reasonOf_26 : decode cX7_reasonOf 26 = .ok (.aload_n 0, 1) := by decide +kernel
theorem dX7_reasonOf_27 : decode cX7_reasonOf 27 = .ok (.iload_n 1, 1) := by decide +kernel
theorem dX7_reasonOf_28 : decode cX7_reasonOf 28 = .ok (.invokevirtual 217, 3) := by decide +kernel
theorem dX7_reasonOf_31 : decode cX7_reasonOf 31 = .ok (.ifCond .ne 22, 3) := by decide +kernel
theorem dX7_reasonOf_34 : decode cX7_reasonOf 34 = .ok (.aload_n 0, 1) := by decide +kernel
theorem dX7_reasonOf_35 : decode cX7_reasonOf 35 = .ok (.aload_n 0, 1) := by decide +kernel
theorem dX7_reasonOf_36 : decode cX7_reasonOf 36 = .ok (.iload_n 2, 1) := by decide +kernel
theorem dX7_reasonOf_37 : decode cX7_reasonOf 37 = .ok (.invokevirtual 133, 3) := by decide +kernel
theorem dX7_reasonOf_40 : decode cX7_reasonOf 40 = .ok (.iload_n 3, 1) := by decide +kernel
theorem dX7_reasonOf_41 : decode cX7_reasonOf 41 = .ok (.invokevirtual 166, 3) := by decide +kernel
theorem dX7_reasonOf_44 : decode cX7_reasonOf 44 = .ok (.ifCond .ne 7, 3) := by decide +kernel
theorem dX7_reasonOf_47 : decode cX7_reasonOf 47 = .ok (.iconst 1, 1) := by decide +kernel
theorem dX7_reasonOf_48 : decode cX7_reasonOf 48 = .ok (.goto 4, 3) := by decide +kernel
theorem dX7_reasonOf_51 : decode cX7_reasonOf 51 = .ok (.iconst 2, 1) := by decide +kernel
theorem dX7_reasonOf_52 : decode cX7_reasonOf 52 = .ok (.ireturn, 1) := by decide +kernel
theorem dX7_reasonOf_53 : decode cX7_reasonOf 53 = .ok (.aload_n 0, 1) := by decide +kernel
theorem dX7_reasonOf_54 : decode cX7_reasonOf 54 = .ok (.iload_n 2, 1) := by decide +kernel
theorem dX7_reasonOf_55 : decode cX7_reasonOf 55 = .ok (.iload_n 3, 1) := by decide +kernel
theorem dX7_reasonOf_56 : decode cX7_reasonOf 56 = .ok (.invokevirtual 169, 3) := by decide +kernel
theorem dX7_reasonOf_59 : decode cX7_reasonOf 59 = .ok (.aload_n 0, 1) := by decide +kernel
theorem dX7_reasonOf_60 : decode cX7_reasonOf 60 = .ok (.iload_n 2, 1) := by decide +kernel
theorem dX7_reasonOf_61 : decode cX7_reasonOf 61 = .ok (.iload_n 3, 1) := by decide +kernel
theorem dX7_reasonOf_62 : decode cX7_reasonOf 62 = .ok (.invokevirtual 163, 3) := by decide +kernel
theorem dX7_reasonOf_65 : decode cX7_reasonOf 65 = .ok (.if_icmp .ge 5, 3) := by decide +kernel
theorem dX7_reasonOf_68 : decode cX7_reasonOf 68 = .ok (.iconst 3, 1) := by decide +kernel
theorem dX7_reasonOf_69 : decode cX7_reasonOf 69 = .ok (.ireturn, 1) := by decide +kernel
theorem dX7_reasonOf_70 : decode cX7_reasonOf 70 = .ok (.aload_n 0, 1) := by decide +kernel
theorem dX7_reasonOf_71 : decode cX7_reasonOf 71 = .ok (.iload_n 2, 1) := by decide +kernel
theorem dX7_reasonOf_72 : decode cX7_reasonOf 72 = .ok (.iload_n 3, 1) := by decide +kernel
theorem dX7_reasonOf_73 : decode cX7_reasonOf 73 = .ok (.invokevirtual 151, 3) := by decide +kernel
theorem dX7_reasonOf_76 : decode cX7_reasonOf 76 = .ok (.aload_n 0, 1) := by decide +kernel
theorem dX7_reasonOf_77 : decode cX7_reasonOf 77 = .ok (.iload_n 2, 1) := by decide +kernel
theorem dX7_reasonOf_78 : decode cX7_reasonOf 78 = .ok (.iload_n 3, 1) := by decide +kernel
theorem dX7_reasonOf_79 : decode cX7_reasonOf 79 = .ok (.invokevirtual 143, 3) := by decide +kernel
theorem dX7_reasonOf_82 : decode cX7_reasonOf 82 = .ok (.if_icmp .ge 5, 3) := by decide +kernel
theorem dX7_reasonOf_85 : decode cX7_reasonOf 85 = .ok (.iconst 4, 1) := by decide +kernel
theorem dX7_reasonOf_86 : decode cX7_reasonOf 86 = .ok (.ireturn, 1) := by decide +kernel
theorem dX7_reasonOf_87 : decode cX7_reasonOf 87 = .ok (.aload_n 0, 1) := by decide +kernel
theorem dX7_reasonOf_88 : decode cX7_reasonOf 88 = .ok (.iload_n 2, 1) := by decide +kernel
theorem dX7_reasonOf_89 : decode cX7_reasonOf 89 = .ok (.iload_n 3, 1) := by decide +kernel
theorem dX7_reasonOf_90 : decode cX7_reasonOf 90 = .ok (.invokevirtual 157, 3) := by decide +kernel
theorem dX7_reasonOf_93 : decode cX7_reasonOf 93 = .ok (.ifCond .le 7, 3) := by decide +kernel
theorem dX7_reasonOf_96 : decode cX7_reasonOf 96 = .ok (.iconst 5, 1) := by decide +kernel
theorem dX7_reasonOf_97 : decode cX7_reasonOf 97 = .ok (.goto 4, 3) := by decide +kernel
theorem dX7_reasonOf_100 : decode cX7_reasonOf 100 = .ok (.iconst 0, 1) := by decide +kernel
theorem dX7_reasonOf_101 : decode cX7_reasonOf 101 = .ok (.ireturn, 1) := by decide +kernel
theorem dX7_claim_0 : decode cX7_claim 0 = .ok (.aload_n 0, 1) := by decide +kernel
theorem dX7_claim_1 : decode cX7_claim 1 = .ok (.iload_n 1, 1) := by decide +kernel
theorem dX7_claim_2 : decode cX7_claim 2 = .ok (.invokevirtual 104, 3) := by decide +kernel
theorem dX7_claim_5 : decode cX7_claim 5 = .ok (.ifCond .ne 5, 3) := by decide +kernel
theorem dX7_claim_8 : decode cX7_claim 8 = .ok (.iconst (-1), 1) := by decide +kernel
theorem dX7_claim_9 : decode cX7_claim 9 = .ok (.ireturn, 1) := by decide +kernel
theorem dX7_claim_10 : decode cX7_claim 10 = .ok (.iload_n 2, 1) := by decide +kernel
theorem dX7_claim_11 : decode cX7_claim 11 = .ok (.iconst 0, 1) := by decide +kernel
theorem dX7_claim_12 : decode cX7_claim 12 = .ok (.iconst 2, 1) := by decide +kernel
theorem dX7_claim_13 : decode cX7_claim 13 = .ok (.invokestatic 61, 3) := by decide +kernel
theorem dX7_claim_16 : decode cX7_claim 16 = .ok (.ifCond .eq 17, 3) := by decide +kernel
theorem dX7_claim_19 : decode cX7_claim 19 = .ok (.aload_n 0, 1) := by decide +kernel
theorem dX7_claim_20 : decode cX7_claim 20 = .ok (.getfield 9, 3) := by decide +kernel
theorem dX7_claim_23 : decode cX7_claim 23 = .ok (.bipush 64, 2) := by decide +kernel
theorem dX7_claim_25 : decode cX7_claim 25 = .ok (.iconst 3, 1) := by decide +kernel
theorem dX7_claim_26 : decode cX7_claim 26 = .ok (.iload_n 1, 1) := by decide +kernel
theorem dX7_claim_27 : decode cX7_claim 27 = .ok (.imul, 1) := by decide +kernel
theorem dX7_claim_28 : decode cX7_claim 28 = .ok (.iadd, 1) := by decide +kernel
theorem dX7_claim_29 : decode cX7_claim 29 = .ok (.iload_n 2, 1) := by decide +kernel
theorem dX7_claim_30 : decode cX7_claim 30 = .ok (.iadd, 1) := by decide +kernel
theorem dX7_claim_31 : decode cX7_claim 31 = .ok (.iaload, 1) := by decide +kernel
theorem dX7_claim_32 : decode cX7_claim 32 = .ok (.ireturn, 1) := by decide +kernel
theorem dX7_claim_33 : decode cX7_claim 33 = .ok (.iload_n 2, 1) := by decide +kernel
theorem dX7_claim_34 : decode cX7_claim 34 = .ok (.iconst 3, 1) := by decide +kernel
theorem dX7_claim_35 : decode cX7_claim 35 = .ok (.if_icmp .ne 11, 3) := by decide +kernel
theorem dX7_claim_38 : decode cX7_claim 38 = .ok (.aload_n 0, 1) := by decide +kernel
theorem dX7_claim_39 : decode cX7_claim 39 = .ok (.iload_n 1, 1) := by decide +kernel
theorem dX7_claim_40 : decode cX7_claim 40 = .ok (.invokevirtual 140, 3) := by decide +kernel
theorem dX7_claim_43 : decode cX7_claim 43 = .ok (.goto 31, 3) := by decide +kernel
theorem dX7_claim_46 : decode cX7_claim 46 = .ok (.iload_n 2, 1) := by decide +kernel
theorem dX7_claim_47 : decode cX7_claim 47 = .ok (.iconst 4, 1) := by decide +kernel
theorem dX7_claim_48 : decode cX7_claim 48 = .ok (.if_icmp .ne 11, 3) := by decide +kernel
theorem dX7_claim_51 : decode cX7_claim 51 = .ok (.aload_n 0, 1) := by decide +kernel
theorem dX7_claim_52 : decode cX7_claim 52 = .ok (.iload_n 1, 1) := by decide +kernel
theorem dX7_claim_53 : decode cX7_claim 53 = .ok (.invokevirtual 217, 3) := by decide +kernel
theorem dX7_claim_56 : decode cX7_claim 56 = .ok (.goto 18, 3) := by decide +kernel
theorem dX7_claim_59 : decode cX7_claim 59 = .ok (.iload_n 2, 1) := by decide +kernel
theorem dX7_claim_60 : decode cX7_claim 60 = .ok (.iconst 5, 1) := by decide +kernel
theorem dX7_claim_61 : decode cX7_claim 61 = .ok (.if_icmp .ne 11, 3) := by decide +kernel
theorem dX7_claim_64 : decode cX7_claim 64 = .ok (.aload_n 0, 1) := by decide +kernel
theorem dX7_claim_65 : decode cX7_claim 65 = .ok (.iload_n 1, 1) := by decide +kernel
theorem dX7_claim_66 : decode cX7_claim 66 = .ok (.invokevirtual 220, 3) := by decide +kernel
theorem dX7_claim_69 : decode cX7_claim 69 = .ok (.goto 5, 3) := by decide +kernel
theorem dX7_claim_72 : decode cX7_claim 72 = .ok (.bipush (-2), 2) := by decide +kernel
theorem dX7_claim_74 : decode cX7_claim 74 = .ok (.ireturn, 1) := by decide +kernel
theorem dX7_areThere_0 : decode cX7_areThere 0 = .ok (.aload_n 0, 1) := by decide +kernel
theorem dX7_areThere_1 : decode cX7_areThere 1 = .ok (.iload_n 1, 1) := by decide +kernel
theorem dX7_areThere_2 : decode cX7_areThere 2 = .ok (.invokevirtual 75, 3) := by decide +kernel
theorem dX7_areThere_5 : decode cX7_areThere 5 = .ok (.ifCond .eq 15, 3) := by decide +kernel
theorem dX7_areThere_8 : decode cX7_areThere 8 = .ok (.aload_n 0, 1) := by decide +kernel
theorem dX7_areThere_9 : decode cX7_areThere 9 = .ok (.iload_n 2, 1) := by decide +kernel
theorem dX7_areThere_10 : decode cX7_areThere 10 = .ok (.invokevirtual 78, 3) := by decide +kernel
theorem dX7_areThere_13 : decode cX7_areThere 13 = .ok (.ifCond .eq 7, 3) := by decide +kernel
theorem dX7_areThere_16 : decode cX7_areThere 16 = .ok (.iconst 1, 1) := by decide +kernel
theorem dX7_areThere_17 : decode cX7_areThere 17 = .ok (.goto 4, 3) := by decide +kernel
theorem dX7_areThere_20 : decode cX7_areThere 20 = .ok (.iconst 0, 1) := by decide +kernel
theorem dX7_areThere_21 : decode cX7_areThere 21 = .ok (.ireturn, 1) := by decide +kernel
theorem dX7_gross_0 : decode cX7_gross 0 = .ok (.aload_n 0, 1) := by decide +kernel
theorem dX7_gross_1 : decode cX7_gross 1 = .ok (.iload_n 1, 1) := by decide +kernel
theorem dX7_gross_2 : decode cX7_gross 2 = .ok (.iload_n 2, 1) := by decide +kernel
theorem dX7_gross_3 : decode cX7_gross 3 = .ok (.invokevirtual 223, 3) := by decide +kernel
theorem dX7_gross_6 : decode cX7_gross 6 = .ok (.ifCond .eq 12, 3) := by decide +kernel
theorem dX7_gross_9 : decode cX7_gross 9 = .ok (.aload_n 0, 1) := by decide +kernel
theorem dX7_gross_10 : decode cX7_gross 10 = .ok (.iload_n 1, 1) := by decide +kernel
theorem dX7_gross_11 : decode cX7_gross 11 = .ok (.iload_n 2, 1) := by decide +kernel
theorem dX7_gross_12 : decode cX7_gross 12 = .ok (.invokevirtual 151, 3) := by decide +kernel
theorem dX7_gross_15 : decode cX7_gross 15 = .ok (.goto 4, 3) := by decide +kernel
theorem dX7_gross_18 : decode cX7_gross 18 = .ok (.iconst (-1), 1) := by decide +kernel
theorem dX7_gross_19 : decode cX7_gross 19 = .ok (.ireturn, 1) := by decide +kernel
theorem dX7_deducted_0 : decode cX7_deducted 0 = .ok (.aload_n 0, 1) := by decide +kernel
theorem dX7_deducted_1 : decode cX7_deducted 1 = .ok (.iload_n 1, 1) := by decide +kernel
theorem dX7_deducted_2 : decode cX7_deducted 2 = .ok (.iload_n 2, 1) := by decide +kernel
theorem dX7_deducted_3 : decode cX7_deducted 3 = .ok (.invokevirtual 223, 3) := by decide +kernel
theorem dX7_deducted_6 : decode cX7_deducted 6 = .ok (.ifCond .eq 12, 3) := by decide +kernel
theorem dX7_deducted_9 : decode cX7_deducted 9 = .ok (.aload_n 0, 1) := by decide +kernel
theorem dX7_deducted_10 : decode cX7_deducted 10 = .ok (.iload_n 1, 1) := by decide +kernel
theorem dX7_deducted_11 : decode cX7_deducted 11 = .ok (.iload_n 2, 1) := by decide +kernel
theorem dX7_deducted_12 : decode cX7_deducted 12 = .ok (.invokevirtual 157, 3) := by decide +kernel
theorem dX7_deducted_15 : decode cX7_deducted 15 = .ok (.goto 4, 3) := by decide +kernel
theorem dX7_deducted_18 : decode cX7_deducted 18 = .ok (.iconst (-1), 1) := by decide +kernel
theorem dX7_deducted_19 : decode cX7_deducted 19 = .ok (.ireturn, 1) := by decide +kernel
theorem dX7_paid_0 : decode cX7_paid 0 = .ok (.aload_n 0, 1) := by decide +kernel
theorem dX7_paid_1 : decode cX7_paid 1 = .ok (.iload_n 1, 1) := by decide +kernel
theorem dX7_paid_2 : decode cX7_paid 2 = .ok (.iload_n 2, 1) := by decide +kernel
theorem dX7_paid_3 : decode cX7_paid 3 = .ok (.invokevirtual 223, 3) := by decide +kernel
theorem dX7_paid_6 : decode cX7_paid 6 = .ok (.ifCond .eq 12, 3) := by decide +kernel
theorem dX7_paid_9 : decode cX7_paid 9 = .ok (.aload_n 0, 1) := by decide +kernel
theorem dX7_paid_10 : decode cX7_paid 10 = .ok (.iload_n 1, 1) := by decide +kernel
theorem dX7_paid_11 : decode cX7_paid 11 = .ok (.iload_n 2, 1) := by decide +kernel
theorem dX7_paid_12 : decode cX7_paid 12 = .ok (.invokevirtual 169, 3) := by decide +kernel
theorem dX7_paid_15 : decode cX7_paid 15 = .ok (.goto 4, 3) := by decide +kernel
theorem dX7_paid_18 : decode cX7_paid 18 = .ok (.iconst (-1), 1) := by decide +kernel
theorem dX7_paid_19 : decode cX7_paid 19 = .ok (.ireturn, 1) := by decide +kernel
theorem dX7_leftBefore_0 : decode cX7_leftBefore 0 = .ok (.aload_n 0, 1) := by decide +kernel
theorem dX7_leftBefore_1 : decode cX7_leftBefore 1 = .ok (.iload_n 1, 1) := by decide +kernel
theorem dX7_leftBefore_2 : decode cX7_leftBefore 2 = .ok (.iload_n 2, 1) := by decide +kernel
theorem dX7_leftBefore_3 : decode cX7_leftBefore 3 = .ok (.invokevirtual 223, 3) := by decide +kernel
theorem dX7_leftBefore_6 : decode cX7_leftBefore 6 = .ok (.ifCond .eq 16, 3) := by decide +kernel
theorem dX7_leftBefore_9 : decode cX7_leftBefore 9 = .ok (.aload_n 0, 1) := by decide +kernel
theorem dX7_leftBefore_10 : decode cX7_leftBefore 10 = .ok (.aload_n 0, 1) := by decide +kernel
theorem dX7_leftBefore_11 : decode cX7_leftBefore 11 = .ok (.iload_n 1, 1) := by decide +kernel
theorem dX7_leftBefore_12 : decode cX7_leftBefore 12 = .ok (.invokevirtual 133, 3) := by decide +kernel
theorem dX7_leftBefore_15 : decode cX7_leftBefore 15 = .ok (.iload_n 2, 1) := by decide +kernel
theorem dX7_leftBefore_16 : decode cX7_leftBefore 16 = .ok (.invokevirtual 166, 3) := by decide +kernel
theorem dX7_leftBefore_19 : decode cX7_leftBefore 19 = .ok (.goto 4, 3) := by decide +kernel
theorem dX7_leftBefore_22 : decode cX7_leftBefore 22 = .ok (.iconst (-1), 1) := by decide +kernel
theorem dX7_leftBefore_23 : decode cX7_leftBefore 23 = .ok (.ireturn, 1) := by decide +kernel
theorem dX7_borne_0 : decode cX7_borne 0 = .ok (.aload_n 0, 1) := by decide +kernel
theorem dX7_borne_1 : decode cX7_borne 1 = .ok (.iload_n 1, 1) := by decide +kernel
theorem dX7_borne_2 : decode cX7_borne 2 = .ok (.invokevirtual 75, 3) := by decide +kernel
theorem dX7_borne_5 : decode cX7_borne 5 = .ok (.ifCond .eq 20, 3) := by decide +kernel
theorem dX7_borne_8 : decode cX7_borne 8 = .ok (.aload_n 0, 1) := by decide +kernel
theorem dX7_borne_9 : decode cX7_borne 9 = .ok (.iload_n 2, 1) := by decide +kernel
theorem dX7_borne_10 : decode cX7_borne 10 = .ok (.invokevirtual 202, 3) := by decide +kernel
theorem dX7_borne_13 : decode cX7_borne 13 = .ok (.ifCond .eq 12, 3) := by decide +kernel
theorem dX7_borne_16 : decode cX7_borne 16 = .ok (.aload_n 0, 1) := by decide +kernel
theorem dX7_borne_17 : decode cX7_borne 17 = .ok (.iload_n 1, 1) := by decide +kernel
theorem dX7_borne_18 : decode cX7_borne 18 = .ok (.iload_n 2, 1) := by decide +kernel
theorem dX7_borne_19 : decode cX7_borne 19 = .ok (.invokevirtual 190, 3) := by decide +kernel
theorem dX7_borne_22 : decode cX7_borne 22 = .ok (.goto 4, 3) := by decide +kernel
theorem dX7_borne_25 : decode cX7_borne 25 = .ok (.iconst (-1), 1) := by decide +kernel
theorem dX7_borne_26 : decode cX7_borne 26 = .ok (.ireturn, 1) := by decide +kernel
theorem dX7_returned_0 : decode cX7_returned 0 = .ok (.aload_n 0, 1) := by decide +kernel
theorem dX7_returned_1 : decode cX7_returned 1 = .ok (.iload_n 1, 1) := by decide +kernel
theorem dX7_returned_2 : decode cX7_returned 2 = .ok (.invokevirtual 75, 3) := by decide +kernel
theorem dX7_returned_5 : decode cX7_returned 5 = .ok (.ifCond .eq 17, 3) := by decide +kernel
theorem dX7_returned_8 : decode cX7_returned 8 = .ok (.iload_n 2, 1) := by decide +kernel
theorem dX7_returned_9 : decode cX7_returned 9 = .ok (.iconst 0, 1) := by decide +kernel
theorem dX7_returned_10 : decode cX7_returned 10 = .ok (.aload_n 0, 1) := by decide +kernel
theorem dX7_returned_11 : decode cX7_returned 11 = .ok (.getfield 9, 3) := by decide +kernel
theorem dX7_returned_14 : decode cX7_returned 14 = .ok (.iconst 1, 1) := by decide +kernel
theorem dX7_returned_15 : decode cX7_returned 15 = .ok (.iaload, 1) := by decide +kernel
theorem dX7_returned_16 : decode cX7_returned 16 = .ok (.invokestatic 61, 3) := by decide +kernel
theorem dX7_returned_19 : decode cX7_returned 19 = .ok (.ifCond .ne 5, 3) := by decide +kernel
theorem dX7_returned_22 : decode cX7_returned 22 = .ok (.iconst (-1), 1) := by decide +kernel
theorem dX7_returned_23 : decode cX7_returned 23 = .ok (.ireturn, 1) := by decide +kernel
theorem dX7_returned_24 : decode cX7_returned 24 = .ok (.iload_n 2, 1) := by decide +kernel
theorem dX7_returned_25 : decode cX7_returned 25 = .ok (.aload_n 0, 1) := by decide +kernel
theorem dX7_returned_26 : decode cX7_returned 26 = .ok (.getfield 9, 3) := by decide +kernel
theorem dX7_returned_29 : decode cX7_returned 29 = .ok (.iconst 1, 1) := by decide +kernel
theorem dX7_returned_30 : decode cX7_returned 30 = .ok (.iaload, 1) := by decide +kernel
theorem dX7_returned_31 : decode cX7_returned 31 = .ok (.if_icmp .ge 12, 3) := by decide +kernel
theorem dX7_returned_34 : decode cX7_returned 34 = .ok (.aload_n 0, 1) := by decide +kernel
theorem dX7_returned_35 : decode cX7_returned 35 = .ok (.iload_n 1, 1) := by decide +kernel
theorem dX7_returned_36 : decode cX7_returned 36 = .ok (.iload_n 2, 1) := by decide +kernel
theorem dX7_returned_37 : decode cX7_returned 37 = .ok (.invokevirtual 190, 3) := by decide +kernel
theorem dX7_returned_40 : decode cX7_returned 40 = .ok (.goto 8, 3) := by decide +kernel
theorem dX7_returned_43 : decode cX7_returned 43 = .ok (.aload_n 0, 1) := by decide +kernel
theorem dX7_returned_44 : decode cX7_returned 44 = .ok (.iload_n 1, 1) := by decide +kernel
theorem dX7_returned_45 : decode cX7_returned 45 = .ok (.invokevirtual 214, 3) := by decide +kernel
theorem dX7_returned_48 : decode cX7_returned 48 = .ok (.istore_n 3, 1) := by decide +kernel
theorem dX7_returned_49 : decode cX7_returned 49 = .ok (.aload_n 0, 1) := by decide +kernel
theorem dX7_returned_50 : decode cX7_returned 50 = .ok (.getfield 9, 3) := by decide +kernel
theorem dX7_returned_53 : decode cX7_returned 53 = .ok (.bipush 56, 2) := by decide +kernel
theorem dX7_returned_55 : decode cX7_returned 55 = .ok (.iload_n 1, 1) := by decide +kernel
theorem dX7_returned_56 : decode cX7_returned 56 = .ok (.iadd, 1) := by decide +kernel
theorem dX7_returned_57 : decode cX7_returned 57 = .ok (.iaload, 1) := by decide +kernel
theorem dX7_returned_58 : decode cX7_returned 58 = .ok (.istore 4, 2) := by decide +kernel
theorem dX7_returned_60 : decode cX7_returned 60 = .ok (.aload_n 0, 1) := by decide +kernel
theorem dX7_returned_61 : decode cX7_returned 61 = .ok (.getfield 9, 3) := by decide +kernel
theorem dX7_returned_64 : decode cX7_returned 64 = .ok (.bipush 56, 2) := by decide +kernel
theorem dX7_returned_66 : decode cX7_returned 66 = .ok (.iload_n 1, 1) := by decide +kernel
theorem dX7_returned_67 : decode cX7_returned 67 = .ok (.iadd, 1) := by decide +kernel
theorem dX7_returned_68 : decode cX7_returned 68 = .ok (.iconst 0, 1) := by decide +kernel
theorem dX7_returned_69 : decode cX7_returned 69 = .ok (.iastore, 1) := by decide +kernel
theorem dX7_returned_70 : decode cX7_returned 70 = .ok (.iload_n 2, 1) := by decide +kernel
theorem dX7_returned_71 : decode cX7_returned 71 = .ok (.aload_n 0, 1) := by decide +kernel
theorem dX7_returned_72 : decode cX7_returned 72 = .ok (.getfield 9, 3) := by decide +kernel
theorem dX7_returned_75 : decode cX7_returned 75 = .ok (.iconst 1, 1) := by decide +kernel
theorem dX7_returned_76 : decode cX7_returned 76 = .ok (.iaload, 1) := by decide +kernel
theorem dX7_returned_77 : decode cX7_returned 77 = .ok (.if_icmp .ge 12, 3) := by decide +kernel
theorem dX7_returned_80 : decode cX7_returned 80 = .ok (.aload_n 0, 1) := by decide +kernel
theorem dX7_returned_81 : decode cX7_returned 81 = .ok (.iload_n 1, 1) := by decide +kernel
theorem dX7_returned_82 : decode cX7_returned 82 = .ok (.iload_n 2, 1) := by decide +kernel
theorem dX7_returned_83 : decode cX7_returned 83 = .ok (.invokevirtual 190, 3) := by decide +kernel
theorem dX7_returned_86 : decode cX7_returned 86 = .ok (.goto 8, 3) := by decide +kernel
theorem dX7_returned_89 : decode cX7_returned 89 = .ok (.aload_n 0, 1) := by decide +kernel
theorem dX7_returned_90 : decode cX7_returned 90 = .ok (.iload_n 1, 1) := by decide +kernel
theorem dX7_returned_91 : decode cX7_returned 91 = .ok (.invokevirtual 214, 3) := by decide +kernel
theorem dX7_returned_94 : decode cX7_returned 94 = .ok (.istore 5, 2) := by decide +kernel
theorem dX7_returned_96 : decode cX7_returned 96 = .ok (.aload_n 0, 1) := by decide +kernel
theorem dX7_returned_97 : decode cX7_returned 97 = .ok (.getfield 9, 3) := by decide +kernel
theorem dX7_returned_100 : decode cX7_returned 100 = .ok (.bipush 56, 2) := by decide +kernel
theorem dX7_returned_102 : decode cX7_returned 102 = .ok (.iload_n 1, 1) := by decide +kernel
theorem dX7_returned_103 : decode cX7_returned 103 = .ok (.iadd, 1) := by decide +kernel
theorem dX7_returned_104 : decode cX7_returned 104 = .ok (.iload 4, 2) := by decide +kernel
theorem dX7_returned_106 : decode cX7_returned 106 = .ok (.iastore, 1) := by decide +kernel
theorem dX7_returned_107 : decode cX7_returned 107 = .ok (.iload 5, 2) := by decide +kernel
theorem dX7_returned_109 : decode cX7_returned 109 = .ok (.iload_n 3, 1) := by decide +kernel
theorem dX7_returned_110 : decode cX7_returned 110 = .ok (.isub, 1) := by decide +kernel
theorem dX7_returned_111 : decode cX7_returned 111 = .ok (.ireturn, 1) := by decide +kernel
theorem dX7_place_0 : decode cX7_place 0 = .ok (.aload_n 0, 1) := by decide +kernel
theorem dX7_place_1 : decode cX7_place 1 = .ok (.iload_n 1, 1) := by decide +kernel
theorem dX7_place_2 : decode cX7_place 2 = .ok (.invokevirtual 75, 3) := by decide +kernel
theorem dX7_place_5 : decode cX7_place 5 = .ok (.ifCond .ne 5, 3) := by decide +kernel
theorem dX7_place_8 : decode cX7_place 8 = .ok (.iconst (-1), 1) := by decide +kernel
theorem dX7_place_9 : decode cX7_place 9 = .ok (.ireturn, 1) := by decide +kernel
theorem dX7_place_10 : decode cX7_place 10 = .ok (.iconst 0, 1) := by decide +kernel
theorem dX7_place_11 : decode cX7_place 11 = .ok (.istore_n 2, 1) := by decide +kernel
theorem dX7_place_12 : decode cX7_place 12 = .ok (.iconst 0, 1) := by decide +kernel
theorem dX7_place_13 : decode cX7_place 13 = .ok (.istore_n 3, 1) := by decide +kernel
theorem dX7_place_14 : decode cX7_place 14 = .ok (.iload_n 3, 1) := by decide +kernel
theorem dX7_place_15 : decode cX7_place 15 = .ok (.aload_n 0, 1) := by decide +kernel
theorem dX7_place_16 : decode cX7_place 16 = .ok (.getfield 9, 3) := by decide +kernel
theorem dX7_place_19 : decode cX7_place 19 = .ok (.iconst 1, 1) := by decide +kernel
theorem dX7_place_20 : decode cX7_place 20 = .ok (.iaload, 1) := by decide +kernel
theorem dX7_place_21 : decode cX7_place 21 = .ok (.if_icmp .ge 26, 3) := by decide +kernel
theorem dX7_place_24 : decode cX7_place 24 = .ok (.aload_n 0, 1) := by decide +kernel
theorem dX7_place_25 : decode cX7_place 25 = .ok (.iload_n 1, 1) := by decide +kernel
theorem dX7_place_26 : decode cX7_place 26 = .ok (.iload_n 3, 1) := by decide +kernel
theorem dX7_place_27 : decode cX7_place 27 = .ok (.invokevirtual 190, 3) := by decide +kernel
theorem dX7_place_30 : decode cX7_place 30 = .ok (.ifCond .le 9, 3) := by decide +kernel
theorem dX7_place_33 : decode cX7_place 33 = .ok (.iload_n 3, 1) := by decide +kernel
theorem dX7_place_34 : decode cX7_place 34 = .ok (.iconst 1, 1) := by decide +kernel
theorem dX7_place_35 : decode cX7_place 35 = .ok (.iadd, 1) := by decide +kernel
theorem dX7_place_36 : decode cX7_place 36 = .ok (.goto 4, 3) := by decide +kernel
theorem dX7_place_39 : decode cX7_place 39 = .ok (.iload_n 2, 1) := by decide +kernel
theorem dX7_place_40 : decode cX7_place 40 = .ok (.istore_n 2, 1) := by decide +kernel
theorem dX7_place_41 : decode cX7_place 41 = .ok (.iinc 3 1, 3) := by decide +kernel
theorem dX7_place_44 : decode cX7_place 44 = .ok (.goto (-30), 3) := by decide +kernel
theorem dX7_place_47 : decode cX7_place 47 = .ok (.iload_n 2, 1) := by decide +kernel
theorem dX7_place_48 : decode cX7_place 48 = .ok (.ireturn, 1) := by decide +kernel
theorem dX7_worst_0 : decode cX7_worst 0 = .ok (.bipush (-4), 2) := by decide +kernel
theorem dX7_worst_2 : decode cX7_worst 2 = .ok (.istore_n 1, 1) := by decide +kernel
theorem dX7_worst_3 : decode cX7_worst 3 = .ok (.iconst 0, 1) := by decide +kernel
theorem dX7_worst_4 : decode cX7_worst 4 = .ok (.istore_n 2, 1) := by decide +kernel
theorem dX7_worst_5 : decode cX7_worst 5 = .ok (.iload_n 2, 1) := by decide +kernel
theorem dX7_worst_6 : decode cX7_worst 6 = .ok (.aload_n 0, 1) := by decide +kernel
theorem dX7_worst_7 : decode cX7_worst 7 = .ok (.getfield 9, 3) := by decide +kernel
theorem dX7_worst_10 : decode cX7_worst 10 = .ok (.iconst 2, 1) := by decide +kernel
theorem dX7_worst_11 : decode cX7_worst 11 = .ok (.iaload, 1) := by decide +kernel
theorem dX7_worst_12 : decode cX7_worst 12 = .ok (.if_icmp .ge 38, 3) := by decide +kernel
theorem dX7_worst_15 : decode cX7_worst 15 = .ok (.iload_n 1, 1) := by decide +kernel
theorem dX7_worst_16 : decode cX7_worst 16 = .ok (.bipush (-4), 2) := by decide +kernel
theorem dX7_worst_18 : decode cX7_worst 18 = .ok (.if_icmp .eq 20, 3) := by decide +kernel
theorem dX7_worst_21 : decode cX7_worst 21 = .ok (.aload_n 0, 1) := by decide +kernel
theorem dX7_worst_22 : decode cX7_worst 22 = .ok (.aload_n 0, 1) := by decide +kernel
theorem dX7_worst_23 : decode cX7_worst 23 = .ok (.iload_n 2, 1) := by decide +kernel
theorem dX7_worst_24 : decode cX7_worst 24 = .ok (.invokevirtual 160, 3) := by decide +kernel
theorem dX7_worst_27 : decode cX7_worst 27 = .ok (.invokevirtual 178, 3) := by decide +kernel
theorem dX7_worst_30 : decode cX7_worst 30 = .ok (.aload_n 0, 1) := by decide +kernel
theorem dX7_worst_31 : decode cX7_worst 31 = .ok (.iload_n 1, 1) := by decide +kernel
theorem dX7_worst_32 : decode cX7_worst 32 = .ok (.invokevirtual 178, 3) := by decide +kernel
theorem dX7_worst_35 : decode cX7_worst 35 = .ok (.if_icmp .le 9, 3) := by decide +kernel
theorem dX7_worst_38 : decode cX7_worst 38 = .ok (.aload_n 0, 1) := by decide +kernel
theorem dX7_worst_39 : decode cX7_worst 39 = .ok (.iload_n 2, 1) := by decide +kernel
theorem dX7_worst_40 : decode cX7_worst 40 = .ok (.invokevirtual 160, 3) := by decide +kernel
theorem dX7_worst_43 : decode cX7_worst 43 = .ok (.istore_n 1, 1) := by decide +kernel
theorem dX7_worst_44 : decode cX7_worst 44 = .ok (.iinc 2 1, 3) := by decide +kernel
theorem dX7_worst_47 : decode cX7_worst 47 = .ok (.goto (-42), 3) := by decide +kernel
theorem dX7_worst_50 : decode cX7_worst 50 = .ok (.iload_n 1, 1) := by decide +kernel
theorem dX7_worst_51 : decode cX7_worst 51 = .ok (.ireturn, 1) := by decide +kernel
theorem dX7_allPaid_0 : decode cX7_allPaid 0 = .ok (.iconst 0, 1) := by decide +kernel
theorem dX7_allPaid_1 : decode cX7_allPaid 1 = .ok (.istore_n 1, 1) := by decide +kernel
theorem dX7_allPaid_2 : decode cX7_allPaid 2 = .ok (.iconst 0, 1) := by decide +kernel
theorem dX7_allPaid_3 : decode cX7_allPaid 3 = .ok (.istore_n 2, 1) := by decide +kernel
theorem dX7_allPaid_4 : decode cX7_allPaid 4 = .ok (.iload_n 2, 1) := by decide +kernel
theorem dX7_allPaid_5 : decode cX7_allPaid 5 = .ok (.aload_n 0, 1) := by decide +kernel
theorem dX7_allPaid_6 : decode cX7_allPaid 6 = .ok (.getfield 9, 3) := by decide +kernel
theorem dX7_allPaid_9 : decode cX7_allPaid 9 = .ok (.iconst 0, 1) := by decide +kernel
theorem dX7_allPaid_10 : decode cX7_allPaid 10 = .ok (.iaload, 1) := by decide +kernel
theorem dX7_allPaid_11 : decode cX7_allPaid 11 = .ok (.if_icmp .ge 17, 3) := by decide +kernel
theorem dX7_allPaid_14 : decode cX7_allPaid 14 = .ok (.iload_n 1, 1) := by decide +kernel
theorem dX7_allPaid_15 : decode cX7_allPaid 15 = .ok (.aload_n 0, 1) := by decide +kernel
theorem dX7_allPaid_16 : decode cX7_allPaid 16 = .ok (.iload_n 2, 1) := by decide +kernel
theorem dX7_allPaid_17 : decode cX7_allPaid 17 = .ok (.invokevirtual 199, 3) := by decide +kernel
theorem dX7_allPaid_20 : decode cX7_allPaid 20 = .ok (.iadd, 1) := by decide +kernel
theorem dX7_allPaid_21 : decode cX7_allPaid 21 = .ok (.istore_n 1, 1) := by decide +kernel
theorem dX7_allPaid_22 : decode cX7_allPaid 22 = .ok (.iinc 2 1, 3) := by decide +kernel
theorem dX7_allPaid_25 : decode cX7_allPaid 25 = .ok (.goto (-21), 3) := by decide +kernel
theorem dX7_allPaid_28 : decode cX7_allPaid 28 = .ok (.iload_n 1, 1) := by decide +kernel
theorem dX7_allPaid_29 : decode cX7_allPaid 29 = .ok (.ireturn, 1) := by decide +kernel
theorem dX7_allDeducted_0 : decode cX7_allDeducted 0 = .ok (.iconst 0, 1) := by decide +kernel
theorem dX7_allDeducted_1 : decode cX7_allDeducted 1 = .ok (.istore_n 1, 1) := by decide +kernel
theorem dX7_allDeducted_2 : decode cX7_allDeducted 2 = .ok (.iconst 0, 1) := by decide +kernel
theorem dX7_allDeducted_3 : decode cX7_allDeducted 3 = .ok (.istore_n 2, 1) := by decide +kernel
theorem dX7_allDeducted_4 : decode cX7_allDeducted 4 = .ok (.iload_n 2, 1) := by decide +kernel
theorem dX7_allDeducted_5 : decode cX7_allDeducted 5 = .ok (.aload_n 0, 1) := by decide +kernel
theorem dX7_allDeducted_6 : decode cX7_allDeducted 6 = .ok (.getfield 9, 3) := by decide +kernel
theorem dX7_allDeducted_9 : decode cX7_allDeducted 9 = .ok (.iconst 2, 1) := by decide +kernel
theorem dX7_allDeducted_10 : decode cX7_allDeducted 10 = .ok (.iaload, 1) := by decide +kernel
theorem dX7_allDeducted_11 : decode cX7_allDeducted 11 = .ok (.if_icmp .ge 36, 3) := by decide +kernel
theorem dX7_allDeducted_14 : decode cX7_allDeducted 14 = .ok (.iconst 0, 1) := by decide +kernel
theorem dX7_allDeducted_15 : decode cX7_allDeducted 15 = .ok (.istore_n 3, 1) := by decide +kernel
theorem dX7_allDeducted_16 : decode cX7_allDeducted 16 = .ok (.iload_n 3, 1) := by decide +kernel
theorem dX7_allDeducted_17 : decode cX7_allDeducted 17 = .ok (.aload_n 0, 1) := by decide +kernel
theorem dX7_allDeducted_18 : decode cX7_allDeducted 18 = .ok (.getfield 9, 3) := by decide +kernel
theorem dX7_allDeducted_21 : decode cX7_allDeducted 21 = .ok (.iconst 0, 1) := by decide +kernel
theorem dX7_allDeducted_22 : decode cX7_allDeducted 22 = .ok (.iaload, 1) := by decide +kernel
theorem dX7_allDeducted_23 : decode cX7_allDeducted 23 = .ok (.if_icmp .ge 18, 3) := by decide +kernel
theorem dX7_allDeducted_26 : decode cX7_allDeducted 26 = .ok (.iload_n 1, 1) := by decide +kernel
theorem dX7_allDeducted_27 : decode cX7_allDeducted 27 = .ok (.aload_n 0, 1) := by decide +kernel
theorem dX7_allDeducted_28 : decode cX7_allDeducted 28 = .ok (.iload_n 2, 1) := by decide +kernel
theorem dX7_allDeducted_29 : decode cX7_allDeducted 29 = .ok (.iload_n 3, 1) := by decide +kernel
theorem dX7_allDeducted_30 : decode cX7_allDeducted 30 = .ok (.invokevirtual 157, 3) := by decide +kernel
theorem dX7_allDeducted_33 : decode cX7_allDeducted 33 = .ok (.iadd, 1) := by decide +kernel
theorem dX7_allDeducted_34 : decode cX7_allDeducted 34 = .ok (.istore_n 1, 1) := by decide +kernel
theorem dX7_allDeducted_35 : decode cX7_allDeducted 35 = .ok (.iinc 3 1, 3) := by decide +kernel
theorem dX7_allDeducted_38 : decode cX7_allDeducted 38 = .ok (.goto (-22), 3) := by decide +kernel
theorem dX7_allDeducted_41 : decode cX7_allDeducted 41 = .ok (.iinc 2 1, 3) := by decide +kernel
theorem dX7_allDeducted_44 : decode cX7_allDeducted 44 = .ok (.goto (-40), 3) := by decide +kernel
theorem dX7_allDeducted_47 : decode cX7_allDeducted 47 = .ok (.iload_n 1, 1) := by decide +kernel
theorem dX7_allDeducted_48 : decode cX7_allDeducted 48 = .ok (.ireturn, 1) := by decide +kernel
theorem dX7_premiums_0 : decode cX7_premiums 0 = .ok (.iconst 0, 1) := by decide +kernel
theorem dX7_premiums_1 : decode cX7_premiums 1 = .ok (.istore_n 3, 1) := by decide +kernel
theorem dX7_premiums_2 : decode cX7_premiums 2 = .ok (.iconst 0, 1) := by decide +kernel
theorem dX7_premiums_3 : decode cX7_premiums 3 = .ok (.istore 4, 2) := by decide +kernel
theorem dX7_premiums_5 : decode cX7_premiums 5 = .ok (.iload 4, 2) := by decide +kernel
theorem dX7_premiums_7 : decode cX7_premiums 7 = .ok (.iload_n 2, 1) := by decide +kernel
theorem dX7_premiums_8 : decode cX7_premiums 8 = .ok (.if_icmp .ge 25, 3) := by decide +kernel
theorem dX7_premiums_11 : decode cX7_premiums 11 = .ok (.iload_n 3, 1) := by decide +kernel
theorem dX7_premiums_12 : decode cX7_premiums 12 = .ok (.aload_n 0, 1) := by decide +kernel
theorem dX7_premiums_13 : decode cX7_premiums 13 = .ok (.getfield 9, 3) := by decide +kernel
theorem dX7_premiums_16 : decode cX7_premiums 16 = .ok (.iload_n 1, 1) := by decide +kernel
theorem dX7_premiums_17 : decode cX7_premiums 17 = .ok (.iconst 4, 1) := by decide +kernel
theorem dX7_premiums_18 : decode cX7_premiums 18 = .ok (.iload 4, 2) := by decide +kernel
theorem dX7_premiums_20 : decode cX7_premiums 20 = .ok (.imul, 1) := by decide +kernel
theorem dX7_premiums_21 : decode cX7_premiums 21 = .ok (.iadd, 1) := by decide +kernel
theorem dX7_premiums_22 : decode cX7_premiums 22 = .ok (.iconst 2, 1) := by decide +kernel
theorem dX7_premiums_23 : decode cX7_premiums 23 = .ok (.iadd, 1) := by decide +kernel
theorem dX7_premiums_24 : decode cX7_premiums 24 = .ok (.iaload, 1) := by decide +kernel
theorem dX7_premiums_25 : decode cX7_premiums 25 = .ok (.iadd, 1) := by decide +kernel
theorem dX7_premiums_26 : decode cX7_premiums 26 = .ok (.istore_n 3, 1) := by decide +kernel
theorem dX7_premiums_27 : decode cX7_premiums 27 = .ok (.iinc 4 1, 3) := by decide +kernel
theorem dX7_premiums_30 : decode cX7_premiums 30 = .ok (.goto (-25), 3) := by decide +kernel
theorem dX7_premiums_33 : decode cX7_premiums 33 = .ok (.iload_n 3, 1) := by decide +kernel
theorem dX7_premiums_34 : decode cX7_premiums 34 = .ok (.ireturn, 1) := by decide +kernel
theorem dX7_layerPremiums_0 : decode cX7_layerPremiums 0 = .ok (.aload_n 0, 1) := by decide +kernel
theorem dX7_layerPremiums_1 : decode cX7_layerPremiums 1 = .ok (.bipush 32, 2) := by decide +kernel
theorem dX7_layerPremiums_3 : decode cX7_layerPremiums 3 = .ok (.aload_n 0, 1) := by decide +kernel
theorem dX7_layerPremiums_4 : decode cX7_layerPremiums 4 = .ok (.getfield 9, 3) := by decide +kernel
theorem dX7_layerPremiums_7 : decode cX7_layerPremiums 7 = .ok (.iconst 1, 1) := by decide +kernel
theorem dX7_layerPremiums_8 : decode cX7_layerPremiums 8 = .ok (.iaload, 1) := by decide +kernel
theorem dX7_layerPremiums_9 : decode cX7_layerPremiums 9 = .ok (.invokevirtual 226, 3) := by decide +kernel
theorem dX7_layerPremiums_12 : decode cX7_layerPremiums 12 = .ok (.istore_n 1, 1) := by decide +kernel
theorem dX7_layerPremiums_13 : decode cX7_layerPremiums 13 = .ok (.iconst 0, 1) := by decide +kernel
theorem dX7_layerPremiums_14 : decode cX7_layerPremiums 14 = .ok (.istore_n 2, 1) := by decide +kernel
theorem dX7_layerPremiums_15 : decode cX7_layerPremiums 15 = .ok (.iload_n 2, 1) := by decide +kernel
theorem dX7_layerPremiums_16 : decode cX7_layerPremiums 16 = .ok (.aload_n 0, 1) := by decide +kernel
theorem dX7_layerPremiums_17 : decode cX7_layerPremiums 17 = .ok (.getfield 9, 3) := by decide +kernel
theorem dX7_layerPremiums_20 : decode cX7_layerPremiums 20 = .ok (.iconst 1, 1) := by decide +kernel
theorem dX7_layerPremiums_21 : decode cX7_layerPremiums 21 = .ok (.iaload, 1) := by decide +kernel
theorem dX7_layerPremiums_22 : decode cX7_layerPremiums 22 = .ok (.if_icmp .ge 17, 3) := by decide +kernel
theorem dX7_layerPremiums_25 : decode cX7_layerPremiums 25 = .ok (.iload_n 1, 1) := by decide +kernel
theorem dX7_layerPremiums_26 : decode cX7_layerPremiums 26 = .ok (.aload_n 0, 1) := by decide +kernel
theorem dX7_layerPremiums_27 : decode cX7_layerPremiums 27 = .ok (.iload_n 2, 1) := by decide +kernel
theorem dX7_layerPremiums_28 : decode cX7_layerPremiums 28 = .ok (.invokevirtual 205, 3) := by decide +kernel
theorem dX7_layerPremiums_31 : decode cX7_layerPremiums 31 = .ok (.iadd, 1) := by decide +kernel
theorem dX7_layerPremiums_32 : decode cX7_layerPremiums 32 = .ok (.istore_n 1, 1) := by decide +kernel
theorem dX7_layerPremiums_33 : decode cX7_layerPremiums 33 = .ok (.iinc 2 1, 3) := by decide +kernel
theorem dX7_layerPremiums_36 : decode cX7_layerPremiums 36 = .ok (.goto (-21), 3) := by decide +kernel
theorem dX7_layerPremiums_39 : decode cX7_layerPremiums 39 = .ok (.iload_n 1, 1) := by decide +kernel
theorem dX7_layerPremiums_40 : decode cX7_layerPremiums 40 = .ok (.ireturn, 1) := by decide +kernel
theorem dX7_overEvents_0 : decode cX7_overEvents 0 = .ok (.iconst 0, 1) := by decide +kernel
theorem dX7_overEvents_1 : decode cX7_overEvents 1 = .ok (.istore_n 2, 1) := by decide +kernel
theorem dX7_overEvents_2 : decode cX7_overEvents 2 = .ok (.iconst 0, 1) := by decide +kernel
theorem dX7_overEvents_3 : decode cX7_overEvents 3 = .ok (.istore_n 3, 1) := by decide +kernel
theorem dX7_overEvents_4 : decode cX7_overEvents 4 = .ok (.iload_n 3, 1) := by decide +kernel
theorem dX7_overEvents_5 : decode cX7_overEvents 5 = .ok (.aload_n 0, 1) := by decide +kernel
theorem dX7_overEvents_6 : decode cX7_overEvents 6 = .ok (.getfield 9, 3) := by decide +kernel
theorem dX7_overEvents_9 : decode cX7_overEvents 9 = .ok (.iconst 2, 1) := by decide +kernel
theorem dX7_overEvents_10 : decode cX7_overEvents 10 = .ok (.iaload, 1) := by decide +kernel
theorem dX7_overEvents_11 : decode cX7_overEvents 11 = .ok (.if_icmp .ge 42, 3) := by decide +kernel
theorem dX7_overEvents_14 : decode cX7_overEvents 14 = .ok (.iload_n 2, 1) := by decide +kernel
theorem dX7_overEvents_15 : decode cX7_overEvents 15 = .ok (.iload_n 1, 1) := by decide +kernel
theorem dX7_overEvents_16 : decode cX7_overEvents 16 = .ok (.ifCond .ne 11, 3) := by decide +kernel
theorem dX7_overEvents_19 : decode cX7_overEvents 19 = .ok (.aload_n 0, 1) := by decide +kernel
theorem dX7_overEvents_20 : decode cX7_overEvents 20 = .ok (.iload_n 3, 1) := by decide +kernel
theorem dX7_overEvents_21 : decode cX7_overEvents 21 = .ok (.invokevirtual 211, 3) := by decide +kernel
theorem dX7_overEvents_24 : decode cX7_overEvents 24 = .ok (.goto 21, 3) := by decide +kernel
theorem dX7_overEvents_27 : decode cX7_overEvents 27 = .ok (.iload_n 1, 1) := by decide +kernel
theorem dX7_overEvents_28 : decode cX7_overEvents 28 = .ok (.iconst 3, 1) := by decide +kernel
theorem dX7_overEvents_29 : decode cX7_overEvents 29 = .ok (.if_icmp .ne 11, 3) := by decide +kernel
theorem dX7_overEvents_32 : decode cX7_overEvents 32 = .ok (.aload_n 0, 1) := by decide +kernel
theorem dX7_overEvents_33 : decode cX7_overEvents 33 = .ok (.iload_n 3, 1) := by decide +kernel
theorem dX7_overEvents_34 : decode cX7_overEvents 34 = .ok (.invokevirtual 178, 3) := by decide +kernel
theorem dX7_overEvents_37 : decode cX7_overEvents 37 = .ok (.goto 8, 3) := by decide +kernel
theorem dX7_overEvents_40 : decode cX7_overEvents 40 = .ok (.aload_n 0, 1) := by decide +kernel
theorem dX7_overEvents_41 : decode cX7_overEvents 41 = .ok (.iload_n 3, 1) := by decide +kernel
theorem dX7_overEvents_42 : decode cX7_overEvents 42 = .ok (.invokevirtual 214, 3) := by decide +kernel
theorem dX7_overEvents_45 : decode cX7_overEvents 45 = .ok (.iadd, 1) := by decide +kernel
theorem dX7_overEvents_46 : decode cX7_overEvents 46 = .ok (.istore_n 2, 1) := by decide +kernel
theorem dX7_overEvents_47 : decode cX7_overEvents 47 = .ok (.iinc 3 1, 3) := by decide +kernel
theorem dX7_overEvents_50 : decode cX7_overEvents 50 = .ok (.goto (-46), 3) := by decide +kernel
theorem dX7_overEvents_53 : decode cX7_overEvents 53 = .ok (.iload_n 2, 1) := by decide +kernel
theorem dX7_overEvents_54 : decode cX7_overEvents 54 = .ok (.ireturn, 1) := by decide +kernel
theorem dX7_allBorne_0 : decode cX7_allBorne 0 = .ok (.iconst 0, 1) := by decide +kernel
theorem dX7_allBorne_1 : decode cX7_allBorne 1 = .ok (.istore_n 1, 1) := by decide +kernel
theorem dX7_allBorne_2 : decode cX7_allBorne 2 = .ok (.iconst 0, 1) := by decide +kernel
theorem dX7_allBorne_3 : decode cX7_allBorne 3 = .ok (.istore_n 2, 1) := by decide +kernel
theorem dX7_allBorne_4 : decode cX7_allBorne 4 = .ok (.iload_n 2, 1) := by decide +kernel
theorem dX7_allBorne_5 : decode cX7_allBorne 5 = .ok (.aload_n 0, 1) := by decide +kernel
theorem dX7_allBorne_6 : decode cX7_allBorne 6 = .ok (.getfield 9, 3) := by decide +kernel
theorem dX7_allBorne_9 : decode cX7_allBorne 9 = .ok (.iconst 1, 1) := by decide +kernel
theorem dX7_allBorne_10 : decode cX7_allBorne 10 = .ok (.iaload, 1) := by decide +kernel
theorem dX7_allBorne_11 : decode cX7_allBorne 11 = .ok (.if_icmp .ge 17, 3) := by decide +kernel
theorem dX7_allBorne_14 : decode cX7_allBorne 14 = .ok (.iload_n 1, 1) := by decide +kernel
theorem dX7_allBorne_15 : decode cX7_allBorne 15 = .ok (.aload_n 0, 1) := by decide +kernel
theorem dX7_allBorne_16 : decode cX7_allBorne 16 = .ok (.iload_n 2, 1) := by decide +kernel
theorem dX7_allBorne_17 : decode cX7_allBorne 17 = .ok (.invokevirtual 193, 3) := by decide +kernel
theorem dX7_allBorne_20 : decode cX7_allBorne 20 = .ok (.iadd, 1) := by decide +kernel
theorem dX7_allBorne_21 : decode cX7_allBorne 21 = .ok (.istore_n 1, 1) := by decide +kernel
theorem dX7_allBorne_22 : decode cX7_allBorne 22 = .ok (.iinc 2 1, 3) := by decide +kernel
theorem dX7_allBorne_25 : decode cX7_allBorne 25 = .ok (.goto (-21), 3) := by decide +kernel
theorem dX7_allBorne_28 : decode cX7_allBorne 28 = .ok (.iload_n 1, 1) := by decide +kernel
theorem dX7_allBorne_29 : decode cX7_allBorne 29 = .ok (.ireturn, 1) := by decide +kernel
theorem dX7_account_0 : decode cX7_account 0 = .ok (.iload_n 1, 1) := by decide +kernel
theorem dX7_account_1 : decode cX7_account 1 = .ok (.tableswitch 113 0 8 #[51, 57, 62, 67, 73, 78, 84, 97, 102], 51) := by decide +kernel
theorem dX7_account_52 : decode cX7_account 52 = .ok (.aload_n 0, 1) := by decide +kernel
theorem dX7_account_53 : decode cX7_account 53 = .ok (.iconst 0, 1) := by decide +kernel
theorem dX7_account_54 : decode cX7_account 54 = .ok (.invokevirtual 229, 3) := by decide +kernel
theorem dX7_account_57 : decode cX7_account 57 = .ok (.ireturn, 1) := by decide +kernel
theorem dX7_account_58 : decode cX7_account 58 = .ok (.aload_n 0, 1) := by decide +kernel
theorem dX7_account_59 : decode cX7_account 59 = .ok (.invokevirtual 232, 3) := by decide +kernel
theorem dX7_account_62 : decode cX7_account 62 = .ok (.ireturn, 1) := by decide +kernel
theorem dX7_account_63 : decode cX7_account 63 = .ok (.aload_n 0, 1) := by decide +kernel
theorem dX7_account_64 : decode cX7_account 64 = .ok (.invokevirtual 235, 3) := by decide +kernel
theorem dX7_account_67 : decode cX7_account 67 = .ok (.ireturn, 1) := by decide +kernel
theorem dX7_account_68 : decode cX7_account 68 = .ok (.aload_n 0, 1) := by decide +kernel
theorem dX7_account_69 : decode cX7_account 69 = .ok (.iconst 3, 1) := by decide +kernel
theorem dX7_account_70 : decode cX7_account 70 = .ok (.invokevirtual 229, 3) := by decide +kernel
theorem dX7_account_73 : decode cX7_account 73 = .ok (.ireturn, 1) := by decide +kernel
theorem dX7_account_74 : decode cX7_account 74 = .ok (.aload_n 0, 1) := by decide +kernel
theorem dX7_account_75 : decode cX7_account 75 = .ok (.invokevirtual 238, 3) := by decide +kernel
theorem dX7_account_78 : decode cX7_account 78 = .ok (.ireturn, 1) := by decide +kernel
theorem dX7_account_79 : decode cX7_account 79 = .ok (.aload_n 0, 1) := by decide +kernel
theorem dX7_account_80 : decode cX7_account 80 = .ok (.iconst 5, 1) := by decide +kernel
theorem dX7_account_81 : decode cX7_account 81 = .ok (.invokevirtual 229, 3) := by decide +kernel
theorem dX7_account_84 : decode cX7_account 84 = .ok (.ireturn, 1) := by decide +kernel
theorem dX7_account_85 : decode cX7_account 85 = .ok (.aload_n 0, 1) := by decide +kernel
theorem dX7_account_86 : decode cX7_account 86 = .ok (.bipush 8, 2) := by decide +kernel
theorem dX7_account_88 : decode cX7_account 88 = .ok (.aload_n 0, 1) := by decide +kernel
theorem dX7_account_89 : decode cX7_account 89 = .ok (.getfield 9, 3) := by decide +kernel
theorem dX7_account_92 : decode cX7_account 92 = .ok (.iconst 0, 1) := by decide +kernel
theorem dX7_account_93 : decode cX7_account 93 = .ok (.iaload, 1) := by decide +kernel
theorem dX7_account_94 : decode cX7_account 94 = .ok (.invokevirtual 226, 3) := by decide +kernel
theorem dX7_account_97 : decode cX7_account 97 = .ok (.ireturn, 1) := by decide +kernel
theorem dX7_account_98 : decode cX7_account 98 = .ok (.aload_n 0, 1) := by decide +kernel
theorem dX7_account_99 : decode cX7_account 99 = .ok (.invokevirtual 241, 3) := by decide +kernel
theorem dX7_account_102 : decode cX7_account 102 = .ok (.ireturn, 1) := by decide +kernel
theorem dX7_account_103 : decode cX7_account 103 = .ok (.aload_n 0, 1) := by decide +kernel
theorem dX7_account_104 : decode cX7_account 104 = .ok (.iconst 0, 1) := by decide +kernel
theorem dX7_account_105 : decode cX7_account 105 = .ok (.invokevirtual 229, 3) := by decide +kernel
theorem dX7_account_108 : decode cX7_account 108 = .ok (.aload_n 0, 1) := by decide +kernel
theorem dX7_account_109 : decode cX7_account 109 = .ok (.invokevirtual 232, 3) := by decide +kernel
theorem dX7_account_112 : decode cX7_account 112 = .ok (.isub, 1) := by decide +kernel
theorem dX7_account_113 : decode cX7_account 113 = .ok (.ireturn, 1) := by decide +kernel
theorem dX7_account_114 : decode cX7_account 114 = .ok (.bipush (-2), 2) := by decide +kernel
theorem dX7_account_116 : decode cX7_account 116 = .ok (.ireturn, 1) := by decide +kernel
theorem dX7_result_0 : decode cX7_result 0 = .ok (.aload_n 0, 1) := by decide +kernel
theorem dX7_result_1 : decode cX7_result 1 = .ok (.bipush 8, 2) := by decide +kernel
theorem dX7_result_3 : decode cX7_result 3 = .ok (.aload_n 0, 1) := by decide +kernel
theorem dX7_result_4 : decode cX7_result 4 = .ok (.getfield 9, 3) := by decide +kernel
theorem dX7_result_7 : decode cX7_result 7 = .ok (.iconst 0, 1) := by decide +kernel
theorem dX7_result_8 : decode cX7_result 8 = .ok (.iaload, 1) := by decide +kernel
theorem dX7_result_9 : decode cX7_result 9 = .ok (.invokevirtual 226, 3) := by decide +kernel
theorem dX7_result_12 : decode cX7_result 12 = .ok (.aload_n 0, 1) := by decide +kernel
theorem dX7_result_13 : decode cX7_result 13 = .ok (.invokevirtual 241, 3) := by decide +kernel
theorem dX7_result_16 : decode cX7_result 16 = .ok (.isub, 1) := by decide +kernel
theorem dX7_result_17 : decode cX7_result 17 = .ok (.aload_n 0, 1) := by decide +kernel
theorem dX7_result_18 : decode cX7_result 18 = .ok (.iconst 5, 1) := by decide +kernel
theorem dX7_result_19 : decode cX7_result 19 = .ok (.invokevirtual 229, 3) := by decide +kernel
theorem dX7_result_22 : decode cX7_result 22 = .ok (.isub, 1) := by decide +kernel
theorem dX7_result_23 : decode cX7_result 23 = .ok (.ldc 244, 2) := by decide +kernel
theorem dX7_result_25 : decode cX7_result 25 = .ok (.iadd, 1) := by decide +kernel
theorem dX7_result_26 : decode cX7_result 26 = .ok (.ireturn, 1) := by decide +kernel
theorem dX7_ratioBits_0 : decode cX7_ratioBits 0 = .ok (.aload_n 0, 1) := by decide +kernel
theorem dX7_ratioBits_1 : decode cX7_ratioBits 1 = .ok (.bipush 8, 2) := by decide +kernel
theorem dX7_ratioBits_3 : decode cX7_ratioBits 3 = .ok (.aload_n 0, 1) := by decide +kernel
theorem dX7_ratioBits_4 : decode cX7_ratioBits 4 = .ok (.getfield 9, 3) := by decide +kernel
theorem dX7_ratioBits_7 : decode cX7_ratioBits 7 = .ok (.iconst 0, 1) := by decide +kernel
theorem dX7_ratioBits_8 : decode cX7_ratioBits 8 = .ok (.iaload, 1) := by decide +kernel
theorem dX7_ratioBits_9 : decode cX7_ratioBits 9 = .ok (.invokevirtual 226, 3) := by decide +kernel
theorem dX7_ratioBits_12 : decode cX7_ratioBits 12 = .ok (.istore_n 1, 1) := by decide +kernel
theorem dX7_ratioBits_13 : decode cX7_ratioBits 13 = .ok (.iload_n 1, 1) := by decide +kernel
theorem dX7_ratioBits_14 : decode cX7_ratioBits 14 = .ok (.ifCond .ne 8, 3) := by decide +kernel
theorem dX7_ratioBits_17 : decode cX7_ratioBits 17 = .ok (.bipush (-4), 2) := by decide +kernel
theorem dX7_ratioBits_19 : decode cX7_ratioBits 19 = .ok (.goto 14, 3) := by decide +kernel
theorem dX7_ratioBits_22 : decode cX7_ratioBits 22 = .ok (.aload_n 0, 1) := by decide +kernel
theorem dX7_ratioBits_23 : decode cX7_ratioBits 23 = .ok (.invokevirtual 232, 3) := by decide +kernel
theorem dX7_ratioBits_26 : decode cX7_ratioBits 26 = .ok (.i2f, 1) := by decide +kernel
theorem dX7_ratioBits_27 : decode cX7_ratioBits 27 = .ok (.iload_n 1, 1) := by decide +kernel
theorem dX7_ratioBits_28 : decode cX7_ratioBits 28 = .ok (.i2f, 1) := by decide +kernel
theorem dX7_ratioBits_29 : decode cX7_ratioBits 29 = .ok (.fdiv, 1) := by decide +kernel
theorem dX7_ratioBits_30 : decode cX7_ratioBits 30 = .ok (.invokestatic 245, 3) := by decide +kernel
theorem dX7_ratioBits_33 : decode cX7_ratioBits 33 = .ok (.ireturn, 1) := by decide +kernel
theorem dX7_isBalanced_0 : decode cX7_isBalanced 0 = .ok (.iconst 0, 1) := by decide +kernel
theorem dX7_isBalanced_1 : decode cX7_isBalanced 1 = .ok (.istore_n 1, 1) := by decide +kernel
theorem dX7_isBalanced_2 : decode cX7_isBalanced 2 = .ok (.iconst 0, 1) := by decide +kernel
theorem dX7_isBalanced_3 : decode cX7_isBalanced 3 = .ok (.istore_n 2, 1) := by decide +kernel
theorem dX7_isBalanced_4 : decode cX7_isBalanced 4 = .ok (.iload_n 2, 1) := by decide +kernel
theorem dX7_isBalanced_5 : decode cX7_isBalanced 5 = .ok (.aload_n 0, 1) := by decide +kernel
theorem dX7_isBalanced_6 : decode cX7_isBalanced 6 = .ok (.getfield 9, 3) := by decide +kernel
theorem dX7_isBalanced_9 : decode cX7_isBalanced 9 = .ok (.iconst 3, 1) := by decide +kernel
theorem dX7_isBalanced_10 : decode cX7_isBalanced 10 = .ok (.iaload, 1) := by decide +kernel
theorem dX7_isBalanced_11 : decode cX7_isBalanced 11 = .ok (.if_icmp .ge 17, 3) := by decide +kernel
theorem dX7_isBalanced_14 : decode cX7_isBalanced 14 = .ok (.iload_n 1, 1) := by decide +kernel
theorem dX7_isBalanced_15 : decode cX7_isBalanced 15 = .ok (.aload_n 0, 1) := by decide +kernel
theorem dX7_isBalanced_16 : decode cX7_isBalanced 16 = .ok (.iload_n 2, 1) := by decide +kernel
theorem dX7_isBalanced_17 : decode cX7_isBalanced 17 = .ok (.invokevirtual 217, 3) := by decide +kernel
theorem dX7_isBalanced_20 : decode cX7_isBalanced 20 = .ok (.iadd, 1) := by decide +kernel
theorem dX7_isBalanced_21 : decode cX7_isBalanced 21 = .ok (.istore_n 1, 1) := by decide +kernel
theorem dX7_isBalanced_22 : decode cX7_isBalanced 22 = .ok (.iinc 2 1, 3) := by decide +kernel
theorem dX7_isBalanced_25 : decode cX7_isBalanced 25 = .ok (.goto (-21), 3) := by decide +kernel
theorem dX7_isBalanced_28 : decode cX7_isBalanced 28 = .ok (.iload_n 1, 1) := by decide +kernel
theorem dX7_isBalanced_29 : decode cX7_isBalanced 29 = .ok (.aload_n 0, 1) := by decide +kernel
theorem dX7_isBalanced_30 : decode cX7_isBalanced 30 = .ok (.invokevirtual 232, 3) := by decide +kernel
theorem dX7_isBalanced_33 : decode cX7_isBalanced 33 = .ok (.if_icmp .ne 42, 3) := by decide +kernel
theorem dX7_isBalanced_36 : decode cX7_isBalanced 36 = .ok (.aload_n 0, 1) := by decide +kernel
theorem dX7_isBalanced_37 : decode cX7_isBalanced 37 = .ok (.invokevirtual 238, 3) := by decide +kernel
theorem dX7_isBalanced_40 : decode cX7_isBalanced 40 = .ok (.aload_n 0, 1) := by decide +kernel
theorem dX7_isBalanced_41 : decode cX7_isBalanced 41 = .ok (.iconst 5, 1) := by decide +kernel
theorem dX7_isBalanced_42 : decode cX7_isBalanced 42 = .ok (.invokevirtual 229, 3) := by decide +kernel
theorem dX7_isBalanced_45 : decode cX7_isBalanced 45 = .ok (.iadd, 1) := by decide +kernel
theorem dX7_isBalanced_46 : decode cX7_isBalanced 46 = .ok (.aload_n 0, 1) := by decide +kernel
theorem dX7_isBalanced_47 : decode cX7_isBalanced 47 = .ok (.iconst 3, 1) := by decide +kernel
theorem dX7_isBalanced_48 : decode cX7_isBalanced 48 = .ok (.invokevirtual 229, 3) := by decide +kernel
theorem dX7_isBalanced_51 : decode cX7_isBalanced 51 = .ok (.if_icmp .ne 24, 3) := by decide +kernel
theorem dX7_isBalanced_54 : decode cX7_isBalanced 54 = .ok (.aload_n 0, 1) := by decide +kernel
theorem dX7_isBalanced_55 : decode cX7_isBalanced 55 = .ok (.invokevirtual 232, 3) := by decide +kernel
theorem dX7_isBalanced_58 : decode cX7_isBalanced 58 = .ok (.aload_n 0, 1) := by decide +kernel
theorem dX7_isBalanced_59 : decode cX7_isBalanced 59 = .ok (.invokevirtual 235, 3) := by decide +kernel
theorem dX7_isBalanced_62 : decode cX7_isBalanced 62 = .ok (.iadd, 1) := by decide +kernel
theorem dX7_isBalanced_63 : decode cX7_isBalanced 63 = .ok (.aload_n 0, 1) := by decide +kernel
theorem dX7_isBalanced_64 : decode cX7_isBalanced 64 = .ok (.iconst 0, 1) := by decide +kernel
theorem dX7_isBalanced_65 : decode cX7_isBalanced 65 = .ok (.invokevirtual 229, 3) := by decide +kernel
theorem dX7_isBalanced_68 : decode cX7_isBalanced 68 = .ok (.if_icmp .gt 7, 3) := by decide +kernel
theorem dX7_isBalanced_71 : decode cX7_isBalanced 71 = .ok (.iconst 1, 1) := by decide +kernel
theorem dX7_isBalanced_72 : decode cX7_isBalanced 72 = .ok (.goto 4, 3) := by decide +kernel
theorem dX7_isBalanced_75 : decode cX7_isBalanced 75 = .ok (.iconst 0, 1) := by decide +kernel
theorem dX7_isBalanced_76 : decode cX7_isBalanced 76 = .ok (.istore_n 2, 1) := by decide +kernel
theorem dX7_isBalanced_77 : decode cX7_isBalanced 77 = .ok (.iload_n 2, 1) := by decide +kernel
theorem dX7_isBalanced_78 : decode cX7_isBalanced 78 = .ok (.ifCond .eq 7, 3) := by decide +kernel
theorem dX7_isBalanced_81 : decode cX7_isBalanced 81 = .ok (.iconst 1, 1) := by decide +kernel
theorem dX7_isBalanced_82 : decode cX7_isBalanced 82 = .ok (.goto 4, 3) := by decide +kernel
theorem dX7_isBalanced_85 : decode cX7_isBalanced 85 = .ok (.iconst 0, 1) := by decide +kernel
theorem dX7_isBalanced_86 : decode cX7_isBalanced 86 = .ok (.ireturn, 1) := by decide +kernel
theorem dX7_paidIf_0 : decode cX7_paidIf 0 = .ok (.aload_n 0, 1) := by decide +kernel
theorem dX7_paidIf_1 : decode cX7_paidIf 1 = .ok (.iload_n 1, 1) := by decide +kernel
theorem dX7_paidIf_2 : decode cX7_paidIf 2 = .ok (.invokevirtual 75, 3) := by decide +kernel
theorem dX7_paidIf_5 : decode cX7_paidIf 5 = .ok (.ifCond .ne 5, 3) := by decide +kernel
theorem dX7_paidIf_8 : decode cX7_paidIf 8 = .ok (.iconst (-1), 1) := by decide +kernel
theorem dX7_paidIf_9 : decode cX7_paidIf 9 = .ok (.ireturn, 1) := by decide +kernel
theorem dX7_paidIf_10 : decode cX7_paidIf 10 = .ok (.iload_n 2, 1) := by decide +kernel
theorem dX7_paidIf_11 : decode cX7_paidIf 11 = .ok (.iconst 0, 1) := by decide +kernel
theorem dX7_paidIf_12 : decode cX7_paidIf 12 = .ok (.sipush 364, 3) := by decide +kernel
theorem dX7_paidIf_15 : decode cX7_paidIf 15 = .ok (.invokestatic 61, 3) := by decide +kernel
theorem dX7_paidIf_18 : decode cX7_paidIf 18 = .ok (.ifCond .ne 6, 3) := by decide +kernel
theorem dX7_paidIf_21 : decode cX7_paidIf 21 = .ok (.bipush (-2), 2) := by decide +kernel
theorem dX7_paidIf_23 : decode cX7_paidIf 23 = .ok (.ireturn, 1) := by decide +kernel
theorem dX7_paidIf_24 : decode cX7_paidIf 24 = .ok (.aload_n 0, 1) := by decide +kernel
theorem dX7_paidIf_25 : decode cX7_paidIf 25 = .ok (.getfield 9, 3) := by decide +kernel
theorem dX7_paidIf_28 : decode cX7_paidIf 28 = .ok (.bipush 48, 2) := by decide +kernel
theorem dX7_paidIf_30 : decode cX7_paidIf 30 = .ok (.iload_n 1, 1) := by decide +kernel
theorem dX7_paidIf_31 : decode cX7_paidIf 31 = .ok (.iadd, 1) := by decide +kernel
theorem dX7_paidIf_32 : decode cX7_paidIf 32 = .ok (.iaload, 1) := by decide +kernel
theorem dX7_paidIf_33 : decode cX7_paidIf 33 = .ok (.istore_n 3, 1) := by decide +kernel
theorem dX7_paidIf_34 : decode cX7_paidIf 34 = .ok (.aload_n 0, 1) := by decide +kernel
theorem dX7_paidIf_35 : decode cX7_paidIf 35 = .ok (.getfield 9, 3) := by decide +kernel
theorem dX7_paidIf_38 : decode cX7_paidIf 38 = .ok (.bipush 48, 2) := by decide +kernel
theorem dX7_paidIf_40 : decode cX7_paidIf 40 = .ok (.iload_n 1, 1) := by decide +kernel
theorem dX7_paidIf_41 : decode cX7_paidIf 41 = .ok (.iadd, 1) := by decide +kernel
theorem dX7_paidIf_42 : decode cX7_paidIf 42 = .ok (.iload_n 2, 1) := by decide +kernel
theorem dX7_paidIf_43 : decode cX7_paidIf 43 = .ok (.iastore, 1) := by decide +kernel
theorem dX7_paidIf_44 : decode cX7_paidIf 44 = .ok (.aload_n 0, 1) := by decide +kernel
theorem dX7_paidIf_45 : decode cX7_paidIf 45 = .ok (.invokevirtual 232, 3) := by decide +kernel
theorem dX7_paidIf_48 : decode cX7_paidIf 48 = .ok (.istore 4, 2) := by decide +kernel
theorem dX7_paidIf_50 : decode cX7_paidIf 50 = .ok (.aload_n 0, 1) := by decide +kernel
theorem dX7_paidIf_51 : decode cX7_paidIf 51 = .ok (.getfield 9, 3) := by decide +kernel
theorem dX7_paidIf_54 : decode cX7_paidIf 54 = .ok (.bipush 48, 2) := by decide +kernel
theorem dX7_paidIf_56 : decode cX7_paidIf 56 = .ok (.iload_n 1, 1) := by decide +kernel
theorem dX7_paidIf_57 : decode cX7_paidIf 57 = .ok (.iadd, 1) := by decide +kernel
theorem dX7_paidIf_58 : decode cX7_paidIf 58 = .ok (.iload_n 3, 1) := by decide +kernel
theorem dX7_paidIf_59 : decode cX7_paidIf 59 = .ok (.iastore, 1) := by decide +kernel
theorem dX7_paidIf_60 : decode cX7_paidIf 60 = .ok (.iload 4, 2) := by decide +kernel
theorem dX7_paidIf_62 : decode cX7_paidIf 62 = .ok (.ireturn, 1) := by decide +kernel
theorem dX7_leastLimit_0 : decode cX7_leastLimit 0 = .ok (.aload_n 0, 1) := by decide +kernel
theorem dX7_leastLimit_1 : decode cX7_leastLimit 1 = .ok (.iload_n 1, 1) := by decide +kernel
theorem dX7_leastLimit_2 : decode cX7_leastLimit 2 = .ok (.invokevirtual 78, 3) := by decide +kernel
theorem dX7_leastLimit_5 : decode cX7_leastLimit 5 = .ok (.ifCond .ne 5, 3) := by decide +kernel
theorem dX7_leastLimit_8 : decode cX7_leastLimit 8 = .ok (.iconst (-1), 1) := by decide +kernel
theorem dX7_leastLimit_9 : decode cX7_leastLimit 9 = .ok (.ireturn, 1) := by decide +kernel
theorem dX7_leastLimit_10 : decode cX7_leastLimit 10 = .ok (.iconst 0, 1) := by decide +kernel
theorem dX7_leastLimit_11 : decode cX7_leastLimit 11 = .ok (.istore_n 2, 1) := by decide +kernel
theorem dX7_leastLimit_12 : decode cX7_leastLimit 12 = .ok (.iconst 0, 1) := by decide +kernel
theorem dX7_leastLimit_13 : decode cX7_leastLimit 13 = .ok (.istore_n 3, 1) := by decide +kernel
theorem dX7_leastLimit_14 : decode cX7_leastLimit 14 = .ok (.iload_n 3, 1) := by decide +kernel
theorem dX7_leastLimit_15 : decode cX7_leastLimit 15 = .ok (.aload_n 0, 1) := by decide +kernel
theorem dX7_leastLimit_16 : decode cX7_leastLimit 16 = .ok (.getfield 9, 3) := by decide +kernel
theorem dX7_leastLimit_19 : decode cX7_leastLimit 19 = .ok (.iconst 2, 1) := by decide +kernel
theorem dX7_leastLimit_20 : decode cX7_leastLimit 20 = .ok (.iaload, 1) := by decide +kernel
theorem dX7_leastLimit_21 : decode cX7_leastLimit 21 = .ok (.if_icmp .ge 30, 3) := by decide +kernel
theorem dX7_leastLimit_24 : decode cX7_leastLimit 24 = .ok (.iload_n 2, 1) := by decide +kernel
theorem dX7_leastLimit_25 : decode cX7_leastLimit 25 = .ok (.ldc 65, 2) := by decide +kernel
theorem dX7_leastLimit_27 : decode cX7_leastLimit 27 = .ok (.ldc 65, 2) := by decide +kernel
theorem dX7_leastLimit_29 : decode cX7_leastLimit 29 = .ok (.iload_n 2, 1) := by decide +kernel
theorem dX7_leastLimit_30 : decode cX7_leastLimit 30 = .ok (.invokestatic 146, 3) := by decide +kernel
theorem dX7_leastLimit_33 : decode cX7_leastLimit 33 = .ok (.isub, 1) := by decide +kernel
theorem dX7_leastLimit_34 : decode cX7_leastLimit 34 = .ok (.aload_n 0, 1) := by decide +kernel
theorem dX7_leastLimit_35 : decode cX7_leastLimit 35 = .ok (.iload_n 3, 1) := by decide +kernel
theorem dX7_leastLimit_36 : decode cX7_leastLimit 36 = .ok (.iload_n 1, 1) := by decide +kernel
theorem dX7_leastLimit_37 : decode cX7_leastLimit 37 = .ok (.invokevirtual 163, 3) := by decide +kernel
theorem dX7_leastLimit_40 : decode cX7_leastLimit 40 = .ok (.invokestatic 146, 3) := by decide +kernel
theorem dX7_leastLimit_43 : decode cX7_leastLimit 43 = .ok (.iadd, 1) := by decide +kernel
theorem dX7_leastLimit_44 : decode cX7_leastLimit 44 = .ok (.istore_n 2, 1) := by decide +kernel
theorem dX7_leastLimit_45 : decode cX7_leastLimit 45 = .ok (.iinc 3 1, 3) := by decide +kernel
theorem dX7_leastLimit_48 : decode cX7_leastLimit 48 = .ok (.goto (-34), 3) := by decide +kernel
theorem dX7_leastLimit_51 : decode cX7_leastLimit 51 = .ok (.iconst 1, 1) := by decide +kernel
theorem dX7_leastLimit_52 : decode cX7_leastLimit 52 = .ok (.ldc 65, 2) := by decide +kernel
theorem dX7_leastLimit_54 : decode cX7_leastLimit 54 = .ok (.iload_n 2, 1) := by decide +kernel
theorem dX7_leastLimit_55 : decode cX7_leastLimit 55 = .ok (.invokestatic 146, 3) := by decide +kernel
theorem dX7_leastLimit_58 : decode cX7_leastLimit 58 = .ok (.invokestatic 175, 3) := by decide +kernel
theorem dX7_leastLimit_61 : decode cX7_leastLimit 61 = .ok (.ireturn, 1) := by decide +kernel
theorem dX7_isPlace_0 : decode cX7_isPlace 0 = .ok (.iload_n 0, 1) := by decide +kernel
theorem dX7_isPlace_1 : decode cX7_isPlace 1 = .ok (.iconst 0, 1) := by decide +kernel
theorem dX7_isPlace_2 : decode cX7_isPlace 2 = .ok (.iconst 2, 1) := by decide +kernel
theorem dX7_isPlace_3 : decode cX7_isPlace 3 = .ok (.invokestatic 61, 3) := by decide +kernel
theorem dX7_isPlace_6 : decode cX7_isPlace 6 = .ok (.ifCond .eq 16, 3) := by decide +kernel
theorem dX7_isPlace_9 : decode cX7_isPlace 9 = .ok (.iload_n 1, 1) := by decide +kernel
theorem dX7_isPlace_10 : decode cX7_isPlace 10 = .ok (.iconst 0, 1) := by decide +kernel
theorem dX7_isPlace_11 : decode cX7_isPlace 11 = .ok (.iconst 3, 1) := by decide +kernel
theorem dX7_isPlace_12 : decode cX7_isPlace 12 = .ok (.invokestatic 61, 3) := by decide +kernel
theorem dX7_isPlace_15 : decode cX7_isPlace 15 = .ok (.ifCond .eq 7, 3) := by decide +kernel
theorem dX7_isPlace_18 : decode cX7_isPlace 18 = .ok (.iconst 1, 1) := by decide +kernel
theorem dX7_isPlace_19 : decode cX7_isPlace 19 = .ok (.goto 4, 3) := by decide +kernel
theorem dX7_isPlace_22 : decode cX7_isPlace 22 = .ok (.iconst 0, 1) := by decide +kernel
theorem dX7_isPlace_23 : decode cX7_isPlace 23 = .ok (.ireturn, 1) := by decide +kernel
theorem dX7_file_0 : decode cX7_file 0 = .ok (.iload_n 1, 1) := by decide +kernel
theorem dX7_file_1 : decode cX7_file 1 = .ok (.iload_n 2, 1) := by decide +kernel
theorem dX7_file_2 : decode cX7_file 2 = .ok (.invokestatic 251, 3) := by decide +kernel
theorem dX7_file_5 : decode cX7_file 5 = .ok (.ifCond .ne 5, 3) := by decide +kernel
theorem dX7_file_8 : decode cX7_file 8 = .ok (.iconst (-1), 1) := by decide +kernel
theorem dX7_file_9 : decode cX7_file 9 = .ok (.ireturn, 1) := by decide +kernel
theorem dX7_file_10 : decode cX7_file 10 = .ok (.iload_n 3, 1) := by decide +kernel
theorem dX7_file_11 : decode cX7_file 11 = .ok (.iconst 0, 1) := by decide +kernel
theorem dX7_file_12 : decode cX7_file 12 = .ok (.iconst 1, 1) := by decide +kernel
theorem dX7_file_13 : decode cX7_file 13 = .ok (.invokestatic 61, 3) := by decide +kernel
theorem dX7_file_16 : decode cX7_file 16 = .ok (.ifCond .ne 6, 3) := by decide +kernel
theorem dX7_file_19 : decode cX7_file 19 = .ok (.bipush (-2), 2) := by decide +kernel
theorem dX7_file_21 : decode cX7_file 21 = .ok (.ireturn, 1) := by decide +kernel
theorem dX7_file_22 : decode cX7_file 22 = .ok (.iload_n 3, 1) := by decide +kernel
theorem dX7_file_23 : decode cX7_file 23 = .ok (.ifCond .ne 15, 3) := by decide +kernel
theorem dX7_file_26 : decode cX7_file 26 = .ok (.aload_n 0, 1) := by decide +kernel
theorem dX7_file_27 : decode cX7_file 27 = .ok (.iload 4, 2) := by decide +kernel
theorem dX7_file_29 : decode cX7_file 29 = .ok (.invokevirtual 78, 3) := by decide +kernel
theorem dX7_file_32 : decode cX7_file 32 = .ok (.ifCond .eq 15, 3) := by decide +kernel
theorem dX7_file_35 : decode cX7_file 35 = .ok (.goto 14, 3) := by decide +kernel
theorem dX7_file_38 : decode cX7_file 38 = .ok (.aload_n 0, 1) := by decide +kernel
theorem dX7_file_39 : decode cX7_file 39 = .ok (.iload 4, 2) := by decide +kernel
theorem dX7_file_41 : decode cX7_file 41 = .ok (.invokevirtual 202, 3) := by decide +kernel
theorem dX7_file_44 : decode cX7_file 44 = .ok (.ifCond .ne 5, 3) := by decide +kernel
theorem dX7_file_47 : decode cX7_file 47 = .ok (.iconst (-1), 1) := by decide +kernel
theorem dX7_file_48 : decode cX7_file 48 = .ok (.ireturn, 1) := by decide +kernel
theorem dX7_file_49 : decode cX7_file 49 = .ok (.iload_n 1, 1) := by decide +kernel
theorem dX7_file_50 : decode cX7_file 50 = .ok (.iconst 2, 1) := by decide +kernel
theorem dX7_file_51 : decode cX7_file 51 = .ok (.if_icmp .eq 11, 3) := by decide +kernel
theorem dX7_file_54 : decode cX7_file 54 = .ok (.iload_n 1, 1) := by decide +kernel
theorem dX7_file_55 : decode cX7_file 55 = .ok (.iload_n 3, 1) := by decide +kernel
theorem dX7_file_56 : decode cX7_file 56 = .ok (.if_icmp .eq 6, 3) := by decide +kernel
theorem dX7_file_59 : decode cX7_file 59 = .ok (.bipush (-6), 2) := by decide +kernel
theorem dX7_file_61 : decode cX7_file 61 = .ok (.ireturn, 1) := by decide +kernel
theorem dX7_file_62 : decode cX7_file 62 = .ok (.iconst 4, 1) := by decide +kernel
theorem dX7_file_63 : decode cX7_file 63 = .ok (.iload_n 1, 1) := by decide +kernel
theorem dX7_file_64 : decode cX7_file 64 = .ok (.imul, 1) := by decide +kernel
theorem dX7_file_65 : decode cX7_file 65 = .ok (.iload_n 2, 1) := by decide +kernel
theorem dX7_file_66 : decode cX7_file 66 = .ok (.iadd, 1) := by decide +kernel
theorem dX7_file_67 : decode cX7_file 67 = .ok (.istore 5, 2) := by decide +kernel
theorem dX7_file_69 : decode cX7_file 69 = .ok (.aload_n 0, 1) := by decide +kernel
theorem dX7_file_70 : decode cX7_file 70 = .ok (.getfield 51, 3) := by decide +kernel
theorem dX7_file_73 : decode cX7_file 73 = .ok (.iload 5, 2) := by decide +kernel
theorem dX7_file_75 : decode cX7_file 75 = .ok (.iload_n 3, 1) := by decide +kernel
theorem dX7_file_76 : decode cX7_file 76 = .ok (.iconst 1, 1) := by decide +kernel
theorem dX7_file_77 : decode cX7_file 77 = .ok (.iadd, 1) := by decide +kernel
theorem dX7_file_78 : decode cX7_file 78 = .ok (.iastore, 1) := by decide +kernel
theorem dX7_file_79 : decode cX7_file 79 = .ok (.iconst 0, 1) := by decide +kernel
theorem dX7_file_80 : decode cX7_file 80 = .ok (.istore 6, 2) := by decide +kernel
theorem dX7_file_82 : decode cX7_file 82 = .ok (.iload 6, 2) := by decide +kernel
theorem dX7_file_84 : decode cX7_file 84 = .ok (.iconst 4, 1) := by decide +kernel
theorem dX7_file_85 : decode cX7_file 85 = .ok (.if_icmp .ge 45, 3) := by decide +kernel
theorem dX7_file_88 : decode cX7_file 88 = .ok (.aload_n 0, 1) := by decide +kernel
theorem dX7_file_89 : decode cX7_file 89 = .ok (.getfield 54, 3) := by decide +kernel
theorem dX7_file_92 : decode cX7_file 92 = .ok (.iconst 4, 1) := by decide +kernel
theorem dX7_file_93 : decode cX7_file 93 = .ok (.iload 5, 2) := by decide +kernel
theorem dX7_file_95 : decode cX7_file 95 = .ok (.imul, 1) := by decide +kernel
theorem dX7_file_96 : decode cX7_file 96 = .ok (.iload 6, 2) := by decide +kernel
theorem dX7_file_98 : decode cX7_file 98 = .ok (.iadd, 1) := by decide +kernel
theorem dX7_file_99 : decode cX7_file 99 = .ok (.aload_n 0, 1) := by decide +kernel
theorem dX7_file_100 : decode cX7_file 100 = .ok (.getfield 9, 3) := by decide +kernel
theorem dX7_file_103 : decode cX7_file 103 = .ok (.iload_n 3, 1) := by decide +kernel
theorem dX7_file_104 : decode cX7_file 104 = .ok (.ifCond .ne 8, 3) := by decide +kernel
theorem dX7_file_107 : decode cX7_file 107 = .ok (.bipush 8, 2) := by decide +kernel
theorem dX7_file_109 : decode cX7_file 109 = .ok (.goto 5, 3) := by decide +kernel
theorem dX7_file_112 : decode cX7_file 112 = .ok (.bipush 32, 2) := by decide +kernel
theorem dX7_file_114 : decode cX7_file 114 = .ok (.iconst 4, 1) := by decide +kernel
theorem dX7_file_115 : decode cX7_file 115 = .ok (.iload 4, 2) := by decide +kernel
theorem dX7_file_117 : decode cX7_file 117 = .ok (.imul, 1) := by decide +kernel
theorem dX7_file_118 : decode cX7_file 118 = .ok (.iadd, 1) := by decide +kernel
theorem dX7_file_119 : decode cX7_file 119 = .ok (.iload 6, 2) := by decide +kernel
theorem dX7_file_121 : decode cX7_file 121 = .ok (.iadd, 1) := by decide +kernel
theorem dX7_file_122 : decode cX7_file 122 = .ok (.iaload, 1) := by decide +kernel
theorem dX7_file_123 : decode cX7_file 123 = .ok (.iastore, 1) := by decide +kernel
theorem dX7_file_124 : decode cX7_file 124 = .ok (.iinc 6 1, 3) := by decide +kernel
theorem dX7_file_127 : decode cX7_file 127 = .ok (.goto (-45), 3) := by decide +kernel
theorem dX7_file_130 : decode cX7_file 130 = .ok (.iconst 0, 1) := by decide +kernel
theorem dX7_file_131 : decode cX7_file 131 = .ok (.istore 6, 2) := by decide +kernel
theorem dX7_file_133 : decode cX7_file 133 = .ok (.iconst 0, 1) := by decide +kernel
theorem dX7_file_134 : decode cX7_file 134 = .ok (.istore 7, 2) := by decide +kernel
theorem dX7_file_136 : decode cX7_file 136 = .ok (.iload 7, 2) := by decide +kernel
theorem dX7_file_138 : decode cX7_file 138 = .ok (.iconst 4, 1) := by decide +kernel
theorem dX7_file_139 : decode cX7_file 139 = .ok (.if_icmp .ge 33, 3) := by decide +kernel
theorem dX7_file_142 : decode cX7_file 142 = .ok (.iload 6, 2) := by decide +kernel
theorem dX7_file_144 : decode cX7_file 144 = .ok (.aload_n 0, 1) := by decide +kernel
theorem dX7_file_145 : decode cX7_file 145 = .ok (.getfield 51, 3) := by decide +kernel
theorem dX7_file_148 : decode cX7_file 148 = .ok (.iconst 4, 1) := by decide +kernel
theorem dX7_file_149 : decode cX7_file 149 = .ok (.iload_n 1, 1) := by decide +kernel
theorem dX7_file_150 : decode cX7_file 150 = .ok (.imul, 1) := by decide +kernel
theorem dX7_file_151 : decode cX7_file 151 = .ok (.iload 7, 2) := by decide +kernel
theorem dX7_file_153 : decode cX7_file 153 = .ok (.iadd, 1) := by decide +kernel
theorem dX7_file_154 : decode cX7_file 154 = .ok (.iaload, 1) := by decide +kernel
theorem dX7_file_155 : decode cX7_file 155 = .ok (.ifCond .le 7, 3) := by decide +kernel
theorem dX7_file_158 : decode cX7_file 158 = .ok (.iconst 1, 1) := by decide +kernel
theorem dX7_file_159 : decode cX7_file 159 = .ok (.goto 4, 3) := by decide +kernel
theorem dX7_file_162 : decode cX7_file 162 = .ok (.iconst 0, 1) := by decide +kernel
theorem dX7_file_163 : decode cX7_file 163 = .ok (.iadd, 1) := by decide +kernel
theorem dX7_file_164 : decode cX7_file 164 = .ok (.istore 6, 2) := by decide +kernel
theorem dX7_file_166 : decode cX7_file 166 = .ok (.iinc 7 1, 3) := by decide +kernel
theorem dX7_file_169 : decode cX7_file 169 = .ok (.goto (-33), 3) := by decide +kernel
theorem dX7_file_172 : decode cX7_file 172 = .ok (.iload 6, 2) := by decide +kernel
theorem dX7_file_174 : decode cX7_file 174 = .ok (.ireturn, 1) := by decide +kernel
theorem dX7_use_0 : decode cX7_use 0 = .ok (.iload_n 1, 1) := by decide +kernel
theorem dX7_use_1 : decode cX7_use 1 = .ok (.iload_n 2, 1) := by decide +kernel
theorem dX7_use_2 : decode cX7_use 2 = .ok (.invokestatic 251, 3) := by decide +kernel
theorem dX7_use_5 : decode cX7_use 5 = .ok (.ifCond .ne 5, 3) := by decide +kernel
theorem dX7_use_8 : decode cX7_use 8 = .ok (.iconst (-1), 1) := by decide +kernel
theorem dX7_use_9 : decode cX7_use 9 = .ok (.ireturn, 1) := by decide +kernel
theorem dX7_use_10 : decode cX7_use 10 = .ok (.iconst 4, 1) := by decide +kernel
theorem dX7_use_11 : decode cX7_use 11 = .ok (.iload_n 1, 1) := by decide +kernel
theorem dX7_use_12 : decode cX7_use 12 = .ok (.imul, 1) := by decide +kernel
theorem dX7_use_13 : decode cX7_use 13 = .ok (.iload_n 2, 1) := by decide +kernel
theorem dX7_use_14 : decode cX7_use 14 = .ok (.iadd, 1) := by decide +kernel
theorem dX7_use_15 : decode cX7_use 15 = .ok (.istore_n 3, 1) := by decide +kernel
theorem dX7_use_16 : decode cX7_use 16 = .ok (.aload_n 0, 1) := by decide +kernel
theorem dX7_use_17 : decode cX7_use 17 = .ok (.getfield 51, 3) := by decide +kernel
theorem dX7_use_20 : decode cX7_use 20 = .ok (.iload_n 3, 1) := by decide +kernel
theorem dX7_use_21 : decode cX7_use 21 = .ok (.iaload, 1) := by decide +kernel
theorem dX7_use_22 : decode cX7_use 22 = .ok (.ifCond .ne 6, 3) := by decide +kernel
theorem dX7_use_25 : decode cX7_use 25 = .ok (.bipush (-4), 2) := by decide +kernel
theorem dX7_use_27 : decode cX7_use 27 = .ok (.ireturn, 1) := by decide +kernel
theorem dX7_use_28 : decode cX7_use 28 = .ok (.aload_n 0, 1) := by decide +kernel
theorem dX7_use_29 : decode cX7_use 29 = .ok (.invokevirtual 83, 3) := by decide +kernel
theorem dX7_use_32 : decode cX7_use 32 = .ok (.aload_n 0, 1) := by decide +kernel
theorem dX7_use_33 : decode cX7_use 33 = .ok (.getfield 54, 3) := by decide +kernel
theorem dX7_use_36 : decode cX7_use 36 = .ok (.iconst 4, 1) := by decide +kernel
theorem dX7_use_37 : decode cX7_use 37 = .ok (.iload_n 3, 1) := by decide +kernel
theorem dX7_use_38 : decode cX7_use 38 = .ok (.imul, 1) := by decide +kernel
theorem dX7_use_39 : decode cX7_use 39 = .ok (.iaload, 1) := by decide +kernel
theorem dX7_use_40 : decode cX7_use 40 = .ok (.istore 4, 2) := by decide +kernel
theorem dX7_use_42 : decode cX7_use 42 = .ok (.aload_n 0, 1) := by decide +kernel
theorem dX7_use_43 : decode cX7_use 43 = .ok (.getfield 54, 3) := by decide +kernel
theorem dX7_use_46 : decode cX7_use 46 = .ok (.iconst 4, 1) := by decide +kernel
theorem dX7_use_47 : decode cX7_use 47 = .ok (.iload_n 3, 1) := by decide +kernel
theorem dX7_use_48 : decode cX7_use 48 = .ok (.imul, 1) := by decide +kernel
theorem dX7_use_49 : decode cX7_use 49 = .ok (.iconst 1, 1) := by decide +kernel
theorem dX7_use_50 : decode cX7_use 50 = .ok (.iadd, 1) := by decide +kernel
theorem dX7_use_51 : decode cX7_use 51 = .ok (.iaload, 1) := by decide +kernel
theorem dX7_use_52 : decode cX7_use 52 = .ok (.istore 5, 2) := by decide +kernel
theorem dX7_use_54 : decode cX7_use 54 = .ok (.aload_n 0, 1) := by decide +kernel
theorem dX7_use_55 : decode cX7_use 55 = .ok (.getfield 54, 3) := by decide +kernel
theorem dX7_use_58 : decode cX7_use 58 = .ok (.iconst 4, 1) := by decide +kernel
theorem dX7_use_59 : decode cX7_use 59 = .ok (.iload_n 3, 1) := by decide +kernel
theorem dX7_use_60 : decode cX7_use 60 = .ok (.imul, 1) := by decide +kernel
theorem dX7_use_61 : decode cX7_use 61 = .ok (.iconst 2, 1) := by decide +kernel
theorem dX7_use_62 : decode cX7_use 62 = .ok (.iadd, 1) := by decide +kernel
theorem dX7_use_63 : decode cX7_use 63 = .ok (.iaload, 1) := by decide +kernel
theorem dX7_use_64 : decode cX7_use 64 = .ok (.istore 6, 2) := by decide +kernel
theorem dX7_use_66 : decode cX7_use 66 = .ok (.aload_n 0, 1) := by decide +kernel
theorem dX7_use_67 : decode cX7_use 67 = .ok (.getfield 54, 3) := by decide +kernel
theorem dX7_use_70 : decode cX7_use 70 = .ok (.iconst 4, 1) := by decide +kernel
theorem dX7_use_71 : decode cX7_use 71 = .ok (.iload_n 3, 1) := by decide +kernel
theorem dX7_use_72 : decode cX7_use 72 = .ok (.imul, 1) := by decide +kernel
theorem dX7_use_73 : decode cX7_use 73 = .ok (.iconst 3, 1) := by decide +kernel
theorem dX7_use_74 : decode cX7_use 74 = .ok (.iadd, 1) := by decide +kernel
theorem dX7_use_75 : decode cX7_use 75 = .ok (.iaload, 1) := by decide +kernel
theorem dX7_use_76 : decode cX7_use 76 = .ok (.istore 7, 2) := by decide +kernel
theorem dX7_use_78 : decode cX7_use 78 = .ok (.aload_n 0, 1) := by decide +kernel
theorem dX7_use_79 : decode cX7_use 79 = .ok (.aload_n 0, 1) := by decide +kernel
theorem dX7_use_80 : decode cX7_use 80 = .ok (.getfield 51, 3) := by decide +kernel
theorem dX7_use_83 : decode cX7_use 83 = .ok (.iload_n 3, 1) := by decide +kernel
theorem dX7_use_84 : decode cX7_use 84 = .ok (.iaload, 1) := by decide +kernel
theorem dX7_use_85 : decode cX7_use 85 = .ok (.iconst 1, 1) := by decide +kernel
theorem dX7_use_86 : decode cX7_use 86 = .ok (.if_icmp .ne 18, 3) := by decide +kernel
theorem dX7_use_89 : decode cX7_use 89 = .ok (.aload_n 0, 1) := by decide +kernel
theorem dX7_use_90 : decode cX7_use 90 = .ok (.iload 4, 2) := by decide +kernel
theorem dX7_use_92 : decode cX7_use 92 = .ok (.iload 5, 2) := by decide +kernel
theorem dX7_use_94 : decode cX7_use 94 = .ok (.iload 6, 2) := by decide +kernel
theorem dX7_use_96 : decode cX7_use 96 = .ok (.iload 7, 2) := by decide +kernel
theorem dX7_use_98 : decode cX7_use 98 = .ok (.invokevirtual 86, 3) := by decide +kernel
theorem dX7_use_101 : decode cX7_use 101 = .ok (.goto 15, 3) := by decide +kernel
theorem dX7_use_104 : decode cX7_use 104 = .ok (.aload_n 0, 1) := by decide +kernel
theorem dX7_use_105 : decode cX7_use 105 = .ok (.iload 4, 2) := by decide +kernel
theorem dX7_use_107 : decode cX7_use 107 = .ok (.iload 5, 2) := by decide +kernel
theorem dX7_use_109 : decode cX7_use 109 = .ok (.iload 6, 2) := by decide +kernel
theorem dX7_use_111 : decode cX7_use 111 = .ok (.iload 7, 2) := by decide +kernel
theorem dX7_use_113 : decode cX7_use 113 = .ok (.invokevirtual 94, 3) := by decide +kernel
theorem dX7_use_116 : decode cX7_use 116 = .ok (.invokevirtual 90, 3) := by decide +kernel
theorem dX7_use_119 : decode cX7_use 119 = .ok (.ireturn, 1) := by decide +kernel
theorem dX7_filed_0 : decode cX7_filed 0 = .ok (.iload_n 1, 1) := by decide +kernel
theorem dX7_filed_1 : decode cX7_filed 1 = .ok (.iload_n 2, 1) := by decide +kernel
theorem dX7_filed_2 : decode cX7_filed 2 = .ok (.invokestatic 251, 3) := by decide +kernel
theorem dX7_filed_5 : decode cX7_filed 5 = .ok (.ifCond .ne 5, 3) := by decide +kernel
theorem dX7_filed_8 : decode cX7_filed 8 = .ok (.iconst (-1), 1) := by decide +kernel
theorem dX7_filed_9 : decode cX7_filed 9 = .ok (.ireturn, 1) := by decide +kernel
theorem dX7_filed_10 : decode cX7_filed 10 = .ok (.aload_n 0, 1) := by decide +kernel
theorem dX7_filed_11 : decode cX7_filed 11 = .ok (.getfield 51, 3) := by decide +kernel
theorem dX7_filed_14 : decode cX7_filed 14 = .ok (.iconst 4, 1) := by decide +kernel
theorem dX7_filed_15 : decode cX7_filed 15 = .ok (.iload_n 1, 1) := by decide +kernel
theorem dX7_filed_16 : decode cX7_filed 16 = .ok (.imul, 1) := by decide +kernel
theorem dX7_filed_17 : decode cX7_filed 17 = .ok (.iload_n 2, 1) := by decide +kernel
theorem dX7_filed_18 : decode cX7_filed 18 = .ok (.iadd, 1) := by decide +kernel
theorem dX7_filed_19 : decode cX7_filed 19 = .ok (.iaload, 1) := by decide +kernel
theorem dX7_filed_20 : decode cX7_filed 20 = .ok (.istore_n 3, 1) := by decide +kernel
theorem dX7_filed_21 : decode cX7_filed 21 = .ok (.iload_n 3, 1) := by decide +kernel
theorem dX7_filed_22 : decode cX7_filed 22 = .ok (.ifCond .ne 8, 3) := by decide +kernel
theorem dX7_filed_25 : decode cX7_filed 25 = .ok (.bipush (-4), 2) := by decide +kernel
theorem dX7_filed_27 : decode cX7_filed 27 = .ok (.goto 6, 3) := by decide +kernel
theorem dX7_filed_30 : decode cX7_filed 30 = .ok (.iload_n 3, 1) := by decide +kernel
theorem dX7_filed_31 : decode cX7_filed 31 = .ok (.iconst 1, 1) := by decide +kernel
theorem dX7_filed_32 : decode cX7_filed 32 = .ok (.isub, 1) := by decide +kernel
theorem dX7_filed_33 : decode cX7_filed 33 = .ok (.ireturn, 1) := by decide +kernel
theorem dX7_save_0 : decode cX7_save 0 = .ok (.aload_n 0, 1) := by decide +kernel
theorem dX7_save_1 : decode cX7_save 1 = .ok (.getfield 9, 3) := by decide +kernel
theorem dX7_save_4 : decode cX7_save 4 = .ok (.iconst 0, 1) := by decide +kernel
theorem dX7_save_5 : decode cX7_save 5 = .ok (.aload_n 0, 1) := by decide +kernel
theorem dX7_save_6 : decode cX7_save 6 = .ok (.getfield 16, 3) := by decide +kernel
theorem dX7_save_9 : decode cX7_save 9 = .ok (.iconst 0, 1) := by decide +kernel
theorem dX7_save_10 : decode cX7_save 10 = .ok (.invokestatic 57, 3) := by decide +kernel
theorem dX7_save_13 : decode cX7_save 13 = .ok (.aload_n 0, 1) := by decide +kernel
theorem dX7_save_14 : decode cX7_save 14 = .ok (.iconst 1, 1) := by decide +kernel
theorem dX7_save_15 : decode cX7_save 15 = .ok (.putfield 26, 3) := by decide +kernel
theorem dX7_save_18 : decode cX7_save 18 = .ok (.aload_n 0, 1) := by decide +kernel
theorem dX7_save_19 : decode cX7_save 19 = .ok (.getfield 9, 3) := by decide +kernel
theorem dX7_save_22 : decode cX7_save 22 = .ok (.iconst 3, 1) := by decide +kernel
theorem dX7_save_23 : decode cX7_save 23 = .ok (.iaload, 1) := by decide +kernel
theorem dX7_save_24 : decode cX7_save 24 = .ok (.ireturn, 1) := by decide +kernel
theorem dX7_restore_0 : decode cX7_restore 0 = .ok (.aload_n 0, 1) := by decide +kernel
theorem dX7_restore_1 : decode cX7_restore 1 = .ok (.getfield 26, 3) := by decide +kernel
theorem dX7_restore_4 : decode cX7_restore 4 = .ok (.ifCond .ne 6, 3) := by decide +kernel
theorem dX7_restore_7 : decode cX7_restore 7 = .ok (.bipush (-5), 2) := by decide +kernel
theorem dX7_restore_9 : decode cX7_restore 9 = .ok (.ireturn, 1) := by decide +kernel
theorem dX7_restore_10 : decode cX7_restore 10 = .ok (.aload_n 0, 1) := by decide +kernel
theorem dX7_restore_11 : decode cX7_restore 11 = .ok (.getfield 16, 3) := by decide +kernel
theorem dX7_restore_14 : decode cX7_restore 14 = .ok (.iconst 0, 1) := by decide +kernel
theorem dX7_restore_15 : decode cX7_restore 15 = .ok (.aload_n 0, 1) := by decide +kernel
theorem dX7_restore_16 : decode cX7_restore 16 = .ok (.getfield 9, 3) := by decide +kernel
theorem dX7_restore_19 : decode cX7_restore 19 = .ok (.iconst 0, 1) := by decide +kernel
theorem dX7_restore_20 : decode cX7_restore 20 = .ok (.invokestatic 57, 3) := by decide +kernel
theorem dX7_restore_23 : decode cX7_restore 23 = .ok (.aload_n 0, 1) := by decide +kernel
theorem dX7_restore_24 : decode cX7_restore 24 = .ok (.iconst 0, 1) := by decide +kernel
theorem dX7_restore_25 : decode cX7_restore 25 = .ok (.putfield 22, 3) := by decide +kernel
theorem dX7_restore_28 : decode cX7_restore 28 = .ok (.aload_n 0, 1) := by decide +kernel
theorem dX7_restore_29 : decode cX7_restore 29 = .ok (.getfield 9, 3) := by decide +kernel
theorem dX7_restore_32 : decode cX7_restore 32 = .ok (.iconst 3, 1) := by decide +kernel
theorem dX7_restore_33 : decode cX7_restore 33 = .ok (.iaload, 1) := by decide +kernel
theorem dX7_restore_34 : decode cX7_restore 34 = .ok (.ireturn, 1) := by decide +kernel
theorem dJxf58ca_isNaN_12338_0 : decode cJxf58ca_isNaN_12338 0 = .ok (.fload_n 0, 1) := by decide +kernel
theorem dJxf58ca_isNaN_12338_1 : decode cJxf58ca_isNaN_12338 1 = .ok (.fload_n 0, 1) := by decide +kernel
theorem dJxf58ca_isNaN_12338_2 : decode cJxf58ca_isNaN_12338 2 = .ok (.fcmp .l, 1) := by decide +kernel
theorem dJxf58ca_isNaN_12338_3 : decode cJxf58ca_isNaN_12338 3 = .ok (.ifCond .eq 7, 3) := by decide +kernel
theorem dJxf58ca_isNaN_12338_6 : decode cJxf58ca_isNaN_12338 6 = .ok (.iconst 1, 1) := by decide +kernel
theorem dJxf58ca_isNaN_12338_7 : decode cJxf58ca_isNaN_12338 7 = .ok (.goto 4, 3) := by decide +kernel
theorem dJxf58ca_isNaN_12338_10 : decode cJxf58ca_isNaN_12338 10 = .ok (.iconst 0, 1) := by decide +kernel
theorem dJxf58ca_isNaN_12338_11 : decode cJxf58ca_isNaN_12338 11 = .ok (.ireturn, 1) := by decide +kernel
theorem dJxf58ca_floatToIntBits_5c35a_0 : decode cJxf58ca_floatToIntBits_5c35a 0 = .ok (.fload_n 0, 1) := by decide +kernel
theorem dJxf58ca_floatToIntBits_5c35a_1 : decode cJxf58ca_floatToIntBits_5c35a 1 = .ok (.invokestatic 59, 3) := by decide +kernel
theorem dJxf58ca_floatToIntBits_5c35a_4 : decode cJxf58ca_floatToIntBits_5c35a 4 = .ok (.ifCond .ne 8, 3) := by decide +kernel
theorem dJxf58ca_floatToIntBits_5c35a_7 : decode cJxf58ca_floatToIntBits_5c35a 7 = .ok (.fload_n 0, 1) := by decide +kernel
theorem dJxf58ca_floatToIntBits_5c35a_8 : decode cJxf58ca_floatToIntBits_5c35a 8 = .ok (.invokestatic 74, 3) := by decide +kernel
theorem dJxf58ca_floatToIntBits_5c35a_11 : decode cJxf58ca_floatToIntBits_5c35a 11 = .ok (.ireturn, 1) := by decide +kernel
theorem dJxf58ca_floatToIntBits_5c35a_12 : decode cJxf58ca_floatToIntBits_5c35a 12 = .ok (.ldc 77, 2) := by decide +kernel
theorem dJxf58ca_floatToIntBits_5c35a_14 : decode cJxf58ca_floatToIntBits_5c35a 14 = .ok (.ireturn, 1) := by decide +kernel
theorem dJ9_max_7cf53_0 : decode cJ9_max_7cf53 0 = .ok (.iload_n 0, 1) := by decide +kernel
theorem dJ9_max_7cf53_1 : decode cJ9_max_7cf53 1 = .ok (.iload_n 1, 1) := by decide +kernel
theorem dJ9_max_7cf53_2 : decode cJ9_max_7cf53 2 = .ok (.if_icmp .lt 7, 3) := by decide +kernel
theorem dJ9_max_7cf53_5 : decode cJ9_max_7cf53 5 = .ok (.iload_n 0, 1) := by decide +kernel
theorem dJ9_max_7cf53_6 : decode cJ9_max_7cf53 6 = .ok (.goto 4, 3) := by decide +kernel
theorem dJ9_max_7cf53_9 : decode cJ9_max_7cf53 9 = .ok (.iload_n 1, 1) := by decide +kernel
theorem dJ9_max_7cf53_10 : decode cJ9_max_7cf53 10 = .ok (.ireturn, 1) := by decide +kernel
theorem dJ9_min_7cf53_0 : decode cJ9_min_7cf53 0 = .ok (.iload_n 0, 1) := by decide +kernel
theorem dJ9_min_7cf53_1 : decode cJ9_min_7cf53 1 = .ok (.iload_n 1, 1) := by decide +kernel
theorem dJ9_min_7cf53_2 : decode cJ9_min_7cf53 2 = .ok (.if_icmp .gt 7, 3) := by decide +kernel
theorem dJ9_min_7cf53_5 : decode cJ9_min_7cf53 5 = .ok (.iload_n 0, 1) := by decide +kernel
theorem dJ9_min_7cf53_6 : decode cJ9_min_7cf53 6 = .ok (.goto 4, 3) := by decide +kernel
theorem dJ9_min_7cf53_9 : decode cJ9_min_7cf53 9 = .ok (.iload_n 1, 1) := by decide +kernel
theorem dJ9_min_7cf53_10 : decode cJ9_min_7cf53 10 = .ok (.ireturn, 1) := by decide +kernel
theorem dL_law_0 : decode cL_law 0 = .ok (.new 7, 3) := by decide +kernel
theorem dL_law_3 : decode cL_law 3 = .ok (.dup, 1) := by decide +kernel
theorem dL_law_4 : decode cL_law 4 = .ok (.invokespecial 9, 3) := by decide +kernel
theorem dL_law_7 : decode cL_law 7 = .ok (.astore_n 1, 1) := by decide +kernel
theorem dL_law_8 : decode cL_law 8 = .ok (.new 10, 3) := by decide +kernel
theorem dL_law_11 : decode cL_law 11 = .ok (.dup, 1) := by decide +kernel
theorem dL_law_12 : decode cL_law 12 = .ok (.invokespecial 12, 3) := by decide +kernel
theorem dL_law_15 : decode cL_law 15 = .ok (.astore_n 2, 1) := by decide +kernel
theorem dL_law_16 : decode cL_law 16 = .ok (.iconst 0, 1) := by decide +kernel
theorem dL_law_17 : decode cL_law 17 = .ok (.istore_n 3, 1) := by decide +kernel
theorem dL_law_18 : decode cL_law 18 = .ok (.iload_n 3, 1) := by decide +kernel
theorem dL_law_19 : decode cL_law 19 = .ok (.aload_n 0, 1) := by decide +kernel
theorem dL_law_20 : decode cL_law 20 = .ok (.arraylength, 1) := by decide +kernel
theorem dL_law_21 : decode cL_law 21 = .ok (.iconst 5, 1) := by decide +kernel
theorem dL_law_22 : decode cL_law 22 = .ok (.isub, 1) := by decide +kernel
theorem dL_law_23 : decode cL_law 23 = .ok (.if_icmp .gt 1264, 3) := by decide +kernel
theorem dL_law_26 : decode cL_law 26 = .ok (.aload_n 0, 1) := by decide +kernel
theorem dL_law_27 : decode cL_law 27 = .ok (.iload_n 3, 1) := by decide +kernel
theorem dL_law_28 : decode cL_law 28 = .ok (.iaload, 1) := by decide +kernel
theorem dL_law_29 : decode cL_law 29 = .ok (.bipush 63, 2) := by decide +kernel
theorem dL_law_31 : decode cL_law 31 = .ok (.iand, 1) := by decide +kernel
theorem dL_law_32 : decode cL_law 32 = .ok (.tableswitch 1249 0 38 #[172, 225, 278, 301, 344, 367, 400, 433, 456, 489, 512, 525, 538, 551, 574, 607, 640, 663, 696, 719, 752, 785, 818, 851, 884, 917, 950, 973, 986, 1009, 1022, 1035, 1048, 1081, 1104, 1157, 1190, 1223, 1236], 172) := by decide +kernel
theorem dL_law_204 : decode cL_law 204 = .ok (.aload_n 1, 1) := by decide +kernel
theorem dL_law_205 : decode cL_law 205 = .ok (.aload_n 0, 1) := by decide +kernel
theorem dL_law_206 : decode cL_law 206 = .ok (.iload_n 3, 1) := by decide +kernel
theorem dL_law_207 : decode cL_law 207 = .ok (.iconst 1, 1) := by decide +kernel
theorem dL_law_208 : decode cL_law 208 = .ok (.iadd, 1) := by decide +kernel
theorem dL_law_209 : decode cL_law 209 = .ok (.iaload, 1) := by decide +kernel
theorem dL_law_210 : decode cL_law 210 = .ok (.aload_n 0, 1) := by decide +kernel
theorem dL_law_211 : decode cL_law 211 = .ok (.iload_n 3, 1) := by decide +kernel
theorem dL_law_212 : decode cL_law 212 = .ok (.iconst 2, 1) := by decide +kernel
theorem dL_law_213 : decode cL_law 213 = .ok (.iadd, 1) := by decide +kernel
theorem dL_law_214 : decode cL_law 214 = .ok (.iaload, 1) := by decide +kernel
theorem dL_law_215 : decode cL_law 215 = .ok (.aload_n 0, 1) := by decide +kernel
theorem dL_law_216 : decode cL_law 216 = .ok (.iload_n 3, 1) := by decide +kernel
theorem dL_law_217 : decode cL_law 217 = .ok (.iconst 3, 1) := by decide +kernel
theorem dL_law_218 : decode cL_law 218 = .ok (.iadd, 1) := by decide +kernel
theorem dL_law_219 : decode cL_law 219 = .ok (.iaload, 1) := by decide +kernel
theorem dL_law_220 : decode cL_law 220 = .ok (.aload_n 0, 1) := by decide +kernel
theorem dL_law_221 : decode cL_law 221 = .ok (.iload_n 3, 1) := by decide +kernel
theorem dL_law_222 : decode cL_law 222 = .ok (.iconst 4, 1) := by decide +kernel
theorem dL_law_223 : decode cL_law 223 = .ok (.iadd, 1) := by decide +kernel
theorem dL_law_224 : decode cL_law 224 = .ok (.iaload, 1) := by decide +kernel
theorem dL_law_225 : decode cL_law 225 = .ok (.invokevirtual 13, 3) := by decide +kernel
theorem dL_law_228 : decode cL_law 228 = .ok (.aload_n 2, 1) := by decide +kernel
theorem dL_law_229 : decode cL_law 229 = .ok (.aload_n 0, 1) := by decide +kernel
theorem dL_law_230 : decode cL_law 230 = .ok (.iload_n 3, 1) := by decide +kernel
theorem dL_law_231 : decode cL_law 231 = .ok (.iconst 1, 1) := by decide +kernel
theorem dL_law_232 : decode cL_law 232 = .ok (.iadd, 1) := by decide +kernel
theorem dL_law_233 : decode cL_law 233 = .ok (.iaload, 1) := by decide +kernel
theorem dL_law_234 : decode cL_law 234 = .ok (.aload_n 0, 1) := by decide +kernel
theorem dL_law_235 : decode cL_law 235 = .ok (.iload_n 3, 1) := by decide +kernel
theorem dL_law_236 : decode cL_law 236 = .ok (.iconst 2, 1) := by decide +kernel
theorem dL_law_237 : decode cL_law 237 = .ok (.iadd, 1) := by decide +kernel
theorem dL_law_238 : decode cL_law 238 = .ok (.iaload, 1) := by decide +kernel
theorem dL_law_239 : decode cL_law 239 = .ok (.aload_n 0, 1) := by decide +kernel
theorem dL_law_240 : decode cL_law 240 = .ok (.iload_n 3, 1) := by decide +kernel
theorem dL_law_241 : decode cL_law 241 = .ok (.iconst 3, 1) := by decide +kernel
theorem dL_law_242 : decode cL_law 242 = .ok (.iadd, 1) := by decide +kernel
theorem dL_law_243 : decode cL_law 243 = .ok (.iaload, 1) := by decide +kernel
theorem dL_law_244 : decode cL_law 244 = .ok (.aload_n 0, 1) := by decide +kernel
theorem dL_law_245 : decode cL_law 245 = .ok (.iload_n 3, 1) := by decide +kernel
theorem dL_law_246 : decode cL_law 246 = .ok (.iconst 4, 1) := by decide +kernel
theorem dL_law_247 : decode cL_law 247 = .ok (.iadd, 1) := by decide +kernel
theorem dL_law_248 : decode cL_law 248 = .ok (.iaload, 1) := by decide +kernel
theorem dL_law_249 : decode cL_law 249 = .ok (.invokevirtual 17, 3) := by decide +kernel
theorem dL_law_252 : decode cL_law 252 = .ok (.if_icmp .eq 1029, 3) := by decide +kernel
theorem dL_law_255 : decode cL_law 255 = .ok (.iconst 0, 1) := by decide +kernel
theorem dL_law_256 : decode cL_law 256 = .ok (.ireturn, 1) := by decide +kernel
theorem dL_law_257 : decode cL_law 257 = .ok (.aload_n 1, 1) := by decide +kernel
theorem dL_law_258 : decode cL_law 258 = .ok (.aload_n 0, 1) := by decide +kernel
theorem dL_law_259 : decode cL_law 259 = .ok (.iload_n 3, 1) := by decide +kernel
theorem dL_law_260 : decode cL_law 260 = .ok (.iconst 1, 1) := by decide +kernel
theorem dL_law_261 : decode cL_law 261 = .ok (.iadd, 1) := by decide +kernel
theorem dL_law_262 : decode cL_law 262 = .ok (.iaload, 1) := by decide +kernel
theorem dL_law_263 : decode cL_law 263 = .ok (.aload_n 0, 1) := by decide +kernel
theorem dL_law_264 : decode cL_law 264 = .ok (.iload_n 3, 1) := by decide +kernel
theorem dL_law_265 : decode cL_law 265 = .ok (.iconst 2, 1) := by decide +kernel
theorem dL_law_266 : decode cL_law 266 = .ok (.iadd, 1) := by decide +kernel
theorem dL_law_267 : decode cL_law 267 = .ok (.iaload, 1) := by decide +kernel
theorem dL_law_268 : decode cL_law 268 = .ok (.aload_n 0, 1) := by decide +kernel
theorem dL_law_269 : decode cL_law 269 = .ok (.iload_n 3, 1) := by decide +kernel
theorem dL_law_270 : decode cL_law 270 = .ok (.iconst 3, 1) := by decide +kernel
theorem dL_law_271 : decode cL_law 271 = .ok (.iadd, 1) := by decide +kernel
theorem dL_law_272 : decode cL_law 272 = .ok (.iaload, 1) := by decide +kernel
theorem dL_law_273 : decode cL_law 273 = .ok (.aload_n 0, 1) := by decide +kernel
theorem dL_law_274 : decode cL_law 274 = .ok (.iload_n 3, 1) := by decide +kernel
theorem dL_law_275 : decode cL_law 275 = .ok (.iconst 4, 1) := by decide +kernel
theorem dL_law_276 : decode cL_law 276 = .ok (.iadd, 1) := by decide +kernel
theorem dL_law_277 : decode cL_law 277 = .ok (.iaload, 1) := by decide +kernel
theorem dL_law_278 : decode cL_law 278 = .ok (.invokevirtual 18, 3) := by decide +kernel
theorem dL_law_281 : decode cL_law 281 = .ok (.aload_n 2, 1) := by decide +kernel
theorem dL_law_282 : decode cL_law 282 = .ok (.aload_n 0, 1) := by decide +kernel
theorem dL_law_283 : decode cL_law 283 = .ok (.iload_n 3, 1) := by decide +kernel
theorem dL_law_284 : decode cL_law 284 = .ok (.iconst 1, 1) := by decide +kernel
theorem dL_law_285 : decode cL_law 285 = .ok (.iadd, 1) := by decide +kernel
theorem dL_law_286 : decode cL_law 286 = .ok (.iaload, 1) := by decide +kernel
theorem dL_law_287 : decode cL_law 287 = .ok (.aload_n 0, 1) := by decide +kernel
theorem dL_law_288 : decode cL_law 288 = .ok (.iload_n 3, 1) := by decide +kernel
theorem dL_law_289 : decode cL_law 289 = .ok (.iconst 2, 1) := by decide +kernel
theorem dL_law_290 : decode cL_law 290 = .ok (.iadd, 1) := by decide +kernel
theorem dL_law_291 : decode cL_law 291 = .ok (.iaload, 1) := by decide +kernel
theorem dL_law_292 : decode cL_law 292 = .ok (.aload_n 0, 1) := by decide +kernel
theorem dL_law_293 : decode cL_law 293 = .ok (.iload_n 3, 1) := by decide +kernel
theorem dL_law_294 : decode cL_law 294 = .ok (.iconst 3, 1) := by decide +kernel
theorem dL_law_295 : decode cL_law 295 = .ok (.iadd, 1) := by decide +kernel
theorem dL_law_296 : decode cL_law 296 = .ok (.iaload, 1) := by decide +kernel
theorem dL_law_297 : decode cL_law 297 = .ok (.aload_n 0, 1) := by decide +kernel
theorem dL_law_298 : decode cL_law 298 = .ok (.iload_n 3, 1) := by decide +kernel
theorem dL_law_299 : decode cL_law 299 = .ok (.iconst 4, 1) := by decide +kernel
theorem dL_law_300 : decode cL_law 300 = .ok (.iadd, 1) := by decide +kernel
theorem dL_law_301 : decode cL_law 301 = .ok (.iaload, 1) := by decide +kernel
theorem dL_law_302 : decode cL_law 302 = .ok (.invokevirtual 21, 3) := by decide +kernel
theorem dL_law_305 : decode cL_law 305 = .ok (.if_icmp .eq 976, 3) := by decide +kernel
theorem dL_law_308 : decode cL_law 308 = .ok (.iconst 0, 1) := by decide +kernel
theorem dL_law_309 : decode cL_law 309 = .ok (.ireturn, 1) := by decide +kernel
theorem dL_law_310 : decode cL_law 310 = .ok (.aload_n 1, 1) := by decide +kernel
theorem dL_law_311 : decode cL_law 311 = .ok (.aload_n 0, 1) := by decide +kernel
theorem dL_law_312 : decode cL_law 312 = .ok (.iload_n 3, 1) := by decide +kernel
theorem dL_law_313 : decode cL_law 313 = .ok (.iconst 1, 1) := by decide +kernel
theorem dL_law_314 : decode cL_law 314 = .ok (.iadd, 1) := by decide +kernel
theorem dL_law_315 : decode cL_law 315 = .ok (.iaload, 1) := by decide +kernel
theorem dL_law_316 : decode cL_law 316 = .ok (.invokevirtual 22, 3) := by decide +kernel
theorem dL_law_319 : decode cL_law 319 = .ok (.aload_n 2, 1) := by decide +kernel
theorem dL_law_320 : decode cL_law 320 = .ok (.aload_n 0, 1) := by decide +kernel
theorem dL_law_321 : decode cL_law 321 = .ok (.iload_n 3, 1) := by decide +kernel
theorem dL_law_322 : decode cL_law 322 = .ok (.iconst 1, 1) := by decide +kernel
theorem dL_law_323 : decode cL_law 323 = .ok (.iadd, 1) := by decide +kernel
theorem dL_law_324 : decode cL_law 324 = .ok (.iaload, 1) := by decide +kernel
theorem dL_law_325 : decode cL_law 325 = .ok (.invokevirtual 26, 3) := by decide +kernel
theorem dL_law_328 : decode cL_law 328 = .ok (.if_icmp .eq 953, 3) := by decide +kernel
theorem dL_law_331 : decode cL_law 331 = .ok (.iconst 0, 1) := by decide +kernel
theorem dL_law_332 : decode cL_law 332 = .ok (.ireturn, 1) := by decide +kernel
theorem dL_law_333 : decode cL_law 333 = .ok (.aload_n 1, 1) := by decide +kernel
theorem dL_law_334 : decode cL_law 334 = .ok (.aload_n 0, 1) := by decide +kernel
theorem dL_law_335 : decode cL_law 335 = .ok (.iload_n 3, 1) := by decide +kernel
theorem dL_law_336 : decode cL_law 336 = .ok (.iconst 1, 1) := by decide +kernel
theorem dL_law_337 : decode cL_law 337 = .ok (.iadd, 1) := by decide +kernel
theorem dL_law_338 : decode cL_law 338 = .ok (.iaload, 1) := by decide +kernel
theorem dL_law_339 : decode cL_law 339 = .ok (.aload_n 0, 1) := by decide +kernel
theorem dL_law_340 : decode cL_law 340 = .ok (.iload_n 3, 1) := by decide +kernel
theorem dL_law_341 : decode cL_law 341 = .ok (.iconst 2, 1) := by decide +kernel
theorem dL_law_342 : decode cL_law 342 = .ok (.iadd, 1) := by decide +kernel
theorem dL_law_343 : decode cL_law 343 = .ok (.iaload, 1) := by decide +kernel
theorem dL_law_344 : decode cL_law 344 = .ok (.aload_n 0, 1) := by decide +kernel
theorem dL_law_345 : decode cL_law 345 = .ok (.iload_n 3, 1) := by decide +kernel
theorem dL_law_346 : decode cL_law 346 = .ok (.iconst 3, 1) := by decide +kernel
theorem dL_law_347 : decode cL_law 347 = .ok (.iadd, 1) := by decide +kernel
theorem dL_law_348 : decode cL_law 348 = .ok (.iaload, 1) := by decide +kernel
theorem dL_law_349 : decode cL_law 349 = .ok (.invokevirtual 27, 3) := by decide +kernel
theorem dL_law_352 : decode cL_law 352 = .ok (.aload_n 2, 1) := by decide +kernel
theorem dL_law_353 : decode cL_law 353 = .ok (.aload_n 0, 1) := by decide +kernel
theorem dL_law_354 : decode cL_law 354 = .ok (.iload_n 3, 1) := by decide +kernel
theorem dL_law_355 : decode cL_law 355 = .ok (.iconst 1, 1) := by decide +kernel
theorem dL_law_356 : decode cL_law 356 = .ok (.iadd, 1) := by decide +kernel
theorem dL_law_357 : decode cL_law 357 = .ok (.iaload, 1) := by decide +kernel
theorem dL_law_358 : decode cL_law 358 = .ok (.aload_n 0, 1) := by decide +kernel
theorem dL_law_359 : decode cL_law 359 = .ok (.iload_n 3, 1) := by decide +kernel
theorem dL_law_360 : decode cL_law 360 = .ok (.iconst 2, 1) := by decide +kernel
theorem dL_law_361 : decode cL_law 361 = .ok (.iadd, 1) := by decide +kernel
theorem dL_law_362 : decode cL_law 362 = .ok (.iaload, 1) := by decide +kernel
theorem dL_law_363 : decode cL_law 363 = .ok (.aload_n 0, 1) := by decide +kernel
theorem dL_law_364 : decode cL_law 364 = .ok (.iload_n 3, 1) := by decide +kernel
theorem dL_law_365 : decode cL_law 365 = .ok (.iconst 3, 1) := by decide +kernel
theorem dL_law_366 : decode cL_law 366 = .ok (.iadd, 1) := by decide +kernel
theorem dL_law_367 : decode cL_law 367 = .ok (.iaload, 1) := by decide +kernel
theorem dL_law_368 : decode cL_law 368 = .ok (.invokevirtual 31, 3) := by decide +kernel
theorem dL_law_371 : decode cL_law 371 = .ok (.if_icmp .eq 910, 3) := by decide +kernel
theorem dL_law_374 : decode cL_law 374 = .ok (.iconst 0, 1) := by decide +kernel
theorem dL_law_375 : decode cL_law 375 = .ok (.ireturn, 1) := by decide +kernel
theorem dL_law_376 : decode cL_law 376 = .ok (.aload_n 1, 1) := by decide +kernel
theorem dL_law_377 : decode cL_law 377 = .ok (.aload_n 0, 1) := by decide +kernel
theorem dL_law_378 : decode cL_law 378 = .ok (.iload_n 3, 1) := by decide +kernel
theorem dL_law_379 : decode cL_law 379 = .ok (.iconst 1, 1) := by decide +kernel
theorem dL_law_380 : decode cL_law 380 = .ok (.iadd, 1) := by decide +kernel
theorem dL_law_381 : decode cL_law 381 = .ok (.iaload, 1) := by decide +kernel
theorem dL_law_382 : decode cL_law 382 = .ok (.invokevirtual 32, 3) := by decide +kernel
theorem dL_law_385 : decode cL_law 385 = .ok (.aload_n 2, 1) := by decide +kernel
theorem dL_law_386 : decode cL_law 386 = .ok (.aload_n 0, 1) := by decide +kernel
theorem dL_law_387 : decode cL_law 387 = .ok (.iload_n 3, 1) := by decide +kernel
theorem dL_law_388 : decode cL_law 388 = .ok (.iconst 1, 1) := by decide +kernel
theorem dL_law_389 : decode cL_law 389 = .ok (.iadd, 1) := by decide +kernel
theorem dL_law_390 : decode cL_law 390 = .ok (.iaload, 1) := by decide +kernel
theorem dL_law_391 : decode cL_law 391 = .ok (.invokevirtual 35, 3) := by decide +kernel
theorem dL_law_394 : decode cL_law 394 = .ok (.if_icmp .eq 887, 3) := by decide +kernel
theorem dL_law_397 : decode cL_law 397 = .ok (.iconst 0, 1) := by decide +kernel
theorem dL_law_398 : decode cL_law 398 = .ok (.ireturn, 1) := by decide +kernel
theorem dL_law_399 : decode cL_law 399 = .ok (.aload_n 1, 1) := by decide +kernel
theorem dL_law_400 : decode cL_law 400 = .ok (.aload_n 0, 1) := by decide +kernel
theorem dL_law_401 : decode cL_law 401 = .ok (.iload_n 3, 1) := by decide +kernel
theorem dL_law_402 : decode cL_law 402 = .ok (.iconst 1, 1) := by decide +kernel
theorem dL_law_403 : decode cL_law 403 = .ok (.iadd, 1) := by decide +kernel
theorem dL_law_404 : decode cL_law 404 = .ok (.iaload, 1) := by decide +kernel
theorem dL_law_405 : decode cL_law 405 = .ok (.aload_n 0, 1) := by decide +kernel
theorem dL_law_406 : decode cL_law 406 = .ok (.iload_n 3, 1) := by decide +kernel
theorem dL_law_407 : decode cL_law 407 = .ok (.iconst 2, 1) := by decide +kernel
theorem dL_law_408 : decode cL_law 408 = .ok (.iadd, 1) := by decide +kernel
theorem dL_law_409 : decode cL_law 409 = .ok (.iaload, 1) := by decide +kernel
theorem dL_law_410 : decode cL_law 410 = .ok (.invokevirtual 36, 3) := by decide +kernel
theorem dL_law_413 : decode cL_law 413 = .ok (.aload_n 2, 1) := by decide +kernel
theorem dL_law_414 : decode cL_law 414 = .ok (.aload_n 0, 1) := by decide +kernel
theorem dL_law_415 : decode cL_law 415 = .ok (.iload_n 3, 1) := by decide +kernel
theorem dL_law_416 : decode cL_law 416 = .ok (.iconst 1, 1) := by decide +kernel
theorem dL_law_417 : decode cL_law 417 = .ok (.iadd, 1) := by decide +kernel
theorem dL_law_418 : decode cL_law 418 = .ok (.iaload, 1) := by decide +kernel
theorem dL_law_419 : decode cL_law 419 = .ok (.aload_n 0, 1) := by decide +kernel
theorem dL_law_420 : decode cL_law 420 = .ok (.iload_n 3, 1) := by decide +kernel
theorem dL_law_421 : decode cL_law 421 = .ok (.iconst 2, 1) := by decide +kernel
theorem dL_law_422 : decode cL_law 422 = .ok (.iadd, 1) := by decide +kernel
theorem dL_law_423 : decode cL_law 423 = .ok (.iaload, 1) := by decide +kernel
theorem dL_law_424 : decode cL_law 424 = .ok (.invokevirtual 40, 3) := by decide +kernel
theorem dL_law_427 : decode cL_law 427 = .ok (.if_icmp .eq 854, 3) := by decide +kernel
theorem dL_law_430 : decode cL_law 430 = .ok (.iconst 0, 1) := by decide +kernel
theorem dL_law_431 : decode cL_law 431 = .ok (.ireturn, 1) := by decide +kernel
theorem dL_law_432 : decode cL_law 432 = .ok (.aload_n 1, 1) := by decide +kernel
theorem dL_law_433 : decode cL_law 433 = .ok (.aload_n 0, 1) := by decide +kernel
theorem dL_law_434 : decode cL_law 434 = .ok (.iload_n 3, 1) := by decide +kernel
theorem dL_law_435 : decode cL_law 435 = .ok (.iconst 1, 1) := by decide +kernel
theorem dL_law_436 : decode cL_law 436 = .ok (.iadd, 1) := by decide +kernel
theorem dL_law_437 : decode cL_law 437 = .ok (.iaload, 1) := by decide +kernel
theorem dL_law_438 : decode cL_law 438 = .ok (.aload_n 0, 1) := by decide +kernel
theorem dL_law_439 : decode cL_law 439 = .ok (.iload_n 3, 1) := by decide +kernel
theorem dL_law_440 : decode cL_law 440 = .ok (.iconst 2, 1) := by decide +kernel
theorem dL_law_441 : decode cL_law 441 = .ok (.iadd, 1) := by decide +kernel
theorem dL_law_442 : decode cL_law 442 = .ok (.iaload, 1) := by decide +kernel
theorem dL_law_443 : decode cL_law 443 = .ok (.invokevirtual 41, 3) := by decide +kernel
theorem dL_law_446 : decode cL_law 446 = .ok (.aload_n 2, 1) := by decide +kernel
theorem dL_law_447 : decode cL_law 447 = .ok (.aload_n 0, 1) := by decide +kernel
theorem dL_law_448 : decode cL_law 448 = .ok (.iload_n 3, 1) := by decide +kernel
theorem dL_law_449 : decode cL_law 449 = .ok (.iconst 1, 1) := by decide +kernel
theorem dL_law_450 : decode cL_law 450 = .ok (.iadd, 1) := by decide +kernel
theorem dL_law_451 : decode cL_law 451 = .ok (.iaload, 1) := by decide +kernel
theorem dL_law_452 : decode cL_law 452 = .ok (.aload_n 0, 1) := by decide +kernel
theorem dL_law_453 : decode cL_law 453 = .ok (.iload_n 3, 1) := by decide +kernel
theorem dL_law_454 : decode cL_law 454 = .ok (.iconst 2, 1) := by decide +kernel
theorem dL_law_455 : decode cL_law 455 = .ok (.iadd, 1) := by decide +kernel
theorem dL_law_456 : decode cL_law 456 = .ok (.iaload, 1) := by decide +kernel
theorem dL_law_457 : decode cL_law 457 = .ok (.invokevirtual 44, 3) := by decide +kernel
theorem dL_law_460 : decode cL_law 460 = .ok (.if_icmp .eq 821, 3) := by decide +kernel
theorem dL_law_463 : decode cL_law 463 = .ok (.iconst 0, 1) := by decide +kernel
theorem dL_law_464 : decode cL_law 464 = .ok (.ireturn, 1) := by decide +kernel
theorem dL_law_465 : decode cL_law 465 = .ok (.aload_n 1, 1) := by decide +kernel
theorem dL_law_466 : decode cL_law 466 = .ok (.aload_n 0, 1) := by decide +kernel
theorem dL_law_467 : decode cL_law 467 = .ok (.iload_n 3, 1) := by decide +kernel
theorem dL_law_468 : decode cL_law 468 = .ok (.iconst 1, 1) := by decide +kernel
theorem dL_law_469 : decode cL_law 469 = .ok (.iadd, 1) := by decide +kernel
theorem dL_law_470 : decode cL_law 470 = .ok (.iaload, 1) := by decide +kernel
theorem dL_law_471 : decode cL_law 471 = .ok (.invokevirtual 45, 3) := by decide +kernel
theorem dL_law_474 : decode cL_law 474 = .ok (.aload_n 2, 1) := by decide +kernel
theorem dL_law_475 : decode cL_law 475 = .ok (.aload_n 0, 1) := by decide +kernel
theorem dL_law_476 : decode cL_law 476 = .ok (.iload_n 3, 1) := by decide +kernel
theorem dL_law_477 : decode cL_law 477 = .ok (.iconst 1, 1) := by decide +kernel
theorem dL_law_478 : decode cL_law 478 = .ok (.iadd, 1) := by decide +kernel
theorem dL_law_479 : decode cL_law 479 = .ok (.iaload, 1) := by decide +kernel
theorem dL_law_480 : decode cL_law 480 = .ok (.invokevirtual 48, 3) := by decide +kernel
theorem dL_law_483 : decode cL_law 483 = .ok (.if_icmp .eq 798, 3) := by decide +kernel
theorem dL_law_486 : decode cL_law 486 = .ok (.iconst 0, 1) := by decide +kernel
theorem dL_law_487 : decode cL_law 487 = .ok (.ireturn, 1) := by decide +kernel
theorem dL_law_488 : decode cL_law 488 = .ok (.aload_n 1, 1) := by decide +kernel
theorem dL_law_489 : decode cL_law 489 = .ok (.aload_n 0, 1) := by decide +kernel
theorem dL_law_490 : decode cL_law 490 = .ok (.iload_n 3, 1) := by decide +kernel
theorem dL_law_491 : decode cL_law 491 = .ok (.iconst 1, 1) := by decide +kernel
theorem dL_law_492 : decode cL_law 492 = .ok (.iadd, 1) := by decide +kernel
theorem dL_law_493 : decode cL_law 493 = .ok (.iaload, 1) := by decide +kernel
theorem dL_law_494 : decode cL_law 494 = .ok (.aload_n 0, 1) := by decide +kernel
theorem dL_law_495 : decode cL_law 495 = .ok (.iload_n 3, 1) := by decide +kernel
theorem dL_law_496 : decode cL_law 496 = .ok (.iconst 2, 1) := by decide +kernel
theorem dL_law_497 : decode cL_law 497 = .ok (.iadd, 1) := by decide +kernel
theorem dL_law_498 : decode cL_law 498 = .ok (.iaload, 1) := by decide +kernel
theorem dL_law_499 : decode cL_law 499 = .ok (.invokevirtual 49, 3) := by decide +kernel
theorem dL_law_502 : decode cL_law 502 = .ok (.aload_n 2, 1) := by decide +kernel
theorem dL_law_503 : decode cL_law 503 = .ok (.aload_n 0, 1) := by decide +kernel
theorem dL_law_504 : decode cL_law 504 = .ok (.iload_n 3, 1) := by decide +kernel
theorem dL_law_505 : decode cL_law 505 = .ok (.iconst 1, 1) := by decide +kernel
theorem dL_law_506 : decode cL_law 506 = .ok (.iadd, 1) := by decide +kernel
theorem dL_law_507 : decode cL_law 507 = .ok (.iaload, 1) := by decide +kernel
theorem dL_law_508 : decode cL_law 508 = .ok (.aload_n 0, 1) := by decide +kernel
theorem dL_law_509 : decode cL_law 509 = .ok (.iload_n 3, 1) := by decide +kernel
theorem dL_law_510 : decode cL_law 510 = .ok (.iconst 2, 1) := by decide +kernel
theorem dL_law_511 : decode cL_law 511 = .ok (.iadd, 1) := by decide +kernel
theorem dL_law_512 : decode cL_law 512 = .ok (.iaload, 1) := by decide +kernel
theorem dL_law_513 : decode cL_law 513 = .ok (.invokevirtual 52, 3) := by decide +kernel
theorem dL_law_516 : decode cL_law 516 = .ok (.if_icmp .eq 765, 3) := by decide +kernel
theorem dL_law_519 : decode cL_law 519 = .ok (.iconst 0, 1) := by decide +kernel
theorem dL_law_520 : decode cL_law 520 = .ok (.ireturn, 1) := by decide +kernel
theorem dL_law_521 : decode cL_law 521 = .ok (.aload_n 1, 1) := by decide +kernel
theorem dL_law_522 : decode cL_law 522 = .ok (.aload_n 0, 1) := by decide +kernel
theorem dL_law_523 : decode cL_law 523 = .ok (.iload_n 3, 1) := by decide +kernel
theorem dL_law_524 : decode cL_law 524 = .ok (.iconst 1, 1) := by decide +kernel
theorem dL_law_525 : decode cL_law 525 = .ok (.iadd, 1) := by decide +kernel
theorem dL_law_526 : decode cL_law 526 = .ok (.iaload, 1) := by decide +kernel
theorem dL_law_527 : decode cL_law 527 = .ok (.invokevirtual 53, 3) := by decide +kernel
theorem dL_law_530 : decode cL_law 530 = .ok (.aload_n 2, 1) := by decide +kernel
theorem dL_law_531 : decode cL_law 531 = .ok (.aload_n 0, 1) := by decide +kernel
theorem dL_law_532 : decode cL_law 532 = .ok (.iload_n 3, 1) := by decide +kernel
theorem dL_law_533 : decode cL_law 533 = .ok (.iconst 1, 1) := by decide +kernel
theorem dL_law_534 : decode cL_law 534 = .ok (.iadd, 1) := by decide +kernel
theorem dL_law_535 : decode cL_law 535 = .ok (.iaload, 1) := by decide +kernel
theorem dL_law_536 : decode cL_law 536 = .ok (.invokevirtual 56, 3) := by decide +kernel
theorem dL_law_539 : decode cL_law 539 = .ok (.if_icmp .eq 742, 3) := by decide +kernel
theorem dL_law_542 : decode cL_law 542 = .ok (.iconst 0, 1) := by decide +kernel
theorem dL_law_543 : decode cL_law 543 = .ok (.ireturn, 1) := by decide +kernel
theorem dL_law_544 : decode cL_law 544 = .ok (.aload_n 1, 1) := by decide +kernel
theorem dL_law_545 : decode cL_law 545 = .ok (.invokevirtual 57, 3) := by decide +kernel
theorem dL_law_548 : decode cL_law 548 = .ok (.aload_n 2, 1) := by decide +kernel
theorem dL_law_549 : decode cL_law 549 = .ok (.invokevirtual 61, 3) := by decide +kernel
theorem dL_law_552 : decode cL_law 552 = .ok (.if_icmp .eq 729, 3) := by decide +kernel
theorem dL_law_555 : decode cL_law 555 = .ok (.iconst 0, 1) := by decide +kernel
theorem dL_law_556 : decode cL_law 556 = .ok (.ireturn, 1) := by decide +kernel
theorem dL_law_557 : decode cL_law 557 = .ok (.aload_n 1, 1) := by decide +kernel
theorem dL_law_558 : decode cL_law 558 = .ok (.invokevirtual 62, 3) := by decide +kernel
theorem dL_law_561 : decode cL_law 561 = .ok (.aload_n 2, 1) := by decide +kernel
theorem dL_law_562 : decode cL_law 562 = .ok (.invokevirtual 65, 3) := by decide +kernel
theorem dL_law_565 : decode cL_law 565 = .ok (.if_icmp .eq 716, 3) := by decide +kernel
theorem dL_law_568 : decode cL_law 568 = .ok (.iconst 0, 1) := by decide +kernel
theorem dL_law_569 : decode cL_law 569 = .ok (.ireturn, 1) := by decide +kernel
theorem dL_law_570 : decode cL_law 570 = .ok (.aload_n 1, 1) := by decide +kernel
theorem dL_law_571 : decode cL_law 571 = .ok (.invokevirtual 66, 3) := by decide +kernel
theorem dL_law_574 : decode cL_law 574 = .ok (.aload_n 2, 1) := by decide +kernel
theorem dL_law_575 : decode cL_law 575 = .ok (.invokevirtual 69, 3) := by decide +kernel
theorem dL_law_578 : decode cL_law 578 = .ok (.if_icmp .eq 703, 3) := by decide +kernel
theorem dL_law_581 : decode cL_law 581 = .ok (.iconst 0, 1) := by decide +kernel
theorem dL_law_582 : decode cL_law 582 = .ok (.ireturn, 1) := by decide +kernel
theorem dL_law_583 : decode cL_law 583 = .ok (.aload_n 1, 1) := by decide +kernel
theorem dL_law_584 : decode cL_law 584 = .ok (.aload_n 0, 1) := by decide +kernel
theorem dL_law_585 : decode cL_law 585 = .ok (.iload_n 3, 1) := by decide +kernel
theorem dL_law_586 : decode cL_law 586 = .ok (.iconst 1, 1) := by decide +kernel
theorem dL_law_587 : decode cL_law 587 = .ok (.iadd, 1) := by decide +kernel
theorem dL_law_588 : decode cL_law 588 = .ok (.iaload, 1) := by decide +kernel
theorem dL_law_589 : decode cL_law 589 = .ok (.invokevirtual 70, 3) := by decide +kernel
theorem dL_law_592 : decode cL_law 592 = .ok (.aload_n 2, 1) := by decide +kernel
theorem dL_law_593 : decode cL_law 593 = .ok (.aload_n 0, 1) := by decide +kernel
theorem dL_law_594 : decode cL_law 594 = .ok (.iload_n 3, 1) := by decide +kernel
theorem dL_law_595 : decode cL_law 595 = .ok (.iconst 1, 1) := by decide +kernel
theorem dL_law_596 : decode cL_law 596 = .ok (.iadd, 1) := by decide +kernel
theorem dL_law_597 : decode cL_law 597 = .ok (.iaload, 1) := by decide +kernel
theorem dL_law_598 : decode cL_law 598 = .ok (.invokevirtual 73, 3) := by decide +kernel
theorem dL_law_601 : decode cL_law 601 = .ok (.if_icmp .eq 680, 3) := by decide +kernel
theorem dL_law_604 : decode cL_law 604 = .ok (.iconst 0, 1) := by decide +kernel
theorem dL_law_605 : decode cL_law 605 = .ok (.ireturn, 1) := by decide +kernel
theorem dL_law_606 : decode cL_law 606 = .ok (.aload_n 1, 1) := by decide +kernel
theorem dL_law_607 : decode cL_law 607 = .ok (.aload_n 0, 1) := by decide +kernel
theorem dL_law_608 : decode cL_law 608 = .ok (.iload_n 3, 1) := by decide +kernel
theorem dL_law_609 : decode cL_law 609 = .ok (.iconst 1, 1) := by decide +kernel
theorem dL_law_610 : decode cL_law 610 = .ok (.iadd, 1) := by decide +kernel
theorem dL_law_611 : decode cL_law 611 = .ok (.iaload, 1) := by decide +kernel
theorem dL_law_612 : decode cL_law 612 = .ok (.aload_n 0, 1) := by decide +kernel
theorem dL_law_613 : decode cL_law 613 = .ok (.iload_n 3, 1) := by decide +kernel
theorem dL_law_614 : decode cL_law 614 = .ok (.iconst 2, 1) := by decide +kernel
theorem dL_law_615 : decode cL_law 615 = .ok (.iadd, 1) := by decide +kernel
theorem dL_law_616 : decode cL_law 616 = .ok (.iaload, 1) := by decide +kernel
theorem dL_law_617 : decode cL_law 617 = .ok (.invokevirtual 74, 3) := by decide +kernel
theorem dL_law_620 : decode cL_law 620 = .ok (.aload_n 2, 1) := by decide +kernel
theorem dL_law_621 : decode cL_law 621 = .ok (.aload_n 0, 1) := by decide +kernel
theorem dL_law_622 : decode cL_law 622 = .ok (.iload_n 3, 1) := by decide +kernel
theorem dL_law_623 : decode cL_law 623 = .ok (.iconst 1, 1) := by decide +kernel
theorem dL_law_624 : decode cL_law 624 = .ok (.iadd, 1) := by decide +kernel
theorem dL_law_625 : decode cL_law 625 = .ok (.iaload, 1) := by decide +kernel
theorem dL_law_626 : decode cL_law 626 = .ok (.aload_n 0, 1) := by decide +kernel
theorem dL_law_627 : decode cL_law 627 = .ok (.iload_n 3, 1) := by decide +kernel
theorem dL_law_628 : decode cL_law 628 = .ok (.iconst 2, 1) := by decide +kernel
theorem dL_law_629 : decode cL_law 629 = .ok (.iadd, 1) := by decide +kernel
theorem dL_law_630 : decode cL_law 630 = .ok (.iaload, 1) := by decide +kernel
theorem dL_law_631 : decode cL_law 631 = .ok (.invokevirtual 77, 3) := by decide +kernel
theorem dL_law_634 : decode cL_law 634 = .ok (.if_icmp .eq 647, 3) := by decide +kernel
theorem dL_law_637 : decode cL_law 637 = .ok (.iconst 0, 1) := by decide +kernel
theorem dL_law_638 : decode cL_law 638 = .ok (.ireturn, 1) := by decide +kernel
theorem dL_law_639 : decode cL_law 639 = .ok (.aload_n 1, 1) := by decide +kernel
theorem dL_law_640 : decode cL_law 640 = .ok (.aload_n 0, 1) := by decide +kernel
theorem dL_law_641 : decode cL_law 641 = .ok (.iload_n 3, 1) := by decide +kernel
theorem dL_law_642 : decode cL_law 642 = .ok (.iconst 1, 1) := by decide +kernel
theorem dL_law_643 : decode cL_law 643 = .ok (.iadd, 1) := by decide +kernel
theorem dL_law_644 : decode cL_law 644 = .ok (.iaload, 1) := by decide +kernel
theorem dL_law_645 : decode cL_law 645 = .ok (.aload_n 0, 1) := by decide +kernel
theorem dL_law_646 : decode cL_law 646 = .ok (.iload_n 3, 1) := by decide +kernel
theorem dL_law_647 : decode cL_law 647 = .ok (.iconst 2, 1) := by decide +kernel
theorem dL_law_648 : decode cL_law 648 = .ok (.iadd, 1) := by decide +kernel
theorem dL_law_649 : decode cL_law 649 = .ok (.iaload, 1) := by decide +kernel
theorem dL_law_650 : decode cL_law 650 = .ok (.invokevirtual 78, 3) := by decide +kernel
theorem dL_law_653 : decode cL_law 653 = .ok (.aload_n 2, 1) := by decide +kernel
theorem dL_law_654 : decode cL_law 654 = .ok (.aload_n 0, 1) := by decide +kernel
theorem dL_law_655 : decode cL_law 655 = .ok (.iload_n 3, 1) := by decide +kernel
theorem dL_law_656 : decode cL_law 656 = .ok (.iconst 1, 1) := by decide +kernel
theorem dL_law_657 : decode cL_law 657 = .ok (.iadd, 1) := by decide +kernel
theorem dL_law_658 : decode cL_law 658 = .ok (.iaload, 1) := by decide +kernel
theorem dL_law_659 : decode cL_law 659 = .ok (.aload_n 0, 1) := by decide +kernel
theorem dL_law_660 : decode cL_law 660 = .ok (.iload_n 3, 1) := by decide +kernel
theorem dL_law_661 : decode cL_law 661 = .ok (.iconst 2, 1) := by decide +kernel
theorem dL_law_662 : decode cL_law 662 = .ok (.iadd, 1) := by decide +kernel
theorem dL_law_663 : decode cL_law 663 = .ok (.iaload, 1) := by decide +kernel
theorem dL_law_664 : decode cL_law 664 = .ok (.invokevirtual 81, 3) := by decide +kernel
theorem dL_law_667 : decode cL_law 667 = .ok (.if_icmp .eq 614, 3) := by decide +kernel
theorem dL_law_670 : decode cL_law 670 = .ok (.iconst 0, 1) := by decide +kernel
theorem dL_law_671 : decode cL_law 671 = .ok (.ireturn, 1) := by decide +kernel
theorem dL_law_672 : decode cL_law 672 = .ok (.aload_n 1, 1) := by decide +kernel
theorem dL_law_673 : decode cL_law 673 = .ok (.aload_n 0, 1) := by decide +kernel
theorem dL_law_674 : decode cL_law 674 = .ok (.iload_n 3, 1) := by decide +kernel
theorem dL_law_675 : decode cL_law 675 = .ok (.iconst 1, 1) := by decide +kernel
theorem dL_law_676 : decode cL_law 676 = .ok (.iadd, 1) := by decide +kernel
theorem dL_law_677 : decode cL_law 677 = .ok (.iaload, 1) := by decide +kernel
theorem dL_law_678 : decode cL_law 678 = .ok (.invokevirtual 82, 3) := by decide +kernel
theorem dL_law_681 : decode cL_law 681 = .ok (.aload_n 2, 1) := by decide +kernel
theorem dL_law_682 : decode cL_law 682 = .ok (.aload_n 0, 1) := by decide +kernel
theorem dL_law_683 : decode cL_law 683 = .ok (.iload_n 3, 1) := by decide +kernel
theorem dL_law_684 : decode cL_law 684 = .ok (.iconst 1, 1) := by decide +kernel
theorem dL_law_685 : decode cL_law 685 = .ok (.iadd, 1) := by decide +kernel
theorem dL_law_686 : decode cL_law 686 = .ok (.iaload, 1) := by decide +kernel
theorem dL_law_687 : decode cL_law 687 = .ok (.invokevirtual 85, 3) := by decide +kernel
theorem dL_law_690 : decode cL_law 690 = .ok (.if_icmp .eq 591, 3) := by decide +kernel
theorem dL_law_693 : decode cL_law 693 = .ok (.iconst 0, 1) := by decide +kernel
theorem dL_law_694 : decode cL_law 694 = .ok (.ireturn, 1) := by decide +kernel
theorem dL_law_695 : decode cL_law 695 = .ok (.aload_n 1, 1) := by decide +kernel
theorem dL_law_696 : decode cL_law 696 = .ok (.aload_n 0, 1) := by decide +kernel
theorem dL_law_697 : decode cL_law 697 = .ok (.iload_n 3, 1) := by decide +kernel
theorem dL_law_698 : decode cL_law 698 = .ok (.iconst 1, 1) := by decide +kernel
theorem dL_law_699 : decode cL_law 699 = .ok (.iadd, 1) := by decide +kernel
theorem dL_law_700 : decode cL_law 700 = .ok (.iaload, 1) := by decide +kernel
theorem dL_law_701 : decode cL_law 701 = .ok (.aload_n 0, 1) := by decide +kernel
theorem dL_law_702 : decode cL_law 702 = .ok (.iload_n 3, 1) := by decide +kernel
theorem dL_law_703 : decode cL_law 703 = .ok (.iconst 2, 1) := by decide +kernel
theorem dL_law_704 : decode cL_law 704 = .ok (.iadd, 1) := by decide +kernel
theorem dL_law_705 : decode cL_law 705 = .ok (.iaload, 1) := by decide +kernel
theorem dL_law_706 : decode cL_law 706 = .ok (.invokevirtual 86, 3) := by decide +kernel
theorem dL_law_709 : decode cL_law 709 = .ok (.aload_n 2, 1) := by decide +kernel
theorem dL_law_710 : decode cL_law 710 = .ok (.aload_n 0, 1) := by decide +kernel
theorem dL_law_711 : decode cL_law 711 = .ok (.iload_n 3, 1) := by decide +kernel
theorem dL_law_712 : decode cL_law 712 = .ok (.iconst 1, 1) := by decide +kernel
theorem dL_law_713 : decode cL_law 713 = .ok (.iadd, 1) := by decide +kernel
theorem dL_law_714 : decode cL_law 714 = .ok (.iaload, 1) := by decide +kernel
theorem dL_law_715 : decode cL_law 715 = .ok (.aload_n 0, 1) := by decide +kernel
theorem dL_law_716 : decode cL_law 716 = .ok (.iload_n 3, 1) := by decide +kernel
theorem dL_law_717 : decode cL_law 717 = .ok (.iconst 2, 1) := by decide +kernel
theorem dL_law_718 : decode cL_law 718 = .ok (.iadd, 1) := by decide +kernel
theorem dL_law_719 : decode cL_law 719 = .ok (.iaload, 1) := by decide +kernel
theorem dL_law_720 : decode cL_law 720 = .ok (.invokevirtual 89, 3) := by decide +kernel
theorem dL_law_723 : decode cL_law 723 = .ok (.if_icmp .eq 558, 3) := by decide +kernel
theorem dL_law_726 : decode cL_law 726 = .ok (.iconst 0, 1) := by decide +kernel
theorem dL_law_727 : decode cL_law 727 = .ok (.ireturn, 1) := by decide +kernel
theorem dL_law_728 : decode cL_law 728 = .ok (.aload_n 1, 1) := by decide +kernel
theorem dL_law_729 : decode cL_law 729 = .ok (.aload_n 0, 1) := by decide +kernel
theorem dL_law_730 : decode cL_law 730 = .ok (.iload_n 3, 1) := by decide +kernel
theorem dL_law_731 : decode cL_law 731 = .ok (.iconst 1, 1) := by decide +kernel
theorem dL_law_732 : decode cL_law 732 = .ok (.iadd, 1) := by decide +kernel
theorem dL_law_733 : decode cL_law 733 = .ok (.iaload, 1) := by decide +kernel
theorem dL_law_734 : decode cL_law 734 = .ok (.invokevirtual 90, 3) := by decide +kernel
theorem dL_law_737 : decode cL_law 737 = .ok (.aload_n 2, 1) := by decide +kernel
theorem dL_law_738 : decode cL_law 738 = .ok (.aload_n 0, 1) := by decide +kernel
theorem dL_law_739 : decode cL_law 739 = .ok (.iload_n 3, 1) := by decide +kernel
theorem dL_law_740 : decode cL_law 740 = .ok (.iconst 1, 1) := by decide +kernel
theorem dL_law_741 : decode cL_law 741 = .ok (.iadd, 1) := by decide +kernel
theorem dL_law_742 : decode cL_law 742 = .ok (.iaload, 1) := by decide +kernel
theorem dL_law_743 : decode cL_law 743 = .ok (.invokevirtual 93, 3) := by decide +kernel
theorem dL_law_746 : decode cL_law 746 = .ok (.if_icmp .eq 535, 3) := by decide +kernel
theorem dL_law_749 : decode cL_law 749 = .ok (.iconst 0, 1) := by decide +kernel
theorem dL_law_750 : decode cL_law 750 = .ok (.ireturn, 1) := by decide +kernel
theorem dL_law_751 : decode cL_law 751 = .ok (.aload_n 1, 1) := by decide +kernel
theorem dL_law_752 : decode cL_law 752 = .ok (.aload_n 0, 1) := by decide +kernel
theorem dL_law_753 : decode cL_law 753 = .ok (.iload_n 3, 1) := by decide +kernel
theorem dL_law_754 : decode cL_law 754 = .ok (.iconst 1, 1) := by decide +kernel
theorem dL_law_755 : decode cL_law 755 = .ok (.iadd, 1) := by decide +kernel
theorem dL_law_756 : decode cL_law 756 = .ok (.iaload, 1) := by decide +kernel
theorem dL_law_757 : decode cL_law 757 = .ok (.aload_n 0, 1) := by decide +kernel
theorem dL_law_758 : decode cL_law 758 = .ok (.iload_n 3, 1) := by decide +kernel
theorem dL_law_759 : decode cL_law 759 = .ok (.iconst 2, 1) := by decide +kernel
theorem dL_law_760 : decode cL_law 760 = .ok (.iadd, 1) := by decide +kernel
theorem dL_law_761 : decode cL_law 761 = .ok (.iaload, 1) := by decide +kernel
theorem dL_law_762 : decode cL_law 762 = .ok (.invokevirtual 94, 3) := by decide +kernel
theorem dL_law_765 : decode cL_law 765 = .ok (.aload_n 2, 1) := by decide +kernel
theorem dL_law_766 : decode cL_law 766 = .ok (.aload_n 0, 1) := by decide +kernel
theorem dL_law_767 : decode cL_law 767 = .ok (.iload_n 3, 1) := by decide +kernel
theorem dL_law_768 : decode cL_law 768 = .ok (.iconst 1, 1) := by decide +kernel
theorem dL_law_769 : decode cL_law 769 = .ok (.iadd, 1) := by decide +kernel
theorem dL_law_770 : decode cL_law 770 = .ok (.iaload, 1) := by decide +kernel
theorem dL_law_771 : decode cL_law 771 = .ok (.aload_n 0, 1) := by decide +kernel
theorem dL_law_772 : decode cL_law 772 = .ok (.iload_n 3, 1) := by decide +kernel
theorem dL_law_773 : decode cL_law 773 = .ok (.iconst 2, 1) := by decide +kernel
theorem dL_law_774 : decode cL_law 774 = .ok (.iadd, 1) := by decide +kernel
theorem dL_law_775 : decode cL_law 775 = .ok (.iaload, 1) := by decide +kernel
theorem dL_law_776 : decode cL_law 776 = .ok (.invokevirtual 97, 3) := by decide +kernel
theorem dL_law_779 : decode cL_law 779 = .ok (.if_icmp .eq 502, 3) := by decide +kernel
theorem dL_law_782 : decode cL_law 782 = .ok (.iconst 0, 1) := by decide +kernel
theorem dL_law_783 : decode cL_law 783 = .ok (.ireturn, 1) := by decide +kernel
theorem dL_law_784 : decode cL_law 784 = .ok (.aload_n 1, 1) := by decide +kernel
theorem dL_law_785 : decode cL_law 785 = .ok (.aload_n 0, 1) := by decide +kernel
theorem dL_law_786 : decode cL_law 786 = .ok (.iload_n 3, 1) := by decide +kernel
theorem dL_law_787 : decode cL_law 787 = .ok (.iconst 1, 1) := by decide +kernel
theorem dL_law_788 : decode cL_law 788 = .ok (.iadd, 1) := by decide +kernel
theorem dL_law_789 : decode cL_law 789 = .ok (.iaload, 1) := by decide +kernel
theorem dL_law_790 : decode cL_law 790 = .ok (.aload_n 0, 1) := by decide +kernel
theorem dL_law_791 : decode cL_law 791 = .ok (.iload_n 3, 1) := by decide +kernel
theorem dL_law_792 : decode cL_law 792 = .ok (.iconst 2, 1) := by decide +kernel
theorem dL_law_793 : decode cL_law 793 = .ok (.iadd, 1) := by decide +kernel
theorem dL_law_794 : decode cL_law 794 = .ok (.iaload, 1) := by decide +kernel
theorem dL_law_795 : decode cL_law 795 = .ok (.invokevirtual 98, 3) := by decide +kernel
theorem dL_law_798 : decode cL_law 798 = .ok (.aload_n 2, 1) := by decide +kernel
theorem dL_law_799 : decode cL_law 799 = .ok (.aload_n 0, 1) := by decide +kernel
theorem dL_law_800 : decode cL_law 800 = .ok (.iload_n 3, 1) := by decide +kernel
theorem dL_law_801 : decode cL_law 801 = .ok (.iconst 1, 1) := by decide +kernel
theorem dL_law_802 : decode cL_law 802 = .ok (.iadd, 1) := by decide +kernel
theorem dL_law_803 : decode cL_law 803 = .ok (.iaload, 1) := by decide +kernel
theorem dL_law_804 : decode cL_law 804 = .ok (.aload_n 0, 1) := by decide +kernel
theorem dL_law_805 : decode cL_law 805 = .ok (.iload_n 3, 1) := by decide +kernel
theorem dL_law_806 : decode cL_law 806 = .ok (.iconst 2, 1) := by decide +kernel
theorem dL_law_807 : decode cL_law 807 = .ok (.iadd, 1) := by decide +kernel
theorem dL_law_808 : decode cL_law 808 = .ok (.iaload, 1) := by decide +kernel
theorem dL_law_809 : decode cL_law 809 = .ok (.invokevirtual 101, 3) := by decide +kernel
theorem dL_law_812 : decode cL_law 812 = .ok (.if_icmp .eq 469, 3) := by decide +kernel
theorem dL_law_815 : decode cL_law 815 = .ok (.iconst 0, 1) := by decide +kernel
theorem dL_law_816 : decode cL_law 816 = .ok (.ireturn, 1) := by decide +kernel
theorem dL_law_817 : decode cL_law 817 = .ok (.aload_n 1, 1) := by decide +kernel
theorem dL_law_818 : decode cL_law 818 = .ok (.aload_n 0, 1) := by decide +kernel
theorem dL_law_819 : decode cL_law 819 = .ok (.iload_n 3, 1) := by decide +kernel
theorem dL_law_820 : decode cL_law 820 = .ok (.iconst 1, 1) := by decide +kernel
theorem dL_law_821 : decode cL_law 821 = .ok (.iadd, 1) := by decide +kernel
theorem dL_law_822 : decode cL_law 822 = .ok (.iaload, 1) := by decide +kernel
theorem dL_law_823 : decode cL_law 823 = .ok (.aload_n 0, 1) := by decide +kernel
theorem dL_law_824 : decode cL_law 824 = .ok (.iload_n 3, 1) := by decide +kernel
theorem dL_law_825 : decode cL_law 825 = .ok (.iconst 2, 1) := by decide +kernel
theorem dL_law_826 : decode cL_law 826 = .ok (.iadd, 1) := by decide +kernel
theorem dL_law_827 : decode cL_law 827 = .ok (.iaload, 1) := by decide +kernel
theorem dL_law_828 : decode cL_law 828 = .ok (.invokevirtual 102, 3) := by decide +kernel
theorem dL_law_831 : decode cL_law 831 = .ok (.aload_n 2, 1) := by decide +kernel
theorem dL_law_832 : decode cL_law 832 = .ok (.aload_n 0, 1) := by decide +kernel
theorem dL_law_833 : decode cL_law 833 = .ok (.iload_n 3, 1) := by decide +kernel
theorem dL_law_834 : decode cL_law 834 = .ok (.iconst 1, 1) := by decide +kernel
theorem dL_law_835 : decode cL_law 835 = .ok (.iadd, 1) := by decide +kernel
theorem dL_law_836 : decode cL_law 836 = .ok (.iaload, 1) := by decide +kernel
theorem dL_law_837 : decode cL_law 837 = .ok (.aload_n 0, 1) := by decide +kernel
theorem dL_law_838 : decode cL_law 838 = .ok (.iload_n 3, 1) := by decide +kernel
theorem dL_law_839 : decode cL_law 839 = .ok (.iconst 2, 1) := by decide +kernel
theorem dL_law_840 : decode cL_law 840 = .ok (.iadd, 1) := by decide +kernel
theorem dL_law_841 : decode cL_law 841 = .ok (.iaload, 1) := by decide +kernel
theorem dL_law_842 : decode cL_law 842 = .ok (.invokevirtual 105, 3) := by decide +kernel
theorem dL_law_845 : decode cL_law 845 = .ok (.if_icmp .eq 436, 3) := by decide +kernel
theorem dL_law_848 : decode cL_law 848 = .ok (.iconst 0, 1) := by decide +kernel
theorem dL_law_849 : decode cL_law 849 = .ok (.ireturn, 1) := by decide +kernel
theorem dL_law_850 : decode cL_law 850 = .ok (.aload_n 1, 1) := by decide +kernel
theorem dL_law_851 : decode cL_law 851 = .ok (.aload_n 0, 1) := by decide +kernel
theorem dL_law_852 : decode cL_law 852 = .ok (.iload_n 3, 1) := by decide +kernel
theorem dL_law_853 : decode cL_law 853 = .ok (.iconst 1, 1) := by decide +kernel
theorem dL_law_854 : decode cL_law 854 = .ok (.iadd, 1) := by decide +kernel
theorem dL_law_855 : decode cL_law 855 = .ok (.iaload, 1) := by decide +kernel
theorem dL_law_856 : decode cL_law 856 = .ok (.aload_n 0, 1) := by decide +kernel
theorem dL_law_857 : decode cL_law 857 = .ok (.iload_n 3, 1) := by decide +kernel
theorem dL_law_858 : decode cL_law 858 = .ok (.iconst 2, 1) := by decide +kernel
theorem dL_law_859 : decode cL_law 859 = .ok (.iadd, 1) := by decide +kernel
theorem dL_law_860 : decode cL_law 860 = .ok (.iaload, 1) := by decide +kernel
theorem dL_law_861 : decode cL_law 861 = .ok (.invokevirtual 106, 3) := by decide +kernel
theorem dL_law_864 : decode cL_law 864 = .ok (.aload_n 2, 1) := by decide +kernel
theorem dL_law_865 : decode cL_law 865 = .ok (.aload_n 0, 1) := by decide +kernel
theorem dL_law_866 : decode cL_law 866 = .ok (.iload_n 3, 1) := by decide +kernel
theorem dL_law_867 : decode cL_law 867 = .ok (.iconst 1, 1) := by decide +kernel
theorem dL_law_868 : decode cL_law 868 = .ok (.iadd, 1) := by decide +kernel
theorem dL_law_869 : decode cL_law 869 = .ok (.iaload, 1) := by decide +kernel
theorem dL_law_870 : decode cL_law 870 = .ok (.aload_n 0, 1) := by decide +kernel
theorem dL_law_871 : decode cL_law 871 = .ok (.iload_n 3, 1) := by decide +kernel
theorem dL_law_872 : decode cL_law 872 = .ok (.iconst 2, 1) := by decide +kernel
theorem dL_law_873 : decode cL_law 873 = .ok (.iadd, 1) := by decide +kernel
theorem dL_law_874 : decode cL_law 874 = .ok (.iaload, 1) := by decide +kernel
theorem dL_law_875 : decode cL_law 875 = .ok (.invokevirtual 109, 3) := by decide +kernel
theorem dL_law_878 : decode cL_law 878 = .ok (.if_icmp .eq 403, 3) := by decide +kernel
theorem dL_law_881 : decode cL_law 881 = .ok (.iconst 0, 1) := by decide +kernel
theorem dL_law_882 : decode cL_law 882 = .ok (.ireturn, 1) := by decide +kernel
theorem dL_law_883 : decode cL_law 883 = .ok (.aload_n 1, 1) := by decide +kernel
theorem dL_law_884 : decode cL_law 884 = .ok (.aload_n 0, 1) := by decide +kernel
theorem dL_law_885 : decode cL_law 885 = .ok (.iload_n 3, 1) := by decide +kernel
theorem dL_law_886 : decode cL_law 886 = .ok (.iconst 1, 1) := by decide +kernel
theorem dL_law_887 : decode cL_law 887 = .ok (.iadd, 1) := by decide +kernel
theorem dL_law_888 : decode cL_law 888 = .ok (.iaload, 1) := by decide +kernel
theorem dL_law_889 : decode cL_law 889 = .ok (.aload_n 0, 1) := by decide +kernel
theorem dL_law_890 : decode cL_law 890 = .ok (.iload_n 3, 1) := by decide +kernel
theorem dL_law_891 : decode cL_law 891 = .ok (.iconst 2, 1) := by decide +kernel
theorem dL_law_892 : decode cL_law 892 = .ok (.iadd, 1) := by decide +kernel
theorem dL_law_893 : decode cL_law 893 = .ok (.iaload, 1) := by decide +kernel
theorem dL_law_894 : decode cL_law 894 = .ok (.invokevirtual 110, 3) := by decide +kernel
theorem dL_law_897 : decode cL_law 897 = .ok (.aload_n 2, 1) := by decide +kernel
theorem dL_law_898 : decode cL_law 898 = .ok (.aload_n 0, 1) := by decide +kernel
theorem dL_law_899 : decode cL_law 899 = .ok (.iload_n 3, 1) := by decide +kernel
theorem dL_law_900 : decode cL_law 900 = .ok (.iconst 1, 1) := by decide +kernel
theorem dL_law_901 : decode cL_law 901 = .ok (.iadd, 1) := by decide +kernel
theorem dL_law_902 : decode cL_law 902 = .ok (.iaload, 1) := by decide +kernel
theorem dL_law_903 : decode cL_law 903 = .ok (.aload_n 0, 1) := by decide +kernel
theorem dL_law_904 : decode cL_law 904 = .ok (.iload_n 3, 1) := by decide +kernel
theorem dL_law_905 : decode cL_law 905 = .ok (.iconst 2, 1) := by decide +kernel
theorem dL_law_906 : decode cL_law 906 = .ok (.iadd, 1) := by decide +kernel
theorem dL_law_907 : decode cL_law 907 = .ok (.iaload, 1) := by decide +kernel
theorem dL_law_908 : decode cL_law 908 = .ok (.invokevirtual 113, 3) := by decide +kernel
theorem dL_law_911 : decode cL_law 911 = .ok (.if_icmp .eq 370, 3) := by decide +kernel
theorem dL_law_914 : decode cL_law 914 = .ok (.iconst 0, 1) := by decide +kernel
theorem dL_law_915 : decode cL_law 915 = .ok (.ireturn, 1) := by decide +kernel
theorem dL_law_916 : decode cL_law 916 = .ok (.aload_n 1, 1) := by decide +kernel
theorem dL_law_917 : decode cL_law 917 = .ok (.aload_n 0, 1) := by decide +kernel
theorem dL_law_918 : decode cL_law 918 = .ok (.iload_n 3, 1) := by decide +kernel
theorem dL_law_919 : decode cL_law 919 = .ok (.iconst 1, 1) := by decide +kernel
theorem dL_law_920 : decode cL_law 920 = .ok (.iadd, 1) := by decide +kernel
theorem dL_law_921 : decode cL_law 921 = .ok (.iaload, 1) := by decide +kernel
theorem dL_law_922 : decode cL_law 922 = .ok (.aload_n 0, 1) := by decide +kernel
theorem dL_law_923 : decode cL_law 923 = .ok (.iload_n 3, 1) := by decide +kernel
theorem dL_law_924 : decode cL_law 924 = .ok (.iconst 2, 1) := by decide +kernel
theorem dL_law_925 : decode cL_law 925 = .ok (.iadd, 1) := by decide +kernel
theorem dL_law_926 : decode cL_law 926 = .ok (.iaload, 1) := by decide +kernel
theorem dL_law_927 : decode cL_law 927 = .ok (.invokevirtual 114, 3) := by decide +kernel
theorem dL_law_930 : decode cL_law 930 = .ok (.aload_n 2, 1) := by decide +kernel
theorem dL_law_931 : decode cL_law 931 = .ok (.aload_n 0, 1) := by decide +kernel
theorem dL_law_932 : decode cL_law 932 = .ok (.iload_n 3, 1) := by decide +kernel
theorem dL_law_933 : decode cL_law 933 = .ok (.iconst 1, 1) := by decide +kernel
theorem dL_law_934 : decode cL_law 934 = .ok (.iadd, 1) := by decide +kernel
theorem dL_law_935 : decode cL_law 935 = .ok (.iaload, 1) := by decide +kernel
theorem dL_law_936 : decode cL_law 936 = .ok (.aload_n 0, 1) := by decide +kernel
theorem dL_law_937 : decode cL_law 937 = .ok (.iload_n 3, 1) := by decide +kernel
theorem dL_law_938 : decode cL_law 938 = .ok (.iconst 2, 1) := by decide +kernel
theorem dL_law_939 : decode cL_law 939 = .ok (.iadd, 1) := by decide +kernel
theorem dL_law_940 : decode cL_law 940 = .ok (.iaload, 1) := by decide +kernel
theorem dL_law_941 : decode cL_law 941 = .ok (.invokevirtual 117, 3) := by decide +kernel
theorem dL_law_944 : decode cL_law 944 = .ok (.if_icmp .eq 337, 3) := by decide +kernel
theorem dL_law_947 : decode cL_law 947 = .ok (.iconst 0, 1) := by decide +kernel
theorem dL_law_948 : decode cL_law 948 = .ok (.ireturn, 1) := by decide +kernel
theorem dL_law_949 : decode cL_law 949 = .ok (.aload_n 1, 1) := by decide +kernel
theorem dL_law_950 : decode cL_law 950 = .ok (.aload_n 0, 1) := by decide +kernel
theorem dL_law_951 : decode cL_law 951 = .ok (.iload_n 3, 1) := by decide +kernel
theorem dL_law_952 : decode cL_law 952 = .ok (.iconst 1, 1) := by decide +kernel
theorem dL_law_953 : decode cL_law 953 = .ok (.iadd, 1) := by decide +kernel
theorem dL_law_954 : decode cL_law 954 = .ok (.iaload, 1) := by decide +kernel
theorem dL_law_955 : decode cL_law 955 = .ok (.aload_n 0, 1) := by decide +kernel
theorem dL_law_956 : decode cL_law 956 = .ok (.iload_n 3, 1) := by decide +kernel
theorem dL_law_957 : decode cL_law 957 = .ok (.iconst 2, 1) := by decide +kernel
theorem dL_law_958 : decode cL_law 958 = .ok (.iadd, 1) := by decide +kernel
theorem dL_law_959 : decode cL_law 959 = .ok (.iaload, 1) := by decide +kernel
theorem dL_law_960 : decode cL_law 960 = .ok (.invokevirtual 118, 3) := by decide +kernel
theorem dL_law_963 : decode cL_law 963 = .ok (.aload_n 2, 1) := by decide +kernel
theorem dL_law_964 : decode cL_law 964 = .ok (.aload_n 0, 1) := by decide +kernel
theorem dL_law_965 : decode cL_law 965 = .ok (.iload_n 3, 1) := by decide +kernel
theorem dL_law_966 : decode cL_law 966 = .ok (.iconst 1, 1) := by decide +kernel
theorem dL_law_967 : decode cL_law 967 = .ok (.iadd, 1) := by decide +kernel
theorem dL_law_968 : decode cL_law 968 = .ok (.iaload, 1) := by decide +kernel
theorem dL_law_969 : decode cL_law 969 = .ok (.aload_n 0, 1) := by decide +kernel
theorem dL_law_970 : decode cL_law 970 = .ok (.iload_n 3, 1) := by decide +kernel
theorem dL_law_971 : decode cL_law 971 = .ok (.iconst 2, 1) := by decide +kernel
theorem dL_law_972 : decode cL_law 972 = .ok (.iadd, 1) := by decide +kernel
theorem dL_law_973 : decode cL_law 973 = .ok (.iaload, 1) := by decide +kernel
theorem dL_law_974 : decode cL_law 974 = .ok (.invokevirtual 121, 3) := by decide +kernel
theorem dL_law_977 : decode cL_law 977 = .ok (.if_icmp .eq 304, 3) := by decide +kernel
theorem dL_law_980 : decode cL_law 980 = .ok (.iconst 0, 1) := by decide +kernel
theorem dL_law_981 : decode cL_law 981 = .ok (.ireturn, 1) := by decide +kernel
theorem dL_law_982 : decode cL_law 982 = .ok (.aload_n 1, 1) := by decide +kernel
theorem dL_law_983 : decode cL_law 983 = .ok (.aload_n 0, 1) := by decide +kernel
theorem dL_law_984 : decode cL_law 984 = .ok (.iload_n 3, 1) := by decide +kernel
theorem dL_law_985 : decode cL_law 985 = .ok (.iconst 1, 1) := by decide +kernel
theorem dL_law_986 : decode cL_law 986 = .ok (.iadd, 1) := by decide +kernel
theorem dL_law_987 : decode cL_law 987 = .ok (.iaload, 1) := by decide +kernel
theorem dL_law_988 : decode cL_law 988 = .ok (.invokevirtual 122, 3) := by decide +kernel
theorem dL_law_991 : decode cL_law 991 = .ok (.aload_n 2, 1) := by decide +kernel
theorem dL_law_992 : decode cL_law 992 = .ok (.aload_n 0, 1) := by decide +kernel
theorem dL_law_993 : decode cL_law 993 = .ok (.iload_n 3, 1) := by decide +kernel
theorem dL_law_994 : decode cL_law 994 = .ok (.iconst 1, 1) := by decide +kernel
theorem dL_law_995 : decode cL_law 995 = .ok (.iadd, 1) := by decide +kernel
theorem dL_law_996 : decode cL_law 996 = .ok (.iaload, 1) := by decide +kernel
theorem dL_law_997 : decode cL_law 997 = .ok (.invokevirtual 125, 3) := by decide +kernel
theorem dL_law_1000 : decode cL_law 1000 = .ok (.if_icmp .eq 281, 3) := by decide +kernel
theorem dL_law_1003 : decode cL_law 1003 = .ok (.iconst 0, 1) := by decide +kernel
theorem dL_law_1004 : decode cL_law 1004 = .ok (.ireturn, 1) := by decide +kernel
theorem dL_law_1005 : decode cL_law 1005 = .ok (.aload_n 1, 1) := by decide +kernel
theorem dL_law_1006 : decode cL_law 1006 = .ok (.invokevirtual 126, 3) := by decide +kernel
theorem dL_law_1009 : decode cL_law 1009 = .ok (.aload_n 2, 1) := by decide +kernel
theorem dL_law_1010 : decode cL_law 1010 = .ok (.invokevirtual 129, 3) := by decide +kernel
theorem dL_law_1013 : decode cL_law 1013 = .ok (.if_icmp .eq 268, 3) := by decide +kernel
theorem dL_law_1016 : decode cL_law 1016 = .ok (.iconst 0, 1) := by decide +kernel
theorem dL_law_1017 : decode cL_law 1017 = .ok (.ireturn, 1) := by decide +kernel
theorem dL_law_1018 : decode cL_law 1018 = .ok (.aload_n 1, 1) := by decide +kernel
theorem dL_law_1019 : decode cL_law 1019 = .ok (.aload_n 0, 1) := by decide +kernel
theorem dL_law_1020 : decode cL_law 1020 = .ok (.iload_n 3, 1) := by decide +kernel
theorem dL_law_1021 : decode cL_law 1021 = .ok (.iconst 1, 1) := by decide +kernel
theorem dL_law_1022 : decode cL_law 1022 = .ok (.iadd, 1) := by decide +kernel
theorem dL_law_1023 : decode cL_law 1023 = .ok (.iaload, 1) := by decide +kernel
theorem dL_law_1024 : decode cL_law 1024 = .ok (.invokevirtual 130, 3) := by decide +kernel
theorem dL_law_1027 : decode cL_law 1027 = .ok (.aload_n 2, 1) := by decide +kernel
theorem dL_law_1028 : decode cL_law 1028 = .ok (.aload_n 0, 1) := by decide +kernel
theorem dL_law_1029 : decode cL_law 1029 = .ok (.iload_n 3, 1) := by decide +kernel
theorem dL_law_1030 : decode cL_law 1030 = .ok (.iconst 1, 1) := by decide +kernel
theorem dL_law_1031 : decode cL_law 1031 = .ok (.iadd, 1) := by decide +kernel
theorem dL_law_1032 : decode cL_law 1032 = .ok (.iaload, 1) := by decide +kernel
theorem dL_law_1033 : decode cL_law 1033 = .ok (.invokevirtual 133, 3) := by decide +kernel
theorem dL_law_1036 : decode cL_law 1036 = .ok (.if_icmp .eq 245, 3) := by decide +kernel
theorem dL_law_1039 : decode cL_law 1039 = .ok (.iconst 0, 1) := by decide +kernel
theorem dL_law_1040 : decode cL_law 1040 = .ok (.ireturn, 1) := by decide +kernel
theorem dL_law_1041 : decode cL_law 1041 = .ok (.aload_n 1, 1) := by decide +kernel
theorem dL_law_1042 : decode cL_law 1042 = .ok (.invokevirtual 134, 3) := by decide +kernel
theorem dL_law_1045 : decode cL_law 1045 = .ok (.aload_n 2, 1) := by decide +kernel
theorem dL_law_1046 : decode cL_law 1046 = .ok (.invokevirtual 137, 3) := by decide +kernel
theorem dL_law_1049 : decode cL_law 1049 = .ok (.if_icmp .eq 232, 3) := by decide +kernel
theorem dL_law_1052 : decode cL_law 1052 = .ok (.iconst 0, 1) := by decide +kernel
theorem dL_law_1053 : decode cL_law 1053 = .ok (.ireturn, 1) := by decide +kernel
theorem dL_law_1054 : decode cL_law 1054 = .ok (.aload_n 1, 1) := by decide +kernel
theorem dL_law_1055 : decode cL_law 1055 = .ok (.invokevirtual 138, 3) := by decide +kernel
theorem dL_law_1058 : decode cL_law 1058 = .ok (.aload_n 2, 1) := by decide +kernel
theorem dL_law_1059 : decode cL_law 1059 = .ok (.invokevirtual 141, 3) := by decide +kernel
theorem dL_law_1062 : decode cL_law 1062 = .ok (.if_icmp .eq 219, 3) := by decide +kernel
theorem dL_law_1065 : decode cL_law 1065 = .ok (.iconst 0, 1) := by decide +kernel
theorem dL_law_1066 : decode cL_law 1066 = .ok (.ireturn, 1) := by decide +kernel
theorem dL_law_1067 : decode cL_law 1067 = .ok (.aload_n 1, 1) := by decide +kernel
theorem dL_law_1068 : decode cL_law 1068 = .ok (.invokevirtual 142, 3) := by decide +kernel
theorem dL_law_1071 : decode cL_law 1071 = .ok (.aload_n 2, 1) := by decide +kernel
theorem dL_law_1072 : decode cL_law 1072 = .ok (.invokevirtual 145, 3) := by decide +kernel
theorem dL_law_1075 : decode cL_law 1075 = .ok (.if_icmp .eq 206, 3) := by decide +kernel
theorem dL_law_1078 : decode cL_law 1078 = .ok (.iconst 0, 1) := by decide +kernel
theorem dL_law_1079 : decode cL_law 1079 = .ok (.ireturn, 1) := by decide +kernel
theorem dL_law_1080 : decode cL_law 1080 = .ok (.aload_n 1, 1) := by decide +kernel
theorem dL_law_1081 : decode cL_law 1081 = .ok (.aload_n 0, 1) := by decide +kernel
theorem dL_law_1082 : decode cL_law 1082 = .ok (.iload_n 3, 1) := by decide +kernel
theorem dL_law_1083 : decode cL_law 1083 = .ok (.iconst 1, 1) := by decide +kernel
theorem dL_law_1084 : decode cL_law 1084 = .ok (.iadd, 1) := by decide +kernel
theorem dL_law_1085 : decode cL_law 1085 = .ok (.iaload, 1) := by decide +kernel
theorem dL_law_1086 : decode cL_law 1086 = .ok (.aload_n 0, 1) := by decide +kernel
theorem dL_law_1087 : decode cL_law 1087 = .ok (.iload_n 3, 1) := by decide +kernel
theorem dL_law_1088 : decode cL_law 1088 = .ok (.iconst 2, 1) := by decide +kernel
theorem dL_law_1089 : decode cL_law 1089 = .ok (.iadd, 1) := by decide +kernel
theorem dL_law_1090 : decode cL_law 1090 = .ok (.iaload, 1) := by decide +kernel
theorem dL_law_1091 : decode cL_law 1091 = .ok (.invokevirtual 146, 3) := by decide +kernel
theorem dL_law_1094 : decode cL_law 1094 = .ok (.aload_n 2, 1) := by decide +kernel
theorem dL_law_1095 : decode cL_law 1095 = .ok (.aload_n 0, 1) := by decide +kernel
theorem dL_law_1096 : decode cL_law 1096 = .ok (.iload_n 3, 1) := by decide +kernel
theorem dL_law_1097 : decode cL_law 1097 = .ok (.iconst 1, 1) := by decide +kernel
theorem dL_law_1098 : decode cL_law 1098 = .ok (.iadd, 1) := by decide +kernel
theorem dL_law_1099 : decode cL_law 1099 = .ok (.iaload, 1) := by decide +kernel
theorem dL_law_1100 : decode cL_law 1100 = .ok (.aload_n 0, 1) := by decide +kernel
theorem dL_law_1101 : decode cL_law 1101 = .ok (.iload_n 3, 1) := by decide +kernel
theorem dL_law_1102 : decode cL_law 1102 = .ok (.iconst 2, 1) := by decide +kernel
theorem dL_law_1103 : decode cL_law 1103 = .ok (.iadd, 1) := by decide +kernel
theorem dL_law_1104 : decode cL_law 1104 = .ok (.iaload, 1) := by decide +kernel
theorem dL_law_1105 : decode cL_law 1105 = .ok (.invokevirtual 149, 3) := by decide +kernel
theorem dL_law_1108 : decode cL_law 1108 = .ok (.if_icmp .eq 173, 3) := by decide +kernel
theorem dL_law_1111 : decode cL_law 1111 = .ok (.iconst 0, 1) := by decide +kernel
theorem dL_law_1112 : decode cL_law 1112 = .ok (.ireturn, 1) := by decide +kernel
theorem dL_law_1113 : decode cL_law 1113 = .ok (.aload_n 1, 1) := by decide +kernel
theorem dL_law_1114 : decode cL_law 1114 = .ok (.aload_n 0, 1) := by decide +kernel
theorem dL_law_1115 : decode cL_law 1115 = .ok (.iload_n 3, 1) := by decide +kernel
theorem dL_law_1116 : decode cL_law 1116 = .ok (.iconst 1, 1) := by decide +kernel
theorem dL_law_1117 : decode cL_law 1117 = .ok (.iadd, 1) := by decide +kernel
theorem dL_law_1118 : decode cL_law 1118 = .ok (.iaload, 1) := by decide +kernel
theorem dL_law_1119 : decode cL_law 1119 = .ok (.invokevirtual 150, 3) := by decide +kernel
theorem dL_law_1122 : decode cL_law 1122 = .ok (.aload_n 2, 1) := by decide +kernel
theorem dL_law_1123 : decode cL_law 1123 = .ok (.aload_n 0, 1) := by decide +kernel
theorem dL_law_1124 : decode cL_law 1124 = .ok (.iload_n 3, 1) := by decide +kernel
theorem dL_law_1125 : decode cL_law 1125 = .ok (.iconst 1, 1) := by decide +kernel
theorem dL_law_1126 : decode cL_law 1126 = .ok (.iadd, 1) := by decide +kernel
theorem dL_law_1127 : decode cL_law 1127 = .ok (.iaload, 1) := by decide +kernel
theorem dL_law_1128 : decode cL_law 1128 = .ok (.invokevirtual 153, 3) := by decide +kernel
theorem dL_law_1131 : decode cL_law 1131 = .ok (.if_icmp .eq 150, 3) := by decide +kernel
theorem dL_law_1134 : decode cL_law 1134 = .ok (.iconst 0, 1) := by decide +kernel
theorem dL_law_1135 : decode cL_law 1135 = .ok (.ireturn, 1) := by decide +kernel
theorem dL_law_1136 : decode cL_law 1136 = .ok (.aload_n 1, 1) := by decide +kernel
theorem dL_law_1137 : decode cL_law 1137 = .ok (.aload_n 0, 1) := by decide +kernel
theorem dL_law_1138 : decode cL_law 1138 = .ok (.iload_n 3, 1) := by decide +kernel
theorem dL_law_1139 : decode cL_law 1139 = .ok (.iconst 1, 1) := by decide +kernel
theorem dL_law_1140 : decode cL_law 1140 = .ok (.iadd, 1) := by decide +kernel
theorem dL_law_1141 : decode cL_law 1141 = .ok (.iaload, 1) := by decide +kernel
theorem dL_law_1142 : decode cL_law 1142 = .ok (.aload_n 0, 1) := by decide +kernel
theorem dL_law_1143 : decode cL_law 1143 = .ok (.iload_n 3, 1) := by decide +kernel
theorem dL_law_1144 : decode cL_law 1144 = .ok (.iconst 2, 1) := by decide +kernel
theorem dL_law_1145 : decode cL_law 1145 = .ok (.iadd, 1) := by decide +kernel
theorem dL_law_1146 : decode cL_law 1146 = .ok (.iaload, 1) := by decide +kernel
theorem dL_law_1147 : decode cL_law 1147 = .ok (.aload_n 0, 1) := by decide +kernel
theorem dL_law_1148 : decode cL_law 1148 = .ok (.iload_n 3, 1) := by decide +kernel
theorem dL_law_1149 : decode cL_law 1149 = .ok (.iconst 3, 1) := by decide +kernel
theorem dL_law_1150 : decode cL_law 1150 = .ok (.iadd, 1) := by decide +kernel
theorem dL_law_1151 : decode cL_law 1151 = .ok (.iaload, 1) := by decide +kernel
theorem dL_law_1152 : decode cL_law 1152 = .ok (.aload_n 0, 1) := by decide +kernel
theorem dL_law_1153 : decode cL_law 1153 = .ok (.iload_n 3, 1) := by decide +kernel
theorem dL_law_1154 : decode cL_law 1154 = .ok (.iconst 4, 1) := by decide +kernel
theorem dL_law_1155 : decode cL_law 1155 = .ok (.iadd, 1) := by decide +kernel
theorem dL_law_1156 : decode cL_law 1156 = .ok (.iaload, 1) := by decide +kernel
theorem dL_law_1157 : decode cL_law 1157 = .ok (.invokevirtual 154, 3) := by decide +kernel
theorem dL_law_1160 : decode cL_law 1160 = .ok (.aload_n 2, 1) := by decide +kernel
theorem dL_law_1161 : decode cL_law 1161 = .ok (.aload_n 0, 1) := by decide +kernel
theorem dL_law_1162 : decode cL_law 1162 = .ok (.iload_n 3, 1) := by decide +kernel
theorem dL_law_1163 : decode cL_law 1163 = .ok (.iconst 1, 1) := by decide +kernel
theorem dL_law_1164 : decode cL_law 1164 = .ok (.iadd, 1) := by decide +kernel
theorem dL_law_1165 : decode cL_law 1165 = .ok (.iaload, 1) := by decide +kernel
theorem dL_law_1166 : decode cL_law 1166 = .ok (.aload_n 0, 1) := by decide +kernel
theorem dL_law_1167 : decode cL_law 1167 = .ok (.iload_n 3, 1) := by decide +kernel
theorem dL_law_1168 : decode cL_law 1168 = .ok (.iconst 2, 1) := by decide +kernel
theorem dL_law_1169 : decode cL_law 1169 = .ok (.iadd, 1) := by decide +kernel
theorem dL_law_1170 : decode cL_law 1170 = .ok (.iaload, 1) := by decide +kernel
theorem dL_law_1171 : decode cL_law 1171 = .ok (.aload_n 0, 1) := by decide +kernel
theorem dL_law_1172 : decode cL_law 1172 = .ok (.iload_n 3, 1) := by decide +kernel
theorem dL_law_1173 : decode cL_law 1173 = .ok (.iconst 3, 1) := by decide +kernel
theorem dL_law_1174 : decode cL_law 1174 = .ok (.iadd, 1) := by decide +kernel
theorem dL_law_1175 : decode cL_law 1175 = .ok (.iaload, 1) := by decide +kernel
theorem dL_law_1176 : decode cL_law 1176 = .ok (.aload_n 0, 1) := by decide +kernel
theorem dL_law_1177 : decode cL_law 1177 = .ok (.iload_n 3, 1) := by decide +kernel
theorem dL_law_1178 : decode cL_law 1178 = .ok (.iconst 4, 1) := by decide +kernel
theorem dL_law_1179 : decode cL_law 1179 = .ok (.iadd, 1) := by decide +kernel
theorem dL_law_1180 : decode cL_law 1180 = .ok (.iaload, 1) := by decide +kernel
theorem dL_law_1181 : decode cL_law 1181 = .ok (.invokevirtual 157, 3) := by decide +kernel
theorem dL_law_1184 : decode cL_law 1184 = .ok (.if_icmp .eq 97, 3) := by decide +kernel
theorem dL_law_1187 : decode cL_law 1187 = .ok (.iconst 0, 1) := by decide +kernel
theorem dL_law_1188 : decode cL_law 1188 = .ok (.ireturn, 1) := by decide +kernel
theorem dL_law_1189 : decode cL_law 1189 = .ok (.aload_n 1, 1) := by decide +kernel
theorem dL_law_1190 : decode cL_law 1190 = .ok (.aload_n 0, 1) := by decide +kernel
theorem dL_law_1191 : decode cL_law 1191 = .ok (.iload_n 3, 1) := by decide +kernel
theorem dL_law_1192 : decode cL_law 1192 = .ok (.iconst 1, 1) := by decide +kernel
theorem dL_law_1193 : decode cL_law 1193 = .ok (.iadd, 1) := by decide +kernel
theorem dL_law_1194 : decode cL_law 1194 = .ok (.iaload, 1) := by decide +kernel
theorem dL_law_1195 : decode cL_law 1195 = .ok (.aload_n 0, 1) := by decide +kernel
theorem dL_law_1196 : decode cL_law 1196 = .ok (.iload_n 3, 1) := by decide +kernel
theorem dL_law_1197 : decode cL_law 1197 = .ok (.iconst 2, 1) := by decide +kernel
theorem dL_law_1198 : decode cL_law 1198 = .ok (.iadd, 1) := by decide +kernel
theorem dL_law_1199 : decode cL_law 1199 = .ok (.iaload, 1) := by decide +kernel
theorem dL_law_1200 : decode cL_law 1200 = .ok (.invokevirtual 158, 3) := by decide +kernel
theorem dL_law_1203 : decode cL_law 1203 = .ok (.aload_n 2, 1) := by decide +kernel
theorem dL_law_1204 : decode cL_law 1204 = .ok (.aload_n 0, 1) := by decide +kernel
theorem dL_law_1205 : decode cL_law 1205 = .ok (.iload_n 3, 1) := by decide +kernel
theorem dL_law_1206 : decode cL_law 1206 = .ok (.iconst 1, 1) := by decide +kernel
theorem dL_law_1207 : decode cL_law 1207 = .ok (.iadd, 1) := by decide +kernel
theorem dL_law_1208 : decode cL_law 1208 = .ok (.iaload, 1) := by decide +kernel
theorem dL_law_1209 : decode cL_law 1209 = .ok (.aload_n 0, 1) := by decide +kernel
theorem dL_law_1210 : decode cL_law 1210 = .ok (.iload_n 3, 1) := by decide +kernel
theorem dL_law_1211 : decode cL_law 1211 = .ok (.iconst 2, 1) := by decide +kernel
theorem dL_law_1212 : decode cL_law 1212 = .ok (.iadd, 1) := by decide +kernel
theorem dL_law_1213 : decode cL_law 1213 = .ok (.iaload, 1) := by decide +kernel
theorem dL_law_1214 : decode cL_law 1214 = .ok (.invokevirtual 161, 3) := by decide +kernel
theorem dL_law_1217 : decode cL_law 1217 = .ok (.if_icmp .eq 64, 3) := by decide +kernel
theorem dL_law_1220 : decode cL_law 1220 = .ok (.iconst 0, 1) := by decide +kernel
theorem dL_law_1221 : decode cL_law 1221 = .ok (.ireturn, 1) := by decide +kernel
theorem dL_law_1222 : decode cL_law 1222 = .ok (.aload_n 1, 1) := by decide +kernel
theorem dL_law_1223 : decode cL_law 1223 = .ok (.aload_n 0, 1) := by decide +kernel
theorem dL_law_1224 : decode cL_law 1224 = .ok (.iload_n 3, 1) := by decide +kernel
theorem dL_law_1225 : decode cL_law 1225 = .ok (.iconst 1, 1) := by decide +kernel
theorem dL_law_1226 : decode cL_law 1226 = .ok (.iadd, 1) := by decide +kernel
theorem dL_law_1227 : decode cL_law 1227 = .ok (.iaload, 1) := by decide +kernel
theorem dL_law_1228 : decode cL_law 1228 = .ok (.aload_n 0, 1) := by decide +kernel
theorem dL_law_1229 : decode cL_law 1229 = .ok (.iload_n 3, 1) := by decide +kernel
theorem dL_law_1230 : decode cL_law 1230 = .ok (.iconst 2, 1) := by decide +kernel
theorem dL_law_1231 : decode cL_law 1231 = .ok (.iadd, 1) := by decide +kernel
theorem dL_law_1232 : decode cL_law 1232 = .ok (.iaload, 1) := by decide +kernel
theorem dL_law_1233 : decode cL_law 1233 = .ok (.invokevirtual 162, 3) := by decide +kernel
theorem dL_law_1236 : decode cL_law 1236 = .ok (.aload_n 2, 1) := by decide +kernel
theorem dL_law_1237 : decode cL_law 1237 = .ok (.aload_n 0, 1) := by decide +kernel
theorem dL_law_1238 : decode cL_law 1238 = .ok (.iload_n 3, 1) := by decide +kernel
theorem dL_law_1239 : decode cL_law 1239 = .ok (.iconst 1, 1) := by decide +kernel
theorem dL_law_1240 : decode cL_law 1240 = .ok (.iadd, 1) := by decide +kernel
theorem dL_law_1241 : decode cL_law 1241 = .ok (.iaload, 1) := by decide +kernel
theorem dL_law_1242 : decode cL_law 1242 = .ok (.aload_n 0, 1) := by decide +kernel
theorem dL_law_1243 : decode cL_law 1243 = .ok (.iload_n 3, 1) := by decide +kernel
theorem dL_law_1244 : decode cL_law 1244 = .ok (.iconst 2, 1) := by decide +kernel
theorem dL_law_1245 : decode cL_law 1245 = .ok (.iadd, 1) := by decide +kernel
theorem dL_law_1246 : decode cL_law 1246 = .ok (.iaload, 1) := by decide +kernel
theorem dL_law_1247 : decode cL_law 1247 = .ok (.invokevirtual 165, 3) := by decide +kernel
theorem dL_law_1250 : decode cL_law 1250 = .ok (.if_icmp .eq 31, 3) := by decide +kernel
theorem dL_law_1253 : decode cL_law 1253 = .ok (.iconst 0, 1) := by decide +kernel
theorem dL_law_1254 : decode cL_law 1254 = .ok (.ireturn, 1) := by decide +kernel
theorem dL_law_1255 : decode cL_law 1255 = .ok (.aload_n 1, 1) := by decide +kernel
theorem dL_law_1256 : decode cL_law 1256 = .ok (.invokevirtual 166, 3) := by decide +kernel
theorem dL_law_1259 : decode cL_law 1259 = .ok (.aload_n 2, 1) := by decide +kernel
theorem dL_law_1260 : decode cL_law 1260 = .ok (.invokevirtual 169, 3) := by decide +kernel
theorem dL_law_1263 : decode cL_law 1263 = .ok (.if_icmp .eq 18, 3) := by decide +kernel
theorem dL_law_1266 : decode cL_law 1266 = .ok (.iconst 0, 1) := by decide +kernel
theorem dL_law_1267 : decode cL_law 1267 = .ok (.ireturn, 1) := by decide +kernel
theorem dL_law_1268 : decode cL_law 1268 = .ok (.aload_n 1, 1) := by decide +kernel
theorem dL_law_1269 : decode cL_law 1269 = .ok (.invokevirtual 170, 3) := by decide +kernel
theorem dL_law_1272 : decode cL_law 1272 = .ok (.aload_n 2, 1) := by decide +kernel
theorem dL_law_1273 : decode cL_law 1273 = .ok (.invokevirtual 173, 3) := by decide +kernel
theorem dL_law_1276 : decode cL_law 1276 = .ok (.if_icmp .eq 5, 3) := by decide +kernel
theorem dL_law_1279 : decode cL_law 1279 = .ok (.iconst 0, 1) := by decide +kernel
theorem dL_law_1280 : decode cL_law 1280 = .ok (.ireturn, 1) := by decide +kernel
theorem dL_law_1281 : decode cL_law 1281 = .ok (.iinc 3 5, 3) := by decide +kernel
theorem dL_law_1284 : decode cL_law 1284 = .ok (.goto (-1266), 3) := by decide +kernel
theorem dL_law_1287 : decode cL_law 1287 = .ok (.iconst 1, 1) := by decide +kernel
theorem dL_law_1288 : decode cL_law 1288 = .ok (.ireturn, 1) := by decide +kernel
abbrev vwCl : List vw_C := [(RX0, TX0, 19), (RX1, TX1, 3), (RX2, TX2, 3), (RX3, TX3, 7), (RX4, TX4, 2), (RX5, TX5, 16), (RX6, TX6, 8), (RX7, TX7, 15)]
end
section
/-! THE DESK'S MEMORY: whole numbers by kind of cell, number of the cell and place; the one row of longs -/
abbrev Mm : Type := (Nat → Nat → Nat → Int32) × (Nat → Int64)
def rd (M : Mm) (t k j : Nat) : Int32 := M.1 t k j
def rdL (M : Mm) (j : Nat) : Int64 := M.2 j
def wr (M : Mm) (t k j : Nat) (v : Int32) : Mm := (fun a b i => if a = t ∧ b = k ∧ i = j then v else M.1 a b i, M.2)
def wrL (M : Mm) (j : Nat) (v : Int64) : Mm := (M.1, fun i => if i = j then v else M.2 i)
def wrA (M : Mm) (t k : Nat) (f : Nat → Int32) : Mm := (fun a b i => if a = t ∧ b = k then f i else M.1 a b i, M.2)
/-- the tables' numbers, the array classes, the addresses by kind and number, the cells that may be written -/
abbrev GT : Type := va_G × (Nat → ClassId) × (Nat → Nat → Nat) × (Addr → Prop)
def adr (G : GT) (t k : Nat) : Nat := G.2.2.1 t k
def gcy (G : GT) (i : Nat) : ClassId := G.2.1 i
def gA (G : GT) : Addr → Prop := G.2.2.2
def tysL (G : GT) : List (ClassId × FieldType) := [(gcy G 0, .int), (gcy G 1, .char), (gcy G 2, .long), (gcy G 3, .object RX0), (gcy G 4, .array .int)]
/-- kind of cell: 1 ints, 2 chars, 3 longs, 4 books, 5 rows of ints; its length -/
def tagT : List (Nat × Nat × Nat) := [(0, 0, 0), (1, 0, 0), (2, 0, 0), (3, 0, 0), (4, 0, 0), (5, 0, 0), (6, 0, 0), (7, 0, 0), (21, 1, 6), (22, 1, 6), (23, 1, 6), (24, 1, 6), (26, 1, 4), (27, 1, 4), (28, 1, 4), (29, 1, 4), (30, 1, 3), (33, 1, 8), (34, 1, 8), (36, 1, 24), (37, 1, 24), (38, 1, 24), (40, 4, 7), (60, 1, 24), (61, 1, 24), (62, 3, 24), (80, 2, 60), (84, 2, 20), (85, 1, 20), (86, 5, 20), (100, 1, 12), (101, 5, 12), (121, 1, 8), (122, 1, 8), (123, 1, 24), (124, 5, 8), (125, 5, 8), (126, 5, 8), (127, 5, 8), (128, 5, 8), (129, 1, 6), (130, 1, 8), (131, 5, 8), (132, 1, 4), (133, 1, 8), (134, 1, 24), (160, 1, 136), (161, 1, 816), (162, 1, 136), (163, 1, 136), (166, 1, 60), (171, 1, 3), (172, 1, 24), (173, 1, 12), (174, 1, 48), (286, 1, 3), (301, 1, 4), (324, 1, 6), (325, 1, 6), (326, 1, 6), (327, 1, 6), (328, 1, 6), (331, 1, 4)]
def kindT (t : Nat) : Nat := ((tagT.lookup t).getD (0, 0)).1
def lenT (t : Nat) : Nat := ((tagT.lookup t).getD (0, 0)).2
theorem kt21 : kindT 21 = 1 := by decide +kernel
theorem lt21 : lenT 21 = 6 := by decide +kernel
theorem kt22 : kindT 22 = 1 := by decide +kernel
theorem lt22 : lenT 22 = 6 := by decide +kernel
theorem kt23 : kindT 23 = 1 := by decide +kernel
theorem lt23 : lenT 23 = 6 := by decide +kernel
theorem kt24 : kindT 24 = 1 := by decide +kernel
theorem lt24 : lenT 24 = 6 := by decide +kernel
theorem kt26 : kindT 26 = 1 := by decide +kernel
theorem lt26 : lenT 26 = 4 := by decide +kernel
theorem kt27 : kindT 27 = 1 := by decide +kernel
theorem lt27 : lenT 27 = 4 := by decide +kernel
theorem kt28 : kindT 28 = 1 := by decide +kernel
theorem lt28 : lenT 28 = 4 := by decide +kernel
theorem kt29 : kindT 29 = 1 := by decide +kernel
theorem lt29 : lenT 29 = 4 := by decide +kernel
theorem kt30 : kindT 30 = 1 := by decide +kernel
theorem lt30 : lenT 30 = 3 := by decide +kernel
theorem kt33 : kindT 33 = 1 := by decide +kernel
theorem lt33 : lenT 33 = 8 := by decide +kernel
theorem kt34 : kindT 34 = 1 := by decide +kernel
theorem lt34 : lenT 34 = 8 := by decide +kernel
theorem kt36 : kindT 36 = 1 := by decide +kernel
theorem lt36 : lenT 36 = 24 := by decide +kernel
theorem kt37 : kindT 37 = 1 := by decide +kernel
theorem lt37 : lenT 37 = 24 := by decide +kernel
theorem kt38 : kindT 38 = 1 := by decide +kernel
theorem lt38 : lenT 38 = 24 := by decide +kernel
theorem kt40 : kindT 40 = 4 := by decide +kernel
theorem lt40 : lenT 40 = 7 := by decide +kernel
theorem kt60 : kindT 60 = 1 := by decide +kernel
theorem lt60 : lenT 60 = 24 := by decide +kernel
theorem kt61 : kindT 61 = 1 := by decide +kernel
theorem lt61 : lenT 61 = 24 := by decide +kernel
theorem kt62 : kindT 62 = 3 := by decide +kernel
theorem lt62 : lenT 62 = 24 := by decide +kernel
theorem kt80 : kindT 80 = 2 := by decide +kernel
theorem lt80 : lenT 80 = 60 := by decide +kernel
theorem kt84 : kindT 84 = 2 := by decide +kernel
theorem lt84 : lenT 84 = 20 := by decide +kernel
theorem kt85 : kindT 85 = 1 := by decide +kernel
theorem lt85 : lenT 85 = 20 := by decide +kernel
theorem kt86 : kindT 86 = 5 := by decide +kernel
theorem lt86 : lenT 86 = 20 := by decide +kernel
theorem kt100 : kindT 100 = 1 := by decide +kernel
theorem lt100 : lenT 100 = 12 := by decide +kernel
theorem kt101 : kindT 101 = 5 := by decide +kernel
theorem lt101 : lenT 101 = 12 := by decide +kernel
theorem kt121 : kindT 121 = 1 := by decide +kernel
theorem lt121 : lenT 121 = 8 := by decide +kernel
theorem kt122 : kindT 122 = 1 := by decide +kernel
theorem lt122 : lenT 122 = 8 := by decide +kernel
theorem kt123 : kindT 123 = 1 := by decide +kernel
theorem lt123 : lenT 123 = 24 := by decide +kernel
theorem kt124 : kindT 124 = 5 := by decide +kernel
theorem lt124 : lenT 124 = 8 := by decide +kernel
theorem kt125 : kindT 125 = 5 := by decide +kernel
theorem lt125 : lenT 125 = 8 := by decide +kernel
theorem kt126 : kindT 126 = 5 := by decide +kernel
theorem lt126 : lenT 126 = 8 := by decide +kernel
theorem kt127 : kindT 127 = 5 := by decide +kernel
theorem lt127 : lenT 127 = 8 := by decide +kernel
theorem kt128 : kindT 128 = 5 := by decide +kernel
theorem lt128 : lenT 128 = 8 := by decide +kernel
theorem kt129 : kindT 129 = 1 := by decide +kernel
theorem lt129 : lenT 129 = 6 := by decide +kernel
theorem kt130 : kindT 130 = 1 := by decide +kernel
theorem lt130 : lenT 130 = 8 := by decide +kernel
theorem kt131 : kindT 131 = 5 := by decide +kernel
theorem lt131 : lenT 131 = 8 := by decide +kernel
theorem kt132 : kindT 132 = 1 := by decide +kernel
theorem lt132 : lenT 132 = 4 := by decide +kernel
theorem kt133 : kindT 133 = 1 := by decide +kernel
theorem lt133 : lenT 133 = 8 := by decide +kernel
theorem kt134 : kindT 134 = 1 := by decide +kernel
theorem lt134 : lenT 134 = 24 := by decide +kernel
theorem kt160 : kindT 160 = 1 := by decide +kernel
theorem lt160 : lenT 160 = 136 := by decide +kernel
theorem kt161 : kindT 161 = 1 := by decide +kernel
theorem lt161 : lenT 161 = 816 := by decide +kernel
theorem kt162 : kindT 162 = 1 := by decide +kernel
theorem lt162 : lenT 162 = 136 := by decide +kernel
theorem kt163 : kindT 163 = 1 := by decide +kernel
theorem lt163 : lenT 163 = 136 := by decide +kernel
theorem kt166 : kindT 166 = 1 := by decide +kernel
theorem lt166 : lenT 166 = 60 := by decide +kernel
theorem kt171 : kindT 171 = 1 := by decide +kernel
theorem lt171 : lenT 171 = 3 := by decide +kernel
theorem kt172 : kindT 172 = 1 := by decide +kernel
theorem lt172 : lenT 172 = 24 := by decide +kernel
theorem kt173 : kindT 173 = 1 := by decide +kernel
theorem lt173 : lenT 173 = 12 := by decide +kernel
theorem kt174 : kindT 174 = 1 := by decide +kernel
theorem lt174 : lenT 174 = 48 := by decide +kernel
theorem kt286 : kindT 286 = 1 := by decide +kernel
theorem lt286 : lenT 286 = 3 := by decide +kernel
theorem kt301 : kindT 301 = 1 := by decide +kernel
theorem lt301 : lenT 301 = 4 := by decide +kernel
theorem kt324 : kindT 324 = 1 := by decide +kernel
theorem lt324 : lenT 324 = 6 := by decide +kernel
theorem kt325 : kindT 325 = 1 := by decide +kernel
theorem lt325 : lenT 325 = 6 := by decide +kernel
theorem kt326 : kindT 326 = 1 := by decide +kernel
theorem lt326 : lenT 326 = 6 := by decide +kernel
theorem kt327 : kindT 327 = 1 := by decide +kernel
theorem lt327 : lenT 327 = 6 := by decide +kernel
theorem kt328 : kindT 328 = 1 := by decide +kernel
theorem lt328 : lenT 328 = 6 := by decide +kernel
theorem kt331 : kindT 331 = 1 := by decide +kernel
theorem lt331 : lenT 331 = 4 := by decide +kernel
def wl : List (Nat × Nat) := [(0, 0), (0, 1), (0, 2), (0, 3), (0, 4), (0, 5), (0, 6), (0, 7), (0, 8), (1, 0), (2, 0), (3, 0), (4, 0), (5, 0), (6, 0), (7, 0), (21, 0), (21, 1), (21, 2), (21, 3), (21, 4), (21, 5), (21, 6), (21, 7), (21, 8), (22, 0), (22, 1), (22, 2), (22, 3), (22, 4), (22, 5), (22, 6), (22, 7), (22, 8), (23, 0), (23, 1), (23, 2), (23, 3), (23, 4), (23, 5), (23, 6), (23, 7), (23, 8), (24, 0), (24, 1), (24, 2), (24, 3), (24, 4), (24, 5), (24, 6), (24, 7), (24, 8), (26, 0), (26, 1), (26, 2), (26, 3), (26, 4), (26, 5), (26, 6), (26, 7), (26, 8), (27, 0), (27, 1), (27, 2), (27, 3), (27, 4), (27, 5), (27, 6), (27, 7), (27, 8), (28, 0), (28, 1), (28, 2), (28, 3), (28, 4), (28, 5), (28, 6), (28, 7), (28, 8), (29, 0), (29, 1), (29, 2), (29, 3), (29, 4), (29, 5), (29, 6), (29, 7), (29, 8), (30, 0), (30, 1), (30, 2), (30, 3), (30, 4), (30, 5), (30, 6), (30, 7), (30, 8), (33, 0), (33, 1), (33, 2), (33, 3), (33, 4), (33, 5), (33, 6), (33, 7), (33, 8), (34, 0), (34, 1), (34, 2), (34, 3), (34, 4), (34, 5), (34, 6), (34, 7), (34, 8), (36, 0), (36, 1), (36, 2), (36, 3), (36, 4), (36, 5), (36, 6), (36, 7), (36, 8), (37, 0), (37, 1), (37, 2), (37, 3), (37, 4), (37, 5), (37, 6), (37, 7), (37, 8), (38, 0), (38, 1), (38, 2), (38, 3), (38, 4), (38, 5), (38, 6), (38, 7), (38, 8), (40, 0), (60, 0), (61, 0), (62, 0), (80, 0), (84, 0), (85, 0), (86, 0), (100, 0), (101, 0), (121, 0), (122, 0), (123, 0), (124, 0), (125, 0), (126, 0), (127, 0), (128, 0), (129, 0), (130, 0), (131, 0), (132, 0), (133, 0), (134, 0), (160, 0), (161, 0), (162, 0), (163, 0), (166, 0), (171, 0), (172, 0), (173, 0), (174, 0), (286, 0), (286, 1), (286, 2), (286, 3), (286, 4), (286, 5), (286, 6), (286, 7), (286, 8), (286, 9), (286, 10), (286, 11), (286, 12), (286, 13), (286, 14), (286, 15), (286, 16), (286, 17), (286, 18), (286, 19), (301, 0), (301, 1), (301, 2), (301, 3), (301, 4), (301, 5), (301, 6), (301, 7), (301, 8), (301, 9), (301, 10), (301, 11), (324, 0), (324, 1), (324, 2), (324, 3), (324, 4), (324, 5), (324, 6), (324, 7), (325, 0), (325, 1), (325, 2), (325, 3), (325, 4), (325, 5), (325, 6), (325, 7), (326, 0), (326, 1), (326, 2), (326, 3), (326, 4), (326, 5), (326, 6), (326, 7), (327, 0), (327, 1), (327, 2), (327, 3), (327, 4), (327, 5), (327, 6), (327, 7), (328, 0), (328, 1), (328, 2), (328, 3), (328, 4), (328, 5), (328, 6), (328, 7), (331, 0), (331, 1), (331, 2), (331, 3), (331, 4), (331, 5), (331, 6), (331, 7)]
theorem mw0 : ∀ k, k < 9 → (0, k) ∈ wl := by decide +kernel
theorem mw1 : ∀ k, k < 1 → (1, k) ∈ wl := by decide +kernel
theorem mw2 : ∀ k, k < 1 → (2, k) ∈ wl := by decide +kernel
theorem mw3 : ∀ k, k < 1 → (3, k) ∈ wl := by decide +kernel
theorem mw4 : ∀ k, k < 1 → (4, k) ∈ wl := by decide +kernel
theorem mw5 : ∀ k, k < 1 → (5, k) ∈ wl := by decide +kernel
theorem mw6 : ∀ k, k < 1 → (6, k) ∈ wl := by decide +kernel
theorem mw7 : ∀ k, k < 1 → (7, k) ∈ wl := by decide +kernel
theorem mw21 : ∀ k, k < 9 → (21, k) ∈ wl := by decide +kernel
theorem mw22 : ∀ k, k < 9 → (22, k) ∈ wl := by decide +kernel
theorem mw23 : ∀ k, k < 9 → (23, k) ∈ wl := by decide +kernel
theorem mw24 : ∀ k, k < 9 → (24, k) ∈ wl := by decide +kernel
theorem mw26 : ∀ k, k < 9 → (26, k) ∈ wl := by decide +kernel
theorem mw27 : ∀ k, k < 9 → (27, k) ∈ wl := by decide +kernel
theorem mw28 : ∀ k, k < 9 → (28, k) ∈ wl := by decide +kernel
theorem mw29 : ∀ k, k < 9 → (29, k) ∈ wl := by decide +kernel
theorem mw30 : ∀ k, k < 9 → (30, k) ∈ wl := by decide +kernel
theorem mw33 : ∀ k, k < 9 → (33, k) ∈ wl := by decide +kernel
theorem mw34 : ∀ k, k < 9 → (34, k) ∈ wl := by decide +kernel
theorem mw36 : ∀ k, k < 9 → (36, k) ∈ wl := by decide +kernel
theorem mw37 : ∀ k, k < 9 → (37, k) ∈ wl := by decide +kernel
theorem mw38 : ∀ k, k < 9 → (38, k) ∈ wl := by decide +kernel
theorem mw40 : ∀ k, k < 1 → (40, k) ∈ wl := by decide +kernel
theorem mw60 : ∀ k, k < 1 → (60, k) ∈ wl := by decide +kernel
theorem mw61 : ∀ k, k < 1 → (61, k) ∈ wl := by decide +kernel
theorem mw62 : ∀ k, k < 1 → (62, k) ∈ wl := by decide +kernel
theorem mw80 : ∀ k, k < 1 → (80, k) ∈ wl := by decide +kernel
theorem mw84 : ∀ k, k < 1 → (84, k) ∈ wl := by decide +kernel
theorem mw85 : ∀ k, k < 1 → (85, k) ∈ wl := by decide +kernel
theorem mw86 : ∀ k, k < 1 → (86, k) ∈ wl := by decide +kernel
theorem mw100 : ∀ k, k < 1 → (100, k) ∈ wl := by decide +kernel
theorem mw101 : ∀ k, k < 1 → (101, k) ∈ wl := by decide +kernel
theorem mw121 : ∀ k, k < 1 → (121, k) ∈ wl := by decide +kernel
theorem mw122 : ∀ k, k < 1 → (122, k) ∈ wl := by decide +kernel
theorem mw123 : ∀ k, k < 1 → (123, k) ∈ wl := by decide +kernel
theorem mw124 : ∀ k, k < 1 → (124, k) ∈ wl := by decide +kernel
theorem mw125 : ∀ k, k < 1 → (125, k) ∈ wl := by decide +kernel
theorem mw126 : ∀ k, k < 1 → (126, k) ∈ wl := by decide +kernel
theorem mw127 : ∀ k, k < 1 → (127, k) ∈ wl := by decide +kernel
theorem mw128 : ∀ k, k < 1 → (128, k) ∈ wl := by decide +kernel
theorem mw129 : ∀ k, k < 1 → (129, k) ∈ wl := by decide +kernel
theorem mw130 : ∀ k, k < 1 → (130, k) ∈ wl := by decide +kernel
theorem mw131 : ∀ k, k < 1 → (131, k) ∈ wl := by decide +kernel
theorem mw132 : ∀ k, k < 1 → (132, k) ∈ wl := by decide +kernel
theorem mw133 : ∀ k, k < 1 → (133, k) ∈ wl := by decide +kernel
theorem mw134 : ∀ k, k < 1 → (134, k) ∈ wl := by decide +kernel
theorem mw160 : ∀ k, k < 1 → (160, k) ∈ wl := by decide +kernel
theorem mw161 : ∀ k, k < 1 → (161, k) ∈ wl := by decide +kernel
theorem mw162 : ∀ k, k < 1 → (162, k) ∈ wl := by decide +kernel
theorem mw163 : ∀ k, k < 1 → (163, k) ∈ wl := by decide +kernel
theorem mw166 : ∀ k, k < 1 → (166, k) ∈ wl := by decide +kernel
theorem mw171 : ∀ k, k < 1 → (171, k) ∈ wl := by decide +kernel
theorem mw172 : ∀ k, k < 1 → (172, k) ∈ wl := by decide +kernel
theorem mw173 : ∀ k, k < 1 → (173, k) ∈ wl := by decide +kernel
theorem mw174 : ∀ k, k < 1 → (174, k) ∈ wl := by decide +kernel
theorem mw286 : ∀ k, k < 20 → (286, k) ∈ wl := by decide +kernel
theorem mw301 : ∀ k, k < 12 → (301, k) ∈ wl := by decide +kernel
theorem mw324 : ∀ k, k < 8 → (324, k) ∈ wl := by decide +kernel
theorem mw325 : ∀ k, k < 8 → (325, k) ∈ wl := by decide +kernel
theorem mw326 : ∀ k, k < 8 → (326, k) ∈ wl := by decide +kernel
theorem mw327 : ∀ k, k < 8 → (327, k) ∈ wl := by decide +kernel
theorem mw328 : ∀ k, k < 8 → (328, k) ∈ wl := by decide +kernel
theorem mw331 : ∀ k, k < 8 → (331, k) ∈ wl := by decide +kernel
/-- an array's cell -/
def arrF (G : GT) (t : Nat) (f : Nat → Int32) (g : Nat → Int64) : va_E :=
  match kindT t with
  | 1 => .inl (gcy G 0, lenT t, .inl f)
  | 2 => .inl (gcy G 1, lenT t, .inl f)
  | 3 => .inl (gcy G 2, lenT t, .inr (.inl g))
  | 4 => .inl (gcy G 3, lenT t, .inr (.inr (.inr (.inr (fun j => some (adr G 0 (2 + j)))))))
  | _ => .inl (gcy G 4, lenT t, .inr (.inr (.inr (.inr (fun j => some (adr G (t + 200) j))))))
def objF0 (G : GT) (k : Nat) (f : Nat → Int32) : List Value := [.int (f 0), .ref (adr G 21 k), .ref (adr G 22 k), .ref (adr G 23 k), .ref (adr G 24 k), .int (f 5), .ref (adr G 26 k), .ref (adr G 27 k), .ref (adr G 28 k), .ref (adr G 29 k), .ref (adr G 30 k), .int (f 11), .int (f 12), .ref (adr G 33 k), .ref (adr G 34 k), .int (f 15), .ref (adr G 36 k), .ref (adr G 37 k), .ref (adr G 38 k)]
def objF1 (G : GT) (k : Nat) (f : Nat → Int32) : List Value := [.ref (adr G 40 k), .int (f 1), .int (f 2)]
def objF2 (G : GT) (k : Nat) (f : Nat → Int32) : List Value := [.ref (adr G 60 k), .ref (adr G 61 k), .ref (adr G 62 k)]
def objF3 (G : GT) (k : Nat) (f : Nat → Int32) : List Value := [.ref (adr G 80 k), .int (f 1), .int (f 2), .int (f 3), .ref (adr G 84 k), .ref (adr G 85 k), .ref (adr G 86 k)]
def objF4 (G : GT) (k : Nat) (f : Nat → Int32) : List Value := [.ref (adr G 100 k), .ref (adr G 101 k)]
def objF5 (G : GT) (k : Nat) (f : Nat → Int32) : List Value := [.ref (adr G 0 0), .ref (adr G 121 k), .ref (adr G 122 k), .ref (adr G 123 k), .ref (adr G 124 k), .ref (adr G 125 k), .ref (adr G 126 k), .ref (adr G 127 k), .ref (adr G 128 k), .ref (adr G 129 k), .ref (adr G 130 k), .ref (adr G 131 k), .ref (adr G 132 k), .ref (adr G 133 k), .ref (adr G 134 k), .ref (adr G 2 0)]
def objF6 (G : GT) (k : Nat) (f : Nat → Int32) : List Value := [.ref (adr G 5 0), .ref (adr G 0 0), .ref (adr G 0 1), .ref (adr G 1 0), .ref (adr G 3 0), .ref (adr G 4 0), .int (f 6), .int (f 7)]
def objF7 (G : GT) (k : Nat) (f : Nat → Int32) : List Value := [.ref (adr G 160 k), .ref (adr G 161 k), .ref (adr G 162 k), .ref (adr G 163 k), .int (f 4), .int (f 5), .ref (adr G 166 k), .int (f 7), .int (f 8), .int (f 9), .int (f 10), .ref (adr G 171 k), .ref (adr G 172 k), .ref (adr G 173 k), .ref (adr G 174 k)]
/-- what a cell holds -/
def cellF (G : GT) (t k : Nat) (f : Nat → Int32) (g : Nat → Int64) : va_E :=
  match t with
  | 0 => .inr (0, objF0 G k f)
  | 1 => .inr (1, objF1 G k f)
  | 2 => .inr (2, objF2 G k f)
  | 3 => .inr (3, objF3 G k f)
  | 4 => .inr (4, objF4 G k f)
  | 5 => .inr (5, objF5 G k f)
  | 6 => .inr (6, objF6 G k f)
  | 7 => .inr (7, objF7 G k f)
  | t => arrF G t f g
def wld (G : GT) (M : Mm) : va_W := wl.map (fun q => (adr G q.1 q.2, cellF G q.1 q.2 (M.1 q.1 q.2) M.2))
theorem cellF_arr {G : GT} {t k : Nat} {f : Nat → Int32} {g : Nat → Int64} (h : 20 ≤ t) : cellF G t k f g = arrF G t f g := by
  unfold cellF
  split <;> first | omega | rfl
theorem kind_ge {t n : Nat} (h : kindT t = n) (hn : 0 < n) : 20 ≤ t := by
  rcases Nat.lt_or_ge t 20 with q | q
  · have : ∀ t, t < 20 → kindT t = 0 := by decide +kernel
    have := this t q
    omega
  · exact q
theorem cellF_1 {G : GT} {t k : Nat} {f : Nat → Int32} {g : Nat → Int64} (h : kindT t = 1) : cellF G t k f g = .inl (gcy G 0, lenT t, .inl f) := by
  rw [cellF_arr (kind_ge h (by decide))]; unfold arrF; rw [h]
theorem cellF_2 {G : GT} {t k : Nat} {f : Nat → Int32} {g : Nat → Int64} (h : kindT t = 2) : cellF G t k f g = .inl (gcy G 1, lenT t, .inl f) := by
  rw [cellF_arr (kind_ge h (by decide))]; unfold arrF; rw [h]
theorem cellF_3 {G : GT} {t k : Nat} {f : Nat → Int32} {g : Nat → Int64} (h : kindT t = 3) : cellF G t k f g = .inl (gcy G 2, lenT t, .inr (.inl g)) := by
  rw [cellF_arr (kind_ge h (by decide))]; unfold arrF; rw [h]
theorem cellF_4 {G : GT} {t k : Nat} {f : Nat → Int32} {g : Nat → Int64} (h : kindT t = 4) : cellF G t k f g = .inl (gcy G 3, lenT t, .inr (.inr (.inr (.inr (fun j => some (adr G 0 (2 + j))))))) := by
  rw [cellF_arr (kind_ge h (by decide))]; unfold arrF; rw [h]
theorem cellF_5 {G : GT} {t k : Nat} {f : Nat → Int32} {g : Nat → Int64} (h : kindT t = 5) : cellF G t k f g = .inl (gcy G 4, lenT t, .inr (.inr (.inr (.inr (fun j => some (adr G (t + 200) j)))))) := by
  rw [cellF_arr (kind_ge h (by decide))]; unfold arrF; rw [h]
theorem cellF_g {G : GT} {t k : Nat} {f : Nat → Int32} {g g' : Nat → Int64} (h : ¬ kindT t = 3) : cellF G t k f g = cellF G t k f g' := by
  unfold cellF
  split <;> first | rfl | skip
  unfold arrF
  split <;> first | rfl | (exact absurd (by assumption) h)
theorem wld_get {G : GT} {t k : Nat} (M : Mm) (h : (t, k) ∈ wl) : ∃ q0 : Nat, wl[q0]? = some (t, k) ∧ (wld G M)[q0]? = some (adr G t k, cellF G t k (M.1 t k) M.2) := by
  obtain ⟨i, hi⟩ := List.getElem?_of_mem h
  refine ⟨i, hi, ?_⟩
  unfold wld
  rw [List.getElem?_map, hi]
  rfl
theorem wld_set {G : GT} {M M' : Mm} {t k q0 : Nat} {e : va_E} (hD : va_D (gA G) (wld G M)) (hq : wl[q0]? = some (t, k)) (he : e = cellF G t k (M'.1 t k) M'.2)
    (ho : ∀ t' k', ¬ (t' = t ∧ k' = k) → (t', k') ∈ wl → cellF G t' k' (M'.1 t' k') M'.2 = cellF G t' k' (M.1 t' k') M.2) : (wld G M).set q0 (adr G t k, e) = wld G M' := by
  have hlen : (wld G M).length = wl.length := by unfold wld; rw [List.length_map]
  have hql : q0 < wl.length := (List.getElem?_eq_some_iff.mp hq).1
  have hget : ∀ (M : Mm) (i : Nat), (wld G M)[i]? = (wl[i]?).map (fun q => (adr G q.1 q.2, cellF G q.1 q.2 (M.1 q.1 q.2) M.2)) := fun M i => by unfold wld; rw [List.getElem?_map]
  apply List.ext_getElem?
  intro i
  by_cases hi : i = q0
  · subst hi
    rw [List.getElem?_set_self (by omega), hget, hq, he]
    rfl
  · rw [List.getElem?_set_ne (Ne.symm hi), hget, hget]
    cases hw : wl[i]? with
    | none => rfl
    | some q =>
      obtain ⟨t', k'⟩ := q
      have hne : ¬ (t' = t ∧ k' = k) := by
        rintro ⟨rfl, rfl⟩
        refine hi (hD.1 i q0 (adr G t' k', cellF G t' k' (M.1 t' k') M.2) (adr G t' k', cellF G t' k' (M.1 t' k') M.2) ?_ ?_ rfl)
        · rw [hget, hw]; rfl
        · rw [hget, hq]; rfl
      show some _ = some _
      rw [ho t' k' hne (List.mem_of_getElem? hw)]
theorem wr_same {M : Mm} {t k j : Nat} {v : Int32} : (wr M t k j v).1 t k = upd (M.1 t k) j v := by
  funext i
  show (if t = t ∧ k = k ∧ i = j then v else M.1 t k i) = if i = j then v else M.1 t k i
  by_cases h : i = j <;> simp [h]
theorem wr_other {M : Mm} {t k j t' k' : Nat} {v : Int32} (h : ¬ (t' = t ∧ k' = k)) : (wr M t k j v).1 t' k' = M.1 t' k' := by
  funext i
  show (if t' = t ∧ k' = k ∧ i = j then v else M.1 t' k' i) = M.1 t' k' i
  rw [if_neg]
  rintro ⟨a, b, -⟩
  exact h ⟨a, b⟩
theorem wrA_same {M : Mm} {t k : Nat} {f : Nat → Int32} : (wrA M t k f).1 t k = f := by
  funext i
  show (if t = t ∧ k = k then f i else M.1 t k i) = f i
  simp
theorem wrA_other {M : Mm} {t k t' k' : Nat} {f : Nat → Int32} (h : ¬ (t' = t ∧ k' = k)) : (wrA M t k f).1 t' k' = M.1 t' k' := by
  funext i
  show (if t' = t ∧ k' = k then f i else M.1 t' k' i) = M.1 t' k' i
  rw [if_neg h]
theorem wld_wr {G : GT} {M : Mm} {t k q0 j : Nat} {v : Int32} {e : va_E} (hD : va_D (gA G) (wld G M)) (hq : wl[q0]? = some (t, k)) (he : e = cellF G t k (upd (M.1 t k) j v) M.2) : (wld G M).set q0 (adr G t k, e) = wld G (wr M t k j v) :=
  wld_set hD hq (by rw [he, wr_same]; rfl) (fun t' k' hne _ => by rw [wr_other hne]; rfl)
theorem wld_wrA {G : GT} {M : Mm} {t k q0 : Nat} {f : Nat → Int32} {e : va_E} (hD : va_D (gA G) (wld G M)) (hq : wl[q0]? = some (t, k)) (he : e = cellF G t k f M.2) : (wld G M).set q0 (adr G t k, e) = wld G (wrA M t k f) :=
  wld_set hD hq (by rw [he, wrA_same]; rfl) (fun t' k' hne _ => by rw [wrA_other hne]; rfl)
theorem only3 : ∀ q ∈ wl, kindT q.1 = 3 → q = (62, 0) := by decide +kernel
theorem wld_wrL {G : GT} {M : Mm} {q0 j : Nat} {v : Int64} {e : va_E} (hD : va_D (gA G) (wld G M)) (hq : wl[q0]? = some (62, 0)) (he : e = cellF G 62 0 (M.1 62 0) (vp_updL M.2 j v)) : (wld G M).set q0 (adr G 62 0, e) = wld G (wrL M j v) :=
  wld_set hD hq (by rw [he]; rfl) (fun t' k' hne hm => cellF_g (fun h3 => hne (by have := only3 (t', k') hm h3; cases this; exact ⟨rfl, rfl⟩)))
/-- an array of ints -/
def IA (a : Nat × Nat) : Prop := a ∈ wl ∧ kindT a.1 = 1
/-- an array of rows -/
def AA (a : Nat × Nat) : Prop := a ∈ wl ∧ kindT a.1 = 5
end
section
/-! A ROW AN INSTRUCTION, OVER THE DESK'S WORLD. E: where a method runs; J: from this place the machine comes to its end -/
abbrev ET : Type := Program × Launch × Env × Room × State × MethodId × Array Value × List Frame × Method × Code × Heap × Nat × Nat × (State → Prop)
def eP (E : ET) : Program := E.1
def eL (E : ET) : Launch := E.2.1
def eE (E : ET) : Env := E.2.2.1
def eR (E : ET) : Room := E.2.2.2.1
def eS (E : ET) : State := E.2.2.2.2.1
def eM (E : ET) : MethodId := E.2.2.2.2.2.1
def eArgs (E : ET) : Array Value := E.2.2.2.2.2.2.1
def eBelow (E : ET) : List Frame := E.2.2.2.2.2.2.2.1
def eMeth (E : ET) : Method := E.2.2.2.2.2.2.2.2.1
def eC (E : ET) : Code := E.2.2.2.2.2.2.2.2.2.1
def eH0 (E : ET) : Heap := E.2.2.2.2.2.2.2.2.2.2.1
def eCells (E : ET) : Nat := E.2.2.2.2.2.2.2.2.2.2.2.1
def eSlots (E : ET) : Nat := E.2.2.2.2.2.2.2.2.2.2.2.2.1
def eQ (E : ET) : State → Prop := E.2.2.2.2.2.2.2.2.2.2.2.2.2
def WJ (E : ET) (H : Heap) (locs : List Loc) (ls : Array Slot) (pc : Nat) (st : List Value) : Prop := W (eP E) (eL E) (eE E) (eR E) (eS E) (eM E) (eArgs E) (eBelow E) (eMeth E) (eC E) H locs (eCells E) (eSlots E) (eQ E) (F0 (eM E) pc ls st)
def J (G : GT) (E : ET) (nL pc : Nat) (lv : List (Nat × Value)) (st : List Value) (M : Mm) : Prop :=
  ∀ (H : Heap) (locs : List Loc) (ls : Array Slot), va_P G.1 vwCl (wld G M) H → va_S (gA G) (eH0 E) H locs → lv_has ls nL lv → WJ E H locs ls pc st
/-- what stands all the while a method runs -/
def CX (G : GT) (E : ET) (own : String) (cc : ByteArray) (nL : Nat) (rm : Room) : Prop :=
  (eP E).tables.exec = Jvm.exec ∧ (eC E).code = cc ∧ (eC E).maxLocals = nL ∧ (eS E).vm.findClass own = some (eM E).cls ∧ (∀ w ∈ lw_tbl, w.before (eArgs E) (eS E) = true) ∧
  va_K G.1 vwCl (tysL G) (eS E) ∧ (∀ M : Mm, va_D (gA G) (wld G M)) ∧ eR E = rm ∧ eCells E ≤ rm.cells ∧ eSlots E ≤ rm.slots
/-- a method's end -/
def RX (G : GT) (E : ET) (ret : Option FieldType) (Qc : Array Value → State → Outcome → State → Prop) : Prop :=
  (eMeth E).locks = false ∧ (eMeth E).sig.returnType = ret ∧ eQ E = MQ (eBelow E) Qc (eArgs E) (eS E) (eCells E) (eSlots E) (gA G) ∧ eH0 E = (eS E).heap
def HRx (G : GT) (M : Mm) (U : State) : Prop := va_P G.1 vwCl (wld G M) U.heap ∧ va_K G.1 vwCl (tysL G) U
theorem tw {i : Nat} {w : Cond} (h : lw_tbl[i]? = some w) : w ∈ lw_tbl := List.mem_of_getElem? h
section FRM
variable {G : GT} {E : ET} {own : String} {cc : ByteArray} {nL pc : Nat} {rm : Room} {lv : List (Nat × Value)} {st : List Value} {M : Mm}
theorem j_iconst (X : CX G E own cc nL rm) {n : Int} {v : Int32} (hv : Int32.ofInt n = v) (d : decode cc pc = .ok (.iconst n, 1)) (k : J G E nL (pc + 1) lv (.int v :: st) M) : J G E nL pc lv st M := fun H locs ls hP hS hl => lv_iconst X.1 X.2.1 d hv (k H locs ls hP hS hl)
theorem j_bipush (X : CX G E own cc nL rm) {n : Int} {v : Int32} (hv : (Int8.ofInt n).toInt32 = v) (d : decode cc pc = .ok (.bipush n, 2)) (k : J G E nL (pc + 2) lv (.int v :: st) M) : J G E nL pc lv st M := fun H locs ls hP hS hl => lv_bipush X.1 X.2.1 d hv (k H locs ls hP hS hl)
theorem j_sipush (X : CX G E own cc nL rm) {n : Int} {v : Int32} (hv : (Int16.ofInt n).toInt32 = v) (d : decode cc pc = .ok (.sipush n, 3)) (k : J G E nL (pc + 3) lv (.int v :: st) M) : J G E nL pc lv st M := fun H locs ls hP hS hl => lv_sipush X.1 X.2.1 d hv (k H locs ls hP hS hl)
theorem j_lconst (X : CX G E own cc nL rm) {n : Fin 2} {v : Int64} (hv : Int64.ofNat (n : Nat) = v) (d : decode cc pc = .ok (.lconst n, 1)) (k : J G E nL (pc + 1) lv (.long v :: st) M) : J G E nL pc lv st M := fun H locs ls hP hS hl => lv_lconst X.1 X.2.1 d hv (k H locs ls hP hS hl)
theorem j_fconst0 (X : CX G E own cc nL rm)  (d : decode cc pc = .ok (.fconst 0, 1)) (k : J G E nL (pc + 1) lv (.float FP.fconst0 :: st) M) : J G E nL pc lv st M := fun H locs ls hP hS hl => lv_fconst0 X.1 X.2.1 d (k H locs ls hP hS hl)
theorem j_fconst1 (X : CX G E own cc nL rm)  (d : decode cc pc = .ok (.fconst 1, 1)) (k : J G E nL (pc + 1) lv (.float FP.fconst1 :: st) M) : J G E nL pc lv st M := fun H locs ls hP hS hl => lv_fconst1 X.1 X.2.1 d (k H locs ls hP hS hl)
theorem j_fconst2 (X : CX G E own cc nL rm)  (d : decode cc pc = .ok (.fconst 2, 1)) (k : J G E nL (pc + 1) lv (.float FP.fconst2 :: st) M) : J G E nL pc lv st M := fun H locs ls hP hS hl => lv_fconst2 X.1 X.2.1 d (k H locs ls hP hS hl)
theorem j_iload_n (X : CX G E own cc nL rm) (q : Nat) {k : Fin 4} {i : Nat} {x : Int32} (d : decode cc pc = .ok (.iload_n k, 1)) (hi : (k : Nat) = i) (hv : lv[q]? = some (i, .int x)) (k : J G E nL (pc + 1) lv (.int x :: st) M) : J G E nL pc lv st M := fun H locs ls hP hS hl => lv_iload_n X.1 X.2.1 d hi (lv_at hl q hv) (k H locs ls hP hS hl)
theorem j_iload (X : CX G E own cc nL rm) (q : Nat) {i : Nat} {x : Int32} (d : decode cc pc = .ok (.iload i, 2)) (hv : lv[q]? = some (i, .int x)) (k : J G E nL (pc + 2) lv (.int x :: st) M) : J G E nL pc lv st M := fun H locs ls hP hS hl => lv_iload X.1 X.2.1 d (lv_at hl q hv) (k H locs ls hP hS hl)
theorem j_lload_n (X : CX G E own cc nL rm) (q : Nat) {k : Fin 4} {i : Nat} {x : Int64} (d : decode cc pc = .ok (.lload_n k, 1)) (hi : (k : Nat) = i) (hv : lv[q]? = some (i, .long x)) (k : J G E nL (pc + 1) lv (.long x :: st) M) : J G E nL pc lv st M := fun H locs ls hP hS hl => lv_lload_n X.1 X.2.1 d hi (lv_at hl q hv) (k H locs ls hP hS hl)
theorem j_lload (X : CX G E own cc nL rm) (q : Nat) {i : Nat} {x : Int64} (d : decode cc pc = .ok (.lload i, 2)) (hv : lv[q]? = some (i, .long x)) (k : J G E nL (pc + 2) lv (.long x :: st) M) : J G E nL pc lv st M := fun H locs ls hP hS hl => lv_lload X.1 X.2.1 d (lv_at hl q hv) (k H locs ls hP hS hl)
theorem j_fload_n (X : CX G E own cc nL rm) (q : Nat) {k : Fin 4} {i : Nat} {x : UInt32} (d : decode cc pc = .ok (.fload_n k, 1)) (hi : (k : Nat) = i) (hv : lv[q]? = some (i, .float x)) (k : J G E nL (pc + 1) lv (.float x :: st) M) : J G E nL pc lv st M := fun H locs ls hP hS hl => lv_fload_n X.1 X.2.1 d hi (lv_at hl q hv) (k H locs ls hP hS hl)
theorem j_fload (X : CX G E own cc nL rm) (q : Nat) {i : Nat} {x : UInt32} (d : decode cc pc = .ok (.fload i, 2)) (hv : lv[q]? = some (i, .float x)) (k : J G E nL (pc + 2) lv (.float x :: st) M) : J G E nL pc lv st M := fun H locs ls hP hS hl => lv_fload X.1 X.2.1 d (lv_at hl q hv) (k H locs ls hP hS hl)
theorem j_aload_n (X : CX G E own cc nL rm) (q : Nat) {k : Fin 4} {i : Nat} {x : Nat} (d : decode cc pc = .ok (.aload_n k, 1)) (hi : (k : Nat) = i) (hv : lv[q]? = some (i, .ref x)) (k : J G E nL (pc + 1) lv (.ref x :: st) M) : J G E nL pc lv st M := fun H locs ls hP hS hl => lv_aload_n X.1 X.2.1 d hi (lv_at hl q hv) (k H locs ls hP hS hl)
theorem j_aload (X : CX G E own cc nL rm) (q : Nat) {i : Nat} {x : Nat} (d : decode cc pc = .ok (.aload i, 2)) (hv : lv[q]? = some (i, .ref x)) (k : J G E nL (pc + 2) lv (.ref x :: st) M) : J G E nL pc lv st M := fun H locs ls hP hS hl => lv_aload X.1 X.2.1 d (lv_at hl q hv) (k H locs ls hP hS hl)
theorem j_istore_n (X : CX G E own cc nL rm) {k : Fin 4} {i : Nat} {x : Int32} (lv2 : List (Nat × Value)) (d : decode cc pc = .ok (.istore_n k, 1)) (hi : (k : Nat) = i) (hn : i < nL) (hl2 : (i, .int x) :: lv.filter (fun q => !(q.1 == i) && !(q.1 + 1 == i && q.2.category == 2)) = lv2) (k : J G E nL (pc + 1) lv2 st M) : J G E nL pc lv (.int x :: st) M := fun H locs ls hP hS hl => lv_istore_n X.1 X.2.1 d hi hl hn hl2 (fun ls hl => k H locs ls hP hS hl)
theorem j_istore (X : CX G E own cc nL rm) {i : Nat} {x : Int32} (lv2 : List (Nat × Value)) (d : decode cc pc = .ok (.istore i, 2)) (hn : i < nL) (hl2 : (i, .int x) :: lv.filter (fun q => !(q.1 == i) && !(q.1 + 1 == i && q.2.category == 2)) = lv2) (k : J G E nL (pc + 2) lv2 st M) : J G E nL pc lv (.int x :: st) M := fun H locs ls hP hS hl => lv_istore X.1 X.2.1 d hl hn hl2 (fun ls hl => k H locs ls hP hS hl)
theorem j_lstore_n (X : CX G E own cc nL rm) {k : Fin 4} {i : Nat} {x : Int64} (lv2 : List (Nat × Value)) (d : decode cc pc = .ok (.lstore_n k, 1)) (hi : (k : Nat) = i) (hn : i + 1 < nL) (hl2 : (i, .long x) :: lv.filter (fun q => !(q.1 == i) && (!(q.1 == i + 1) && !(q.1 + 1 == i && q.2.category == 2))) = lv2) (k : J G E nL (pc + 1) lv2 st M) : J G E nL pc lv (.long x :: st) M := fun H locs ls hP hS hl => lv_lstore_n X.1 X.2.1 d hi hl hn hl2 (fun ls hl => k H locs ls hP hS hl)
theorem j_lstore (X : CX G E own cc nL rm) {i : Nat} {x : Int64} (lv2 : List (Nat × Value)) (d : decode cc pc = .ok (.lstore i, 2)) (hn : i + 1 < nL) (hl2 : (i, .long x) :: lv.filter (fun q => !(q.1 == i) && (!(q.1 == i + 1) && !(q.1 + 1 == i && q.2.category == 2))) = lv2) (k : J G E nL (pc + 2) lv2 st M) : J G E nL pc lv (.long x :: st) M := fun H locs ls hP hS hl => lv_lstore X.1 X.2.1 d hl hn hl2 (fun ls hl => k H locs ls hP hS hl)
theorem j_fstore_n (X : CX G E own cc nL rm) {k : Fin 4} {i : Nat} {x : UInt32} (lv2 : List (Nat × Value)) (d : decode cc pc = .ok (.fstore_n k, 1)) (hi : (k : Nat) = i) (hn : i < nL) (hl2 : (i, .float x) :: lv.filter (fun q => !(q.1 == i) && !(q.1 + 1 == i && q.2.category == 2)) = lv2) (k : J G E nL (pc + 1) lv2 st M) : J G E nL pc lv (.float x :: st) M := fun H locs ls hP hS hl => lv_fstore_n X.1 X.2.1 d hi hl hn hl2 (fun ls hl => k H locs ls hP hS hl)
theorem j_fstore (X : CX G E own cc nL rm) {i : Nat} {x : UInt32} (lv2 : List (Nat × Value)) (d : decode cc pc = .ok (.fstore i, 2)) (hn : i < nL) (hl2 : (i, .float x) :: lv.filter (fun q => !(q.1 == i) && !(q.1 + 1 == i && q.2.category == 2)) = lv2) (k : J G E nL (pc + 2) lv2 st M) : J G E nL pc lv (.float x :: st) M := fun H locs ls hP hS hl => lv_fstore X.1 X.2.1 d hl hn hl2 (fun ls hl => k H locs ls hP hS hl)
theorem j_astore_n (X : CX G E own cc nL rm) {k : Fin 4} {i : Nat} {x : Nat} (lv2 : List (Nat × Value)) (d : decode cc pc = .ok (.astore_n k, 1)) (hi : (k : Nat) = i) (hn : i < nL) (hl2 : (i, .ref x) :: lv.filter (fun q => !(q.1 == i) && !(q.1 + 1 == i && q.2.category == 2)) = lv2) (k : J G E nL (pc + 1) lv2 st M) : J G E nL pc lv (.ref x :: st) M := fun H locs ls hP hS hl => lv_astore_n X.1 X.2.1 d hi hl hn hl2 (fun ls hl => k H locs ls hP hS hl)
theorem j_astore (X : CX G E own cc nL rm) {i : Nat} {x : Nat} (lv2 : List (Nat × Value)) (d : decode cc pc = .ok (.astore i, 2)) (hn : i < nL) (hl2 : (i, .ref x) :: lv.filter (fun q => !(q.1 == i) && !(q.1 + 1 == i && q.2.category == 2)) = lv2) (k : J G E nL (pc + 2) lv2 st M) : J G E nL pc lv (.ref x :: st) M := fun H locs ls hP hS hl => lv_astore X.1 X.2.1 d hl hn hl2 (fun ls hl => k H locs ls hP hS hl)
theorem j_iinc (X : CX G E own cc nL rm) (q : Nat) {i : Nat} {n : Int} {x v : Int32} (lv2 : List (Nat × Value)) (d : decode cc pc = .ok (.iinc i n, 3)) (hk : lv[q]? = some (i, .int x)) (hv : x + Int32.ofInt n = v) (hn : i < nL) (hl2 : (i, Value.int v) :: lv.filter (fun q => !(q.1 == i) && !(q.1 + 1 == i && q.2.category == 2)) = lv2) (k : J G E nL (pc + 3) lv2 st M) : J G E nL pc lv st M := fun H locs ls hP hS hl => lv_iinc X.1 X.2.1 d hl hk hv hn hl2 (fun ls hl => k H locs ls hP hS hl)
theorem j_sub (ks : List Nat) {lv2 : List (Nat × Value)} (hl2 : lv_pick lv ks = lv2) (k : J G E nL pc lv2 st M) : J G E nL pc lv st M := fun H locs ls hP hS hl => k H locs ls hP hS (lv_sub hl ks hl2)
theorem j_iadd (X : CX G E own cc nL rm) {x y : Int32} (d : decode cc pc = .ok (.iadd, 1)) (k : J G E nL (pc + 1) lv (.int (x + y) :: st) M) : J G E nL pc lv (.int y :: .int x :: st) M := fun H locs ls hP hS hl => lv_iadd X.1 X.2.1 d (k H locs ls hP hS hl)
theorem j_isub (X : CX G E own cc nL rm) {x y : Int32} (d : decode cc pc = .ok (.isub, 1)) (k : J G E nL (pc + 1) lv (.int (x - y) :: st) M) : J G E nL pc lv (.int y :: .int x :: st) M := fun H locs ls hP hS hl => lv_isub X.1 X.2.1 d (k H locs ls hP hS hl)
theorem j_imul (X : CX G E own cc nL rm) {x y : Int32} (d : decode cc pc = .ok (.imul, 1)) (k : J G E nL (pc + 1) lv (.int (x * y) :: st) M) : J G E nL pc lv (.int y :: .int x :: st) M := fun H locs ls hP hS hl => lv_imul X.1 X.2.1 d (k H locs ls hP hS hl)
theorem j_iand (X : CX G E own cc nL rm) {x y : Int32} (d : decode cc pc = .ok (.iand, 1)) (k : J G E nL (pc + 1) lv (.int (x &&& y) :: st) M) : J G E nL pc lv (.int y :: .int x :: st) M := fun H locs ls hP hS hl => lv_iand X.1 X.2.1 d (k H locs ls hP hS hl)
theorem j_ior (X : CX G E own cc nL rm) {x y : Int32} (d : decode cc pc = .ok (.ior, 1)) (k : J G E nL (pc + 1) lv (.int (x ||| y) :: st) M) : J G E nL pc lv (.int y :: .int x :: st) M := fun H locs ls hP hS hl => lv_ior X.1 X.2.1 d (k H locs ls hP hS hl)
theorem j_ishl (X : CX G E own cc nL rm) {x y : Int32} (d : decode cc pc = .ok (.ishl, 1)) (k : J G E nL (pc + 1) lv (.int (x <<< (y &&& 31)) :: st) M) : J G E nL pc lv (.int y :: .int x :: st) M := fun H locs ls hP hS hl => lv_ishl X.1 X.2.1 d (k H locs ls hP hS hl)
theorem j_idiv (X : CX G E own cc nL rm) {x y : Int32} (hne : ¬ y = 0) (d : decode cc pc = .ok (.idiv, 1)) (k : J G E nL (pc + 1) lv (.int (x / y) :: st) M) : J G E nL pc lv (.int y :: .int x :: st) M := fun H locs ls hP hS hl => lv_idiv X.1 X.2.1 d hne (k H locs ls hP hS hl)
theorem j_irem (X : CX G E own cc nL rm) {x y : Int32} (hne : ¬ y = 0) (d : decode cc pc = .ok (.irem, 1)) (k : J G E nL (pc + 1) lv (.int (x - x / y * y) :: st) M) : J G E nL pc lv (.int y :: .int x :: st) M := fun H locs ls hP hS hl => lv_irem X.1 X.2.1 d hne (k H locs ls hP hS hl)
theorem j_ladd (X : CX G E own cc nL rm) {x y : Int64} (d : decode cc pc = .ok (.ladd, 1)) (k : J G E nL (pc + 1) lv (.long (x + y) :: st) M) : J G E nL pc lv (.long y :: .long x :: st) M := fun H locs ls hP hS hl => lv_ladd X.1 X.2.1 d (k H locs ls hP hS hl)
theorem j_lsub (X : CX G E own cc nL rm) {x y : Int64} (d : decode cc pc = .ok (.lsub, 1)) (k : J G E nL (pc + 1) lv (.long (x - y) :: st) M) : J G E nL pc lv (.long y :: .long x :: st) M := fun H locs ls hP hS hl => lv_lsub X.1 X.2.1 d (k H locs ls hP hS hl)
theorem j_lmul (X : CX G E own cc nL rm) {x y : Int64} (d : decode cc pc = .ok (.lmul, 1)) (k : J G E nL (pc + 1) lv (.long (x * y) :: st) M) : J G E nL pc lv (.long y :: .long x :: st) M := fun H locs ls hP hS hl => lv_lmul X.1 X.2.1 d (k H locs ls hP hS hl)
theorem j_ldiv (X : CX G E own cc nL rm) {x y : Int64} (hne : ¬ y = 0) (d : decode cc pc = .ok (.ldiv, 1)) (k : J G E nL (pc + 1) lv (.long (x / y) :: st) M) : J G E nL pc lv (.long y :: .long x :: st) M := fun H locs ls hP hS hl => lv_ldiv X.1 X.2.1 d hne (k H locs ls hP hS hl)
theorem j_lrem (X : CX G E own cc nL rm) {x y : Int64} (hne : ¬ y = 0) (d : decode cc pc = .ok (.lrem, 1)) (k : J G E nL (pc + 1) lv (.long (x - x / y * y) :: st) M) : J G E nL pc lv (.long y :: .long x :: st) M := fun H locs ls hP hS hl => lv_lrem X.1 X.2.1 d hne (k H locs ls hP hS hl)
theorem j_lcmp (X : CX G E own cc nL rm) {x y : Int64} (d : decode cc pc = .ok (.lcmp, 1)) (k : J G E nL (pc + 1) lv (.int (lg_cmp x y) :: st) M) : J G E nL pc lv (.long y :: .long x :: st) M := fun H locs ls hP hS hl => W.lcmp X.1 X.2.1 d (k H locs ls hP hS hl)
theorem j_i2l (X : CX G E own cc nL rm) {x : Int32} (d : decode cc pc = .ok (.i2l, 1)) (k : J G E nL (pc + 1) lv (.long x.toInt64 :: st) M) : J G E nL pc lv (.int x :: st) M := fun H locs ls hP hS hl => lv_i2l X.1 X.2.1 d rfl (k H locs ls hP hS hl)
theorem j_l2i (X : CX G E own cc nL rm) {x : Int64} (d : decode cc pc = .ok (.l2i, 1)) (k : J G E nL (pc + 1) lv (.int x.toInt32 :: st) M) : J G E nL pc lv (.long x :: st) M := fun H locs ls hP hS hl => lv_l2i X.1 X.2.1 d rfl (k H locs ls hP hS hl)
theorem j_i2c (X : CX G E own cc nL rm) {x : Int32} (d : decode cc pc = .ok (.i2c, 1)) (k : J G E nL (pc + 1) lv (.int (x.toUInt32 % 65536).toInt32 :: st) M) : J G E nL pc lv (.int x :: st) M := fun H locs ls hP hS hl => lv_i2c X.1 X.2.1 d rfl (k H locs ls hP hS hl)
theorem j_iushr (X : CX G E own cc nL rm) {x y : Int32} (d : decode cc pc = .ok (.iushr, 1)) (k : J G E nL (pc + 1) lv (.int (x.toUInt32 >>> (y.toUInt32 &&& Int32.toUInt32 31)).toInt32 :: st) M) : J G E nL pc lv (.int y :: .int x :: st) M := fun H locs ls hP hS hl => lv_iushr X.1 X.2.1 d rfl (k H locs ls hP hS hl)
theorem j_fadd (X : CX G E own cc nL rm) {x y : UInt32} (hne : vf_n32 (FP.fadd x y)) (d : decode cc pc = .ok (.fadd, 1)) (k : J G E nL (pc + 1) lv (.float (FP.fadd x y) :: st) M) : J G E nL pc lv (.float y :: .float x :: st) M := fun H locs ls hP hS hl => lv_fadd X.1 X.2.1 d hne (k H locs ls hP hS hl)
theorem j_fsub (X : CX G E own cc nL rm) {x y : UInt32} (hne : vf_n32 (FP.fsub x y)) (d : decode cc pc = .ok (.fsub, 1)) (k : J G E nL (pc + 1) lv (.float (FP.fsub x y) :: st) M) : J G E nL pc lv (.float y :: .float x :: st) M := fun H locs ls hP hS hl => lv_fsub X.1 X.2.1 d hne (k H locs ls hP hS hl)
theorem j_fmul (X : CX G E own cc nL rm) {x y : UInt32} (hne : vf_n32 (FP.fmul x y)) (d : decode cc pc = .ok (.fmul, 1)) (k : J G E nL (pc + 1) lv (.float (FP.fmul x y) :: st) M) : J G E nL pc lv (.float y :: .float x :: st) M := fun H locs ls hP hS hl => lv_fmul X.1 X.2.1 d hne (k H locs ls hP hS hl)
theorem j_fdiv (X : CX G E own cc nL rm) {x y : UInt32} (hne : vf_n32 (FP.fdiv x y)) (d : decode cc pc = .ok (.fdiv, 1)) (k : J G E nL (pc + 1) lv (.float (FP.fdiv x y) :: st) M) : J G E nL pc lv (.float y :: .float x :: st) M := fun H locs ls hP hS hl => lv_fdiv X.1 X.2.1 d hne (k H locs ls hP hS hl)
theorem j_fcmp (X : CX G E own cc nL rm) {x y : UInt32} {op : CmpOp} (d : decode cc pc = .ok (.fcmp op, 1)) (k : J G E nL (pc + 1) lv (.int (Op.cmpValue (FP.fcmp x y) op) :: st) M) : J G E nL pc lv (.float y :: .float x :: st) M := fun H locs ls hP hS hl => lv_fcmp X.1 X.2.1 d (k H locs ls hP hS hl)
theorem j_i2f (X : CX G E own cc nL rm) {x : Int32} (d : decode cc pc = .ok (.i2f, 1)) (k : J G E nL (pc + 1) lv (.float (FP.i2f x) :: st) M) : J G E nL pc lv (.int x :: st) M := fun H locs ls hP hS hl => lv_i2f X.1 X.2.1 d (k H locs ls hP hS hl)
theorem j_f2i (X : CX G E own cc nL rm) {x : UInt32} (d : decode cc pc = .ok (.f2i, 1)) (k : J G E nL (pc + 1) lv (.int (FP.f2i x) :: st) M) : J G E nL pc lv (.float x :: st) M := fun H locs ls hP hS hl => lv_f2i X.1 X.2.1 d (k H locs ls hP hS hl)
theorem j_dup (X : CX G E own cc nL rm) {va : Value} (hva : va.category = 1) (d : decode cc pc = .ok (.dup, 1)) (k : J G E nL (pc + 1) lv (va :: va :: st) M) : J G E nL pc lv (va :: st) M := fun H locs ls hP hS hl => lv_dup X.1 X.2.1 d hva (k H locs ls hP hS hl)
theorem j_pop (X : CX G E own cc nL rm) {va : Value} (hva : va.category = 1) (d : decode cc pc = .ok (.pop, 1)) (k : J G E nL (pc + 1) lv st M) : J G E nL pc lv (va :: st) M := fun H locs ls hP hS hl => lv_pop X.1 X.2.1 d hva (k H locs ls hP hS hl)
theorem j_dup2 (X : CX G E own cc nL rm) {va vb : Value} (hva : va.category = 1) (hvb : vb.category = 1) (d : decode cc pc = .ok (.dup2, 1)) (k : J G E nL (pc + 1) lv (va :: vb :: va :: vb :: st) M) : J G E nL pc lv (va :: vb :: st) M := fun H locs ls hP hS hl => lv_dup2_11 X.1 X.2.1 d hva hvb (k H locs ls hP hS hl)
theorem j_icmp_eq (X : CX G E own cc nL rm) (tgt : Nat) {x y : Int32} {off : Int} (d : decode cc pc = .ok (.if_icmp .eq off, 3)) (ht : (pc : Int) + off = (tgt : Int)) (kt : x = y → J G E nL tgt lv st M) (kf : ¬ x = y → J G E nL (pc + 3) lv st M) : J G E nL pc lv (.int y :: .int x :: st) M := fun H locs ls hP hS hl => lv_icmp_eq X.1 X.2.1 d ht (fun q => kt q H locs ls hP hS hl) (fun q => kf q H locs ls hP hS hl)
theorem j_if_eq (X : CX G E own cc nL rm) (tgt : Nat) {x : Int32} {off : Int} (d : decode cc pc = .ok (.ifCond .eq off, 3)) (ht : (pc : Int) + off = (tgt : Int)) (kt : x = 0 → J G E nL tgt lv st M) (kf : ¬ x = 0 → J G E nL (pc + 3) lv st M) : J G E nL pc lv (.int x :: st) M := fun H locs ls hP hS hl => lv_if_eq X.1 X.2.1 d ht (fun q => kt q H locs ls hP hS hl) (fun q => kf q H locs ls hP hS hl)
theorem j_icmp_ne (X : CX G E own cc nL rm) (tgt : Nat) {x y : Int32} {off : Int} (d : decode cc pc = .ok (.if_icmp .ne off, 3)) (ht : (pc : Int) + off = (tgt : Int)) (kt : ¬ x = y → J G E nL tgt lv st M) (kf : x = y → J G E nL (pc + 3) lv st M) : J G E nL pc lv (.int y :: .int x :: st) M := fun H locs ls hP hS hl => lv_icmp_ne X.1 X.2.1 d ht (fun q => kt q H locs ls hP hS hl) (fun q => kf q H locs ls hP hS hl)
theorem j_if_ne (X : CX G E own cc nL rm) (tgt : Nat) {x : Int32} {off : Int} (d : decode cc pc = .ok (.ifCond .ne off, 3)) (ht : (pc : Int) + off = (tgt : Int)) (kt : ¬ x = 0 → J G E nL tgt lv st M) (kf : x = 0 → J G E nL (pc + 3) lv st M) : J G E nL pc lv (.int x :: st) M := fun H locs ls hP hS hl => lv_if_ne X.1 X.2.1 d ht (fun q => kt q H locs ls hP hS hl) (fun q => kf q H locs ls hP hS hl)
theorem j_icmp_lt (X : CX G E own cc nL rm) (tgt : Nat) {x y : Int32} {off : Int} (d : decode cc pc = .ok (.if_icmp .lt off, 3)) (ht : (pc : Int) + off = (tgt : Int)) (kt : x < y → J G E nL tgt lv st M) (kf : ¬ x < y → J G E nL (pc + 3) lv st M) : J G E nL pc lv (.int y :: .int x :: st) M := fun H locs ls hP hS hl => lv_icmp_lt X.1 X.2.1 d ht (fun q => kt q H locs ls hP hS hl) (fun q => kf q H locs ls hP hS hl)
theorem j_if_lt (X : CX G E own cc nL rm) (tgt : Nat) {x : Int32} {off : Int} (d : decode cc pc = .ok (.ifCond .lt off, 3)) (ht : (pc : Int) + off = (tgt : Int)) (kt : x < 0 → J G E nL tgt lv st M) (kf : ¬ x < 0 → J G E nL (pc + 3) lv st M) : J G E nL pc lv (.int x :: st) M := fun H locs ls hP hS hl => lv_if_lt X.1 X.2.1 d ht (fun q => kt q H locs ls hP hS hl) (fun q => kf q H locs ls hP hS hl)
theorem j_icmp_ge (X : CX G E own cc nL rm) (tgt : Nat) {x y : Int32} {off : Int} (d : decode cc pc = .ok (.if_icmp .ge off, 3)) (ht : (pc : Int) + off = (tgt : Int)) (kt : y ≤ x → J G E nL tgt lv st M) (kf : ¬ y ≤ x → J G E nL (pc + 3) lv st M) : J G E nL pc lv (.int y :: .int x :: st) M := fun H locs ls hP hS hl => lv_icmp_ge X.1 X.2.1 d ht (fun q => kt q H locs ls hP hS hl) (fun q => kf q H locs ls hP hS hl)
theorem j_if_ge (X : CX G E own cc nL rm) (tgt : Nat) {x : Int32} {off : Int} (d : decode cc pc = .ok (.ifCond .ge off, 3)) (ht : (pc : Int) + off = (tgt : Int)) (kt : 0 ≤ x → J G E nL tgt lv st M) (kf : ¬ 0 ≤ x → J G E nL (pc + 3) lv st M) : J G E nL pc lv (.int x :: st) M := fun H locs ls hP hS hl => lv_if_ge X.1 X.2.1 d ht (fun q => kt q H locs ls hP hS hl) (fun q => kf q H locs ls hP hS hl)
theorem j_icmp_gt (X : CX G E own cc nL rm) (tgt : Nat) {x y : Int32} {off : Int} (d : decode cc pc = .ok (.if_icmp .gt off, 3)) (ht : (pc : Int) + off = (tgt : Int)) (kt : y < x → J G E nL tgt lv st M) (kf : ¬ y < x → J G E nL (pc + 3) lv st M) : J G E nL pc lv (.int y :: .int x :: st) M := fun H locs ls hP hS hl => lv_icmp_gt X.1 X.2.1 d ht (fun q => kt q H locs ls hP hS hl) (fun q => kf q H locs ls hP hS hl)
theorem j_if_gt (X : CX G E own cc nL rm) (tgt : Nat) {x : Int32} {off : Int} (d : decode cc pc = .ok (.ifCond .gt off, 3)) (ht : (pc : Int) + off = (tgt : Int)) (kt : 0 < x → J G E nL tgt lv st M) (kf : ¬ 0 < x → J G E nL (pc + 3) lv st M) : J G E nL pc lv (.int x :: st) M := fun H locs ls hP hS hl => lv_if_gt X.1 X.2.1 d ht (fun q => kt q H locs ls hP hS hl) (fun q => kf q H locs ls hP hS hl)
theorem j_icmp_le (X : CX G E own cc nL rm) (tgt : Nat) {x y : Int32} {off : Int} (d : decode cc pc = .ok (.if_icmp .le off, 3)) (ht : (pc : Int) + off = (tgt : Int)) (kt : x ≤ y → J G E nL tgt lv st M) (kf : ¬ x ≤ y → J G E nL (pc + 3) lv st M) : J G E nL pc lv (.int y :: .int x :: st) M := fun H locs ls hP hS hl => lv_icmp_le X.1 X.2.1 d ht (fun q => kt q H locs ls hP hS hl) (fun q => kf q H locs ls hP hS hl)
theorem j_if_le (X : CX G E own cc nL rm) (tgt : Nat) {x : Int32} {off : Int} (d : decode cc pc = .ok (.ifCond .le off, 3)) (ht : (pc : Int) + off = (tgt : Int)) (kt : x ≤ 0 → J G E nL tgt lv st M) (kf : ¬ x ≤ 0 → J G E nL (pc + 3) lv st M) : J G E nL pc lv (.int x :: st) M := fun H locs ls hP hS hl => lv_if_le X.1 X.2.1 d ht (fun q => kt q H locs ls hP hS hl) (fun q => kf q H locs ls hP hS hl)
theorem j_goto (X : CX G E own cc nL rm) (tgt : Nat) {off : Int} (d : decode cc pc = .ok (.goto off, 3)) (ht : (pc : Int) + off = (tgt : Int)) (k : J G E nL tgt lv st M) : J G E nL pc lv st M := fun H locs ls hP hS hl => lv_goto X.1 X.2.1 d ht (k H locs ls hP hS hl)
theorem j_topi {x : Int32} (k : ∀ y : Int32, y = x → J G E nL pc lv (.int y :: st) M) : J G E nL pc lv (.int x :: st) M := k x rfl
theorem j_topl {x : Int64} (k : ∀ y : Int64, y = x → J G E nL pc lv (.long y :: st) M) : J G E nL pc lv (.long x :: st) M := k x rfl
theorem j_topf {x : UInt32} (k : ∀ y : UInt32, y = x → J G E nL pc lv (.float y :: st) M) : J G E nL pc lv (.float x :: st) M := k x rfl
theorem j_ldc (X : CX G E own cc nL rm) {index : Nat} {v : Int32} (hc : Cond.constant own index v ∈ lw_tbl) (d : decode cc pc = .ok (.ldc index, 2)) (k : J G E nL (pc + 2) lv (.int v :: st) M) : J G E nL pc lv st M := fun H locs ls hP hS hl => lv_ldc X.1 X.2.1 X.2.2.2.1 (X.2.2.2.2.1 _ hc) d (k H locs ls hP hS hl)
theorem j_ldcw (X : CX G E own cc nL rm) {index : Nat} {v : Int32} (hc : Cond.constant own index v ∈ lw_tbl) (d : decode cc pc = .ok (.ldc_w index, 3)) (k : J G E nL (pc + 3) lv (.int v :: st) M) : J G E nL pc lv st M := fun H locs ls hP hS hl => lv_ldcw X.1 X.2.1 X.2.2.2.1 (X.2.2.2.2.1 _ hc) d (k H locs ls hP hS hl)
theorem j_ldcf (X : CX G E own cc nL rm) {index : Nat} {v : UInt32} (hc : Cond.constantFloat own index v ∈ lw_tbl) (d : decode cc pc = .ok (.ldc index, 2)) (k : J G E nL (pc + 2) lv (.float v :: st) M) : J G E nL pc lv st M := fun H locs ls hP hS hl => lv_ldcf X.1 X.2.1 X.2.2.2.1 (X.2.2.2.2.1 _ hc) d (k H locs ls hP hS hl)
theorem j_ldc2 (X : CX G E own cc nL rm) {index : Nat} {v : Int64} (hc : Cond.constantLong own index v ∈ lw_tbl) (d : decode cc pc = .ok (.ldc2_w index, 3)) (k : J G E nL (pc + 3) lv (.long v :: st) M) : J G E nL pc lv st M := fun H locs ls hP hS hl => lv_ldc2 X.1 X.2.1 X.2.2.2.1 (X.2.2.2.2.1 _ hc) d (k H locs ls hP hS hl)
/-- arrays -/
theorem j_iald (X : CX G E own cc nL rm) {t b n : Nat} {i : Int32} (hm : (t, b) ∈ wl) (hk : kindT t = 1) (hn : lenT t = n) (hin : vp_in i n) (d : decode cc pc = .ok (.iaload, 1)) (k : J G E nL (pc + 1) lv (.int (rd M t b i.toNatClampNeg) :: st) M) : J G E nL pc lv (.int i :: .ref (adr G t b) :: st) M := fun H locs ls hP hS hl => by
  obtain ⟨q0, -, hq⟩ := wld_get (G := G) M hm
  rw [cellF_1 hk, hn] at hq
  exact va_iald X.1 X.2.1 X.2.2.2.2.2.1 hP q0 0 hq rfl hin d (k H locs ls hP hS hl)
theorem j_cald (X : CX G E own cc nL rm) {t b n : Nat} {i : Int32} (hm : (t, b) ∈ wl) (hk : kindT t = 2) (hn : lenT t = n) (hin : vp_in i n) (d : decode cc pc = .ok (.caload, 1)) (k : J G E nL (pc + 1) lv (.int (rd M t b i.toNatClampNeg) :: st) M) : J G E nL pc lv (.int i :: .ref (adr G t b) :: st) M := fun H locs ls hP hS hl => by
  obtain ⟨q0, -, hq⟩ := wld_get (G := G) M hm
  rw [cellF_2 hk, hn] at hq
  exact va_cald X.1 X.2.1 X.2.2.2.2.2.1 hP q0 1 hq rfl hin d (k H locs ls hP hS hl)
theorem j_lald (X : CX G E own cc nL rm) {t b n : Nat} {i : Int32} (hm : (t, b) ∈ wl) (hk : kindT t = 3) (hn : lenT t = n) (hin : vp_in i n) (d : decode cc pc = .ok (.laload, 1)) (k : J G E nL (pc + 1) lv (.long (rdL M i.toNatClampNeg) :: st) M) : J G E nL pc lv (.int i :: .ref (adr G t b) :: st) M := fun H locs ls hP hS hl => by
  obtain ⟨q0, -, hq⟩ := wld_get (G := G) M hm
  rw [cellF_3 hk, hn] at hq
  exact va_lald X.1 X.2.1 X.2.2.2.2.2.1 hP q0 2 hq rfl hin d (k H locs ls hP hS hl)
theorem j_aaldB (X : CX G E own cc nL rm) {t b n : Nat} {i : Int32} (hm : (t, b) ∈ wl) (hk : kindT t = 4) (hn : lenT t = n) (hin : vp_in i n) (d : decode cc pc = .ok (.aaload, 1)) (k : J G E nL (pc + 1) lv (.ref (adr G 0 (2 + i.toNatClampNeg)) :: st) M) : J G E nL pc lv (.int i :: .ref (adr G t b) :: st) M := fun H locs ls hP hS hl => by
  obtain ⟨q0, -, hq⟩ := wld_get (G := G) M hm
  rw [cellF_4 hk, hn] at hq
  exact va_aldq X.1 X.2.1 X.2.2.2.2.2.1 hP q0 3 (C := RX0) hq rfl hin d (k H locs ls hP hS hl)
theorem j_iast (X : CX G E own cc nL rm) {t b n : Nat} {i v : Int32} (hm : (t, b) ∈ wl) (hk : kindT t = 1) (hn : lenT t = n) (hin : vp_in i n) (d : decode cc pc = .ok (.iastore, 1)) (k : J G E nL (pc + 1) lv st (wr M t b i.toNatClampNeg v)) : J G E nL pc lv (.int v :: .int i :: .ref (adr G t b) :: st) M := fun H locs ls hP hS hl => by
  obtain ⟨q0, hw, hq⟩ := wld_get (G := G) M hm
  have hD := X.2.2.2.2.2.2.1 M
  rw [cellF_1 hk, hn] at hq
  refine va_iast X.1 X.2.1 X.2.2.2.2.2.1 hP hD hS q0 0 hq rfl hin d (fun H1 locs1 hP1 _ hS1 => k H1 locs1 ls ?_ hS1 hl)
  rw [wld_wr (j := i.toNatClampNeg) (v := v) hD hw (by rw [cellF_1 hk, hn])] at hP1
  exact hP1
theorem j_cast (X : CX G E own cc nL rm) {t b n : Nat} {i v : Int32} (hm : (t, b) ∈ wl) (hk : kindT t = 2) (hn : lenT t = n) (hin : vp_in i n) (d : decode cc pc = .ok (.castore, 1)) (k : J G E nL (pc + 1) lv st (wr M t b i.toNatClampNeg (vp_nar .char v))) : J G E nL pc lv (.int v :: .int i :: .ref (adr G t b) :: st) M := fun H locs ls hP hS hl => by
  obtain ⟨q0, hw, hq⟩ := wld_get (G := G) M hm
  have hD := X.2.2.2.2.2.2.1 M
  rw [cellF_2 hk, hn] at hq
  refine va_cast X.1 X.2.1 X.2.2.2.2.2.1 hP hD hS q0 1 hq rfl hin d (fun H1 locs1 hP1 _ hS1 => k H1 locs1 ls ?_ hS1 hl)
  rw [wld_wr (j := i.toNatClampNeg) (v := vp_nar .char v) hD hw (by rw [cellF_2 hk, hn])] at hP1
  exact hP1
theorem j_last (X : CX G E own cc nL rm) {n : Nat} {i : Int32} {v : Int64} (hn : lenT 62 = n) (hin : vp_in i n) (d : decode cc pc = .ok (.lastore, 1)) (k : J G E nL (pc + 1) lv st (wrL M i.toNatClampNeg v)) : J G E nL pc lv (.long v :: .int i :: .ref (adr G 62 0) :: st) M := fun H locs ls hP hS hl => by
  obtain ⟨q0, hw, hq⟩ := wld_get (G := G) M (mw62 0 (by decide))
  have hD := X.2.2.2.2.2.2.1 M
  rw [cellF_3 kt62, hn] at hq
  refine va_last X.1 X.2.1 X.2.2.2.2.2.1 hP hD hS q0 2 hq rfl hin d (fun H1 locs1 hP1 _ hS1 => k H1 locs1 ls ?_ hS1 hl)
  rw [wld_wrL (j := i.toNatClampNeg) (v := v) hD hw (by rw [cellF_3 kt62, hn])] at hP1
  exact hP1
theorem j_copy (X : CX G E own cc nL rm) {index t b t2 b2 n0 n1 : Nat} {sp dp n : Int32} (hlink : Cond.methodLink own index arraycopyName ∈ lw_tbl) (hm : (t, b) ∈ wl) (hk : kindT t = 1) (hn0 : lenT t = n0) (hm2 : (t2, b2) ∈ wl) (hk2 : kindT t2 = 1) (hn1 : lenT t2 = n1)
    (h1 : ¬ sp < 0) (h2 : ¬ dp < 0) (h3 : ¬ n < 0) (h4 : sp.toNatClampNeg + n.toNatClampNeg ≤ n0) (h5 : dp.toNatClampNeg + n.toNatClampNeg ≤ n1)
    (hfr : 1 ≤ rm.frames) (hlo : (st.map fun v => v.category).sum + 18 ≤ rm.locals) (d : decode cc pc = .ok (.invokestatic index, 3))
    (k : J G E nL (pc + 3) lv st (wrA M t2 b2 (va_cpy (M.1 t b) (M.1 t2 b2) sp.toNatClampNeg dp.toNatClampNeg n.toNatClampNeg))) : J G E nL pc lv (.int n :: .int dp :: .ref (adr G t2 b2) :: .int sp :: .ref (adr G t b) :: st) M := fun H locs ls hP hS hl => by
  obtain ⟨q0, hw, hq⟩ := wld_get (G := G) M hm
  obtain ⟨q1, hw1, hq1⟩ := wld_get (G := G) M hm2
  have hD := X.2.2.2.2.2.2.1 M
  rw [cellF_1 hk, hn0] at hq
  rw [cellF_1 hk2, hn1] at hq1
  refine va_copyi (own := own) (index := index) X.1 X.2.1 (by rw [X.2.2.1]; exact hl.1.symm) X.2.2.2.1 (X.2.2.2.2.1 _ hlink) (X.2.2.2.2.1 _ (tw (i := 392) (by decide +kernel))) (X.2.2.2.2.1 _ (tw (i := 391) (by decide +kernel))) (X.2.2.2.2.1 _ (tw (i := 79) (by decide +kernel))) X.2.2.2.2.2.1 hP hD hS q0 q1 0 0 (ty := .int) hq hq1 rfl rfl rfl h1 h2 h3 h4 h5 (fun _ _ => rfl) (by rw [X.2.2.2.2.2.2.2.1]; exact hfr) (by rw [X.2.2.2.2.2.2.2.1]; exact hlo) d (fun H1 locs1 hP1 _ hS1 => k H1 locs1 ls ?_ hS1 hl)
  rw [wld_wrA (f := va_cpy (M.1 t b) (M.1 t2 b2) sp.toNatClampNeg dp.toNatClampNeg n.toNatClampNeg) hD hw1 (by rw [cellF_1 hk2, hn1])] at hP1
  exact hP1

theorem j_min (X : CX G E own cc nL rm) {index : Nat} {x y : Int32} (hlink : Cond.methodLink own index Lib.Math.min.name ∈ lw_tbl) (hfr : 1 ≤ rm.frames) (hlo : (st.map fun v => v.category).sum + 13 ≤ rm.locals) (d : decode cc pc = .ok (.invokestatic index, 3)) (k : J G E nL (pc + 3) lv (.int (if y < x then y else x) :: st) M) : J G E nL pc lv (.int y :: .int x :: st) M := fun H locs ls hP hS hl =>
  va_mmin X.1 X.2.1 (by rw [X.2.2.1]; exact hl.1.symm) X.2.2.2.1 (X.2.2.2.2.1 _ hlink) (X.2.2.2.2.1 _ (tw (i := 410) (by decide +kernel))) (X.2.2.2.2.1 _ (tw (i := 80) (by decide +kernel))) (X.2.2.2.2.1 _ (tw (i := 411) (by decide +kernel))) (by rw [X.2.2.2.2.2.2.2.1]; exact hfr) (by rw [X.2.2.2.2.2.2.2.1]; exact hlo) (by rw [X.2.2.2.2.2.2.2.1]; exact X.2.2.2.2.2.2.2.2.1) (by rw [X.2.2.2.2.2.2.2.1]; exact X.2.2.2.2.2.2.2.2.2) d (k H locs ls hP hS hl)
theorem j_max (X : CX G E own cc nL rm) {index : Nat} {x y : Int32} (hlink : Cond.methodLink own index Lib.Math.max.name ∈ lw_tbl) (hfr : 1 ≤ rm.frames) (hlo : (st.map fun v => v.category).sum + 13 ≤ rm.locals) (d : decode cc pc = .ok (.invokestatic index, 3)) (k : J G E nL (pc + 3) lv (.int (if x < y then y else x) :: st) M) : J G E nL pc lv (.int y :: .int x :: st) M := fun H locs ls hP hS hl =>
  va_mmax X.1 X.2.1 (by rw [X.2.2.1]; exact hl.1.symm) X.2.2.2.1 (X.2.2.2.2.1 _ hlink) (X.2.2.2.2.1 _ (tw (i := 619) (by decide +kernel))) (X.2.2.2.2.1 _ (tw (i := 80) (by decide +kernel))) (X.2.2.2.2.1 _ (tw (i := 620) (by decide +kernel))) (by rw [X.2.2.2.2.2.2.2.1]; exact hfr) (by rw [X.2.2.2.2.2.2.2.1]; exact hlo) (by rw [X.2.2.2.2.2.2.2.1]; exact X.2.2.2.2.2.2.2.2.1) (by rw [X.2.2.2.2.2.2.2.1]; exact X.2.2.2.2.2.2.2.2.2) d (k H locs ls hP hS hl)
/-- ends -/
theorem j_iret {P : Int32 → Mm → Prop} {r : Int32} (X : CX G E own cc nL rm) (Y : RX G E (some .int) (va_Qi P (HRx G) (gA G))) (d : decode cc pc = .ok (.ireturn, 1)) (h : P r M) : J G E nL pc lv [.int r] M := fun H locs ls hP hS hl => by
  show W _ _ _ _ _ _ _ _ _ _ _ _ _ _ (eQ E) _
  rw [Y.2.2.1]
  rw [Y.2.2.2] at hS
  exact W.iret X.1 X.2.1 Y.2.1 (fun t ht hW => ⟨⟨r, M, rfl, h, by rw [ht]; exact hP, va_K.moved hW.alike X.2.2.2.2.2.1⟩, hS.F ht⟩) hS.2.2 d Y.1
theorem j_zret {P : Int32 → Mm → Prop} {r : Int32} (X : CX G E own cc nL rm) (Y : RX G E (some .boolean) (va_Qi P (HRx G) (gA G))) (d : decode cc pc = .ok (.ireturn, 1)) (hn : narrow .boolean (.int r) = .int r) (h : P r M) : J G E nL pc lv [.int r] M := fun H locs ls hP hS hl => by
  show W _ _ _ _ _ _ _ _ _ _ _ _ _ _ (eQ E) _
  rw [Y.2.2.1]
  rw [Y.2.2.2] at hS
  exact W.zret X.1 X.2.1 Y.2.1 hn (fun t ht hW => ⟨⟨r, M, rfl, h, by rw [ht]; exact hP, va_K.moved hW.alike X.2.2.2.2.2.1⟩, hS.F ht⟩) hS.2.2 d Y.1
theorem j_fret {P : UInt32 → Mm → Prop} {r : UInt32} (X : CX G E own cc nL rm) (Y : RX G E (some .float) (va_Qf P (HRx G) (gA G))) (d : decode cc pc = .ok (.freturn, 1)) (h : P r M) : J G E nL pc lv [.float r] M := fun H locs ls hP hS hl => by
  show W _ _ _ _ _ _ _ _ _ _ _ _ _ _ (eQ E) _
  rw [Y.2.2.1]
  rw [Y.2.2.2] at hS
  exact W.fret X.1 X.2.1 Y.2.1 (fun t ht hW => ⟨⟨r, M, rfl, h, by rw [ht]; exact hP, va_K.moved hW.alike X.2.2.2.2.2.1⟩, hS.F ht⟩) hS.2.2 d Y.1
theorem j_vret {P : Mm → Prop} (X : CX G E own cc nL rm) (Y : RX G E none (va_Qv P (HRx G) (gA G))) (d : decode cc pc = .ok (.return_, 1)) (h : P M) : J G E nL pc lv [] M := fun H locs ls hP hS hl => by
  show W _ _ _ _ _ _ _ _ _ _ _ _ _ _ (eQ E) _
  rw [Y.2.2.1]
  rw [Y.2.2.2] at hS
  exact W.vret X.1 X.2.1 Y.2.1 (fun t ht hW => ⟨⟨M, rfl, h, by rw [ht]; exact hP, va_K.moved hW.alike X.2.2.2.2.2.1⟩, hS.F ht⟩) hS.2.2 d Y.1
theorem j_aret {P : Nat × Nat → Mm → Prop} {t b : Nat} {ty : FieldType} (X : CX G E own cc nL rm) (Y : RX G E (some (.array ty)) (va_Qr (fun u : (Nat × Nat) × Mm => P u.1 u.2) (fun u a U => a = adr G u.1.1 u.1.2 ∧ HRx G u.2 U) (gA G))) (d : decode cc pc = .ok (.areturn, 1)) (h : P (t, b) M) : J G E nL pc lv [.ref (adr G t b)] M := fun H locs ls hP hS hl => by
  show W _ _ _ _ _ _ _ _ _ _ _ _ _ _ (eQ E) _
  rw [Y.2.2.1]
  rw [Y.2.2.2] at hS
  exact W.aret X.1 X.2.1 Y.2.1 (Or.inr ⟨_, rfl⟩) (Or.inr ⟨_, rfl⟩) (fun t' ht hW => ⟨⟨((t, b), M), _, rfl, h, rfl, by rw [ht]; exact hP, va_K.moved hW.alike X.2.2.2.2.2.1⟩, hS.F ht⟩) hS.2.2 d Y.1
end FRM
/-- a method's contract, by its sheet -/
def MI (l : Launch) (G : GT) (y : MethodName) (cc : ByteArray) (nL : Nat) (ret : Option FieldType) (rm : Room) (vs : List Value) (M : Mm) (P : Int32 → Mm → Prop) : Prop := Met l y (.code y cc nL ret :: lw_tbl) rm (va_Pc vs (HRx G M)) (va_Qi P (HRx G) (gA G)) 0 0 (gA G)
def MF (l : Launch) (G : GT) (y : MethodName) (cc : ByteArray) (nL : Nat) (ret : Option FieldType) (rm : Room) (vs : List Value) (M : Mm) (P : UInt32 → Mm → Prop) : Prop := Met l y (.code y cc nL ret :: lw_tbl) rm (va_Pc vs (HRx G M)) (va_Qf P (HRx G) (gA G)) 0 0 (gA G)
def MV (l : Launch) (G : GT) (y : MethodName) (cc : ByteArray) (nL : Nat) (ret : Option FieldType) (rm : Room) (vs : List Value) (M : Mm) (P : Mm → Prop) : Prop := Met l y (.code y cc nL ret :: lw_tbl) rm (va_Pc vs (HRx G M)) (va_Qv P (HRx G) (gA G)) 0 0 (gA G)
def MR (l : Launch) (G : GT) (y : MethodName) (cc : ByteArray) (nL : Nat) (ret : Option FieldType) (rm : Room) (vs : List Value) (M : Mm) (P : Nat × Nat → Mm → Prop) : Prop := Met l y (.code y cc nL ret :: lw_tbl) rm (va_Pc vs (HRx G M)) (va_Qr (fun u : (Nat × Nat) × Mm => P u.1 u.2) (fun u a U => a = adr G u.1.1 u.1.2 ∧ HRx G u.2 U) (gA G)) 0 0 (gA G)
/-- the addresses are apart, whatever the cells hold -/
def GD (G : GT) : Prop := ∀ M : Mm, va_D (gA G) (wld G M)
theorem met_by {l : Launch} {G : GT} {y : MethodName} {cc : ByteArray} {nL : Nat} {ret : Option FieldType} {rm : Room} {vs : List Value} {M : Mm} {Qc : Array Value → State → Outcome → State → Prop} {own : String} (hG : GD G) (hown : y.cls = own) (hy : plainName y.cls = true) (hlen : (lg_sl vs).length ≤ nL)
    (body : ∀ E : ET, eL E = l → CX G E own cc nL rm → RX G E ret Qc → J G E nL 0 (lv_args 0 vs) [] M) : Met l y (.code y cc nL ret :: lw_tbl) rm (va_Pc vs (HRx G M)) Qc 0 0 (gA G) := by
  refine Met.ofW (cc := cc) (maxL := nL) (ret := ret) hy rfl ?_
  intro p e s m args below meth c s₁ B hml hv
  obtain ⟨rfl, hP, hK⟩ := hv
  have hown2 : s.vm.findClass own = some m.cls := by rw [← hown]; exact findClass_of_methodNamed B.named
  have hts := atoms_spec (ws := .code y cc nL ret :: lw_tbl) B.pre
  rw [lg_entry_eq]
  exact body (p, l, e, (headSpec (.code y cc nL ret :: lw_tbl) rm).room, s, m, vs.toArray, below, meth, c, s.heap, 0, 0, MQ below Qc vs.toArray s 0 0 (gA G)) rfl
    ⟨B.exec, B.bytes, hml, hown2, fun w h => hts w (List.mem_cons_of_mem _ h), hK, hG, rfl, Nat.zero_le _, Nat.zero_le _⟩ ⟨B.notSynchronized, B.returns, rfl, rfl⟩ s.heap [] _ hP va_S.rf (lv_entry vs hlen)
theorem hr_blind {G : GT} {M : Mm} {vs : List Value} : FrameBlind (va_Pc vs (HRx G M)) := fun a U g mk q => by
  obtain ⟨q0, qP, qK⟩ := q
  exact ⟨q0, qP, va_K.moved (u := U) (U := U.calling g mk a) (Vm.Alike.refl U.vm) qK⟩
theorem lw_good : lw_tbl.all goodWord = true := by decide +kernel
theorem good_ws {y : MethodName} {cc : ByteArray} {nL : Nat} {ret : Option FieldType} (h : Cond.code y cc nL ret ∈ lw_tbl) : GoodIn lw_tbl (.code y cc nL ret :: lw_tbl) := by
  intro w hw
  have hm : w ∈ lw_tbl := by
    rcases List.mem_cons.mp hw with rfl | h2
    · exact h
    · exact h2
  exact ⟨hm, good_of_word (List.all_eq_true.mp lw_good w hm)⟩
/-- where two ways meet again, and loops, in a method's sheet -/
def jn {α : Sort _} (rest : α) (tree : α → Prop) : Prop := tree rest
theorem jn1_s {A0 : Type} {rest : A0 → Prop} {tree : (A0 → Prop) → Prop} {goal : Prop} (h : jn rest tree) (G0 : A0 → Prop) (hr : ∀ (a0 : A0), rest a0 → G0 a0) (ht : ∀ R : A0 → Prop, (∀ (a0 : A0), R a0 → G0 a0) → tree R → goal) : goal := ht rest hr h
def lq1 {A0 : Type} (body : (A0 → Prop) → A0 → Prop) : Nat → A0 → Prop
  | 0 => fun _ => False
  | n + 1 => body (lq1 body n)
theorem lq1_s {A0 : Type} {body : (A0 → Prop) → A0 → Prop} {a0 : A0} {goal : Prop} (h : ∃ n, lq1 body n a0) (G0 : A0 → Prop) (hs : ∀ self : A0 → Prop, (∀ (a0 : A0), self a0 → G0 a0) → ∀ (a0 : A0), body self a0 → G0 a0) (hg : G0 a0 → goal) : goal := by
  obtain ⟨n, h⟩ := h
  refine hg ?_
  have key : ∀ n (a0 : A0), lq1 body n a0 → G0 a0 := by
    intro n
    induction n with
    | zero => intro _ h; exact h.elim
    | succ n ih => intro a0 h; exact hs _ ih _ h
  exact key n _ h
theorem lq1_i {A0 : Type} {body : (A0 → Prop) → A0 → Prop} (I : A0 → Prop) (μ : A0 → Nat) (hb : ∀ (a0 : A0), I a0 → ∀ self : A0 → Prop, (∀ (b0 : A0), I b0 → μ b0 < μ a0 → self b0) → body self a0) (a0 : A0) (h0 : I a0) : ∃ n, lq1 body n a0 := by
  have key : ∀ n (a0 : A0), I a0 → μ a0 < n → lq1 body n a0 := by
    intro n
    induction n with
    | zero => intro _ _ h; exact absurd h (Nat.not_lt_zero _)
    | succ n ih => intro a0 hi hm; exact hb a0 hi _ (fun b0 hi2 hm2 => ih b0 hi2 (by omega))
  exact ⟨_, key _ _ h0 (Nat.lt_succ_self _)⟩
theorem jn2_s {A0 A1 : Type} {rest : A0 → A1 → Prop} {tree : (A0 → A1 → Prop) → Prop} {goal : Prop} (h : jn rest tree) (G0 : A0 → A1 → Prop) (hr : ∀ (a0 : A0) (a1 : A1), rest a0 a1 → G0 a0 a1) (ht : ∀ R : A0 → A1 → Prop, (∀ (a0 : A0) (a1 : A1), R a0 a1 → G0 a0 a1) → tree R → goal) : goal := ht rest hr h
def lq2 {A0 A1 : Type} (body : (A0 → A1 → Prop) → A0 → A1 → Prop) : Nat → A0 → A1 → Prop
  | 0 => fun _ _ => False
  | n + 1 => body (lq2 body n)
theorem lq2_s {A0 A1 : Type} {body : (A0 → A1 → Prop) → A0 → A1 → Prop} {a0 : A0} {a1 : A1} {goal : Prop} (h : ∃ n, lq2 body n a0 a1) (G0 : A0 → A1 → Prop) (hs : ∀ self : A0 → A1 → Prop, (∀ (a0 : A0) (a1 : A1), self a0 a1 → G0 a0 a1) → ∀ (a0 : A0) (a1 : A1), body self a0 a1 → G0 a0 a1) (hg : G0 a0 a1 → goal) : goal := by
  obtain ⟨n, h⟩ := h
  refine hg ?_
  have key : ∀ n (a0 : A0) (a1 : A1), lq2 body n a0 a1 → G0 a0 a1 := by
    intro n
    induction n with
    | zero => intro _ _ h; exact h.elim
    | succ n ih => intro a0 a1 h; exact hs _ ih _ _ h
  exact key n _ _ h
theorem lq2_i {A0 A1 : Type} {body : (A0 → A1 → Prop) → A0 → A1 → Prop} (I : A0 → A1 → Prop) (μ : A0 → A1 → Nat) (hb : ∀ (a0 : A0) (a1 : A1), I a0 a1 → ∀ self : A0 → A1 → Prop, (∀ (b0 : A0) (b1 : A1), I b0 b1 → μ b0 b1 < μ a0 a1 → self b0 b1) → body self a0 a1) (a0 : A0) (a1 : A1) (h0 : I a0 a1) : ∃ n, lq2 body n a0 a1 := by
  have key : ∀ n (a0 : A0) (a1 : A1), I a0 a1 → μ a0 a1 < n → lq2 body n a0 a1 := by
    intro n
    induction n with
    | zero => intro _ _ _ h; exact absurd h (Nat.not_lt_zero _)
    | succ n ih => intro a0 a1 hi hm; exact hb a0 a1 hi _ (fun b0 b1 hi2 hm2 => ih b0 b1 hi2 (by omega))
  exact ⟨_, key _ _ _ h0 (Nat.lt_succ_self _)⟩
theorem jn3_s {A0 A1 A2 : Type} {rest : A0 → A1 → A2 → Prop} {tree : (A0 → A1 → A2 → Prop) → Prop} {goal : Prop} (h : jn rest tree) (G0 : A0 → A1 → A2 → Prop) (hr : ∀ (a0 : A0) (a1 : A1) (a2 : A2), rest a0 a1 a2 → G0 a0 a1 a2) (ht : ∀ R : A0 → A1 → A2 → Prop, (∀ (a0 : A0) (a1 : A1) (a2 : A2), R a0 a1 a2 → G0 a0 a1 a2) → tree R → goal) : goal := ht rest hr h
def lq3 {A0 A1 A2 : Type} (body : (A0 → A1 → A2 → Prop) → A0 → A1 → A2 → Prop) : Nat → A0 → A1 → A2 → Prop
  | 0 => fun _ _ _ => False
  | n + 1 => body (lq3 body n)
theorem lq3_s {A0 A1 A2 : Type} {body : (A0 → A1 → A2 → Prop) → A0 → A1 → A2 → Prop} {a0 : A0} {a1 : A1} {a2 : A2} {goal : Prop} (h : ∃ n, lq3 body n a0 a1 a2) (G0 : A0 → A1 → A2 → Prop) (hs : ∀ self : A0 → A1 → A2 → Prop, (∀ (a0 : A0) (a1 : A1) (a2 : A2), self a0 a1 a2 → G0 a0 a1 a2) → ∀ (a0 : A0) (a1 : A1) (a2 : A2), body self a0 a1 a2 → G0 a0 a1 a2) (hg : G0 a0 a1 a2 → goal) : goal := by
  obtain ⟨n, h⟩ := h
  refine hg ?_
  have key : ∀ n (a0 : A0) (a1 : A1) (a2 : A2), lq3 body n a0 a1 a2 → G0 a0 a1 a2 := by
    intro n
    induction n with
    | zero => intro _ _ _ h; exact h.elim
    | succ n ih => intro a0 a1 a2 h; exact hs _ ih _ _ _ h
  exact key n _ _ _ h
theorem lq3_i {A0 A1 A2 : Type} {body : (A0 → A1 → A2 → Prop) → A0 → A1 → A2 → Prop} (I : A0 → A1 → A2 → Prop) (μ : A0 → A1 → A2 → Nat) (hb : ∀ (a0 : A0) (a1 : A1) (a2 : A2), I a0 a1 a2 → ∀ self : A0 → A1 → A2 → Prop, (∀ (b0 : A0) (b1 : A1) (b2 : A2), I b0 b1 b2 → μ b0 b1 b2 < μ a0 a1 a2 → self b0 b1 b2) → body self a0 a1 a2) (a0 : A0) (a1 : A1) (a2 : A2) (h0 : I a0 a1 a2) : ∃ n, lq3 body n a0 a1 a2 := by
  have key : ∀ n (a0 : A0) (a1 : A1) (a2 : A2), I a0 a1 a2 → μ a0 a1 a2 < n → lq3 body n a0 a1 a2 := by
    intro n
    induction n with
    | zero => intro _ _ _ _ h; exact absurd h (Nat.not_lt_zero _)
    | succ n ih => intro a0 a1 a2 hi hm; exact hb a0 a1 a2 hi _ (fun b0 b1 b2 hi2 hm2 => ih b0 b1 b2 hi2 (by omega))
  exact ⟨_, key _ _ _ _ h0 (Nat.lt_succ_self _)⟩
theorem jn4_s {A0 A1 A2 A3 : Type} {rest : A0 → A1 → A2 → A3 → Prop} {tree : (A0 → A1 → A2 → A3 → Prop) → Prop} {goal : Prop} (h : jn rest tree) (G0 : A0 → A1 → A2 → A3 → Prop) (hr : ∀ (a0 : A0) (a1 : A1) (a2 : A2) (a3 : A3), rest a0 a1 a2 a3 → G0 a0 a1 a2 a3) (ht : ∀ R : A0 → A1 → A2 → A3 → Prop, (∀ (a0 : A0) (a1 : A1) (a2 : A2) (a3 : A3), R a0 a1 a2 a3 → G0 a0 a1 a2 a3) → tree R → goal) : goal := ht rest hr h
def lq4 {A0 A1 A2 A3 : Type} (body : (A0 → A1 → A2 → A3 → Prop) → A0 → A1 → A2 → A3 → Prop) : Nat → A0 → A1 → A2 → A3 → Prop
  | 0 => fun _ _ _ _ => False
  | n + 1 => body (lq4 body n)
theorem lq4_s {A0 A1 A2 A3 : Type} {body : (A0 → A1 → A2 → A3 → Prop) → A0 → A1 → A2 → A3 → Prop} {a0 : A0} {a1 : A1} {a2 : A2} {a3 : A3} {goal : Prop} (h : ∃ n, lq4 body n a0 a1 a2 a3) (G0 : A0 → A1 → A2 → A3 → Prop) (hs : ∀ self : A0 → A1 → A2 → A3 → Prop, (∀ (a0 : A0) (a1 : A1) (a2 : A2) (a3 : A3), self a0 a1 a2 a3 → G0 a0 a1 a2 a3) → ∀ (a0 : A0) (a1 : A1) (a2 : A2) (a3 : A3), body self a0 a1 a2 a3 → G0 a0 a1 a2 a3) (hg : G0 a0 a1 a2 a3 → goal) : goal := by
  obtain ⟨n, h⟩ := h
  refine hg ?_
  have key : ∀ n (a0 : A0) (a1 : A1) (a2 : A2) (a3 : A3), lq4 body n a0 a1 a2 a3 → G0 a0 a1 a2 a3 := by
    intro n
    induction n with
    | zero => intro _ _ _ _ h; exact h.elim
    | succ n ih => intro a0 a1 a2 a3 h; exact hs _ ih _ _ _ _ h
  exact key n _ _ _ _ h
theorem lq4_i {A0 A1 A2 A3 : Type} {body : (A0 → A1 → A2 → A3 → Prop) → A0 → A1 → A2 → A3 → Prop} (I : A0 → A1 → A2 → A3 → Prop) (μ : A0 → A1 → A2 → A3 → Nat) (hb : ∀ (a0 : A0) (a1 : A1) (a2 : A2) (a3 : A3), I a0 a1 a2 a3 → ∀ self : A0 → A1 → A2 → A3 → Prop, (∀ (b0 : A0) (b1 : A1) (b2 : A2) (b3 : A3), I b0 b1 b2 b3 → μ b0 b1 b2 b3 < μ a0 a1 a2 a3 → self b0 b1 b2 b3) → body self a0 a1 a2 a3) (a0 : A0) (a1 : A1) (a2 : A2) (a3 : A3) (h0 : I a0 a1 a2 a3) : ∃ n, lq4 body n a0 a1 a2 a3 := by
  have key : ∀ n (a0 : A0) (a1 : A1) (a2 : A2) (a3 : A3), I a0 a1 a2 a3 → μ a0 a1 a2 a3 < n → lq4 body n a0 a1 a2 a3 := by
    intro n
    induction n with
    | zero => intro _ _ _ _ _ h; exact absurd h (Nat.not_lt_zero _)
    | succ n ih => intro a0 a1 a2 a3 hi hm; exact hb a0 a1 a2 a3 hi _ (fun b0 b1 b2 b3 hi2 hm2 => ih b0 b1 b2 b3 hi2 (by omega))
  exact ⟨_, key _ _ _ _ _ h0 (Nat.lt_succ_self _)⟩
theorem jn5_s {A0 A1 A2 A3 A4 : Type} {rest : A0 → A1 → A2 → A3 → A4 → Prop} {tree : (A0 → A1 → A2 → A3 → A4 → Prop) → Prop} {goal : Prop} (h : jn rest tree) (G0 : A0 → A1 → A2 → A3 → A4 → Prop) (hr : ∀ (a0 : A0) (a1 : A1) (a2 : A2) (a3 : A3) (a4 : A4), rest a0 a1 a2 a3 a4 → G0 a0 a1 a2 a3 a4) (ht : ∀ R : A0 → A1 → A2 → A3 → A4 → Prop, (∀ (a0 : A0) (a1 : A1) (a2 : A2) (a3 : A3) (a4 : A4), R a0 a1 a2 a3 a4 → G0 a0 a1 a2 a3 a4) → tree R → goal) : goal := ht rest hr h
def lq5 {A0 A1 A2 A3 A4 : Type} (body : (A0 → A1 → A2 → A3 → A4 → Prop) → A0 → A1 → A2 → A3 → A4 → Prop) : Nat → A0 → A1 → A2 → A3 → A4 → Prop
  | 0 => fun _ _ _ _ _ => False
  | n + 1 => body (lq5 body n)
theorem lq5_s {A0 A1 A2 A3 A4 : Type} {body : (A0 → A1 → A2 → A3 → A4 → Prop) → A0 → A1 → A2 → A3 → A4 → Prop} {a0 : A0} {a1 : A1} {a2 : A2} {a3 : A3} {a4 : A4} {goal : Prop} (h : ∃ n, lq5 body n a0 a1 a2 a3 a4) (G0 : A0 → A1 → A2 → A3 → A4 → Prop) (hs : ∀ self : A0 → A1 → A2 → A3 → A4 → Prop, (∀ (a0 : A0) (a1 : A1) (a2 : A2) (a3 : A3) (a4 : A4), self a0 a1 a2 a3 a4 → G0 a0 a1 a2 a3 a4) → ∀ (a0 : A0) (a1 : A1) (a2 : A2) (a3 : A3) (a4 : A4), body self a0 a1 a2 a3 a4 → G0 a0 a1 a2 a3 a4) (hg : G0 a0 a1 a2 a3 a4 → goal) : goal := by
  obtain ⟨n, h⟩ := h
  refine hg ?_
  have key : ∀ n (a0 : A0) (a1 : A1) (a2 : A2) (a3 : A3) (a4 : A4), lq5 body n a0 a1 a2 a3 a4 → G0 a0 a1 a2 a3 a4 := by
    intro n
    induction n with
    | zero => intro _ _ _ _ _ h; exact h.elim
    | succ n ih => intro a0 a1 a2 a3 a4 h; exact hs _ ih _ _ _ _ _ h
  exact key n _ _ _ _ _ h
theorem lq5_i {A0 A1 A2 A3 A4 : Type} {body : (A0 → A1 → A2 → A3 → A4 → Prop) → A0 → A1 → A2 → A3 → A4 → Prop} (I : A0 → A1 → A2 → A3 → A4 → Prop) (μ : A0 → A1 → A2 → A3 → A4 → Nat) (hb : ∀ (a0 : A0) (a1 : A1) (a2 : A2) (a3 : A3) (a4 : A4), I a0 a1 a2 a3 a4 → ∀ self : A0 → A1 → A2 → A3 → A4 → Prop, (∀ (b0 : A0) (b1 : A1) (b2 : A2) (b3 : A3) (b4 : A4), I b0 b1 b2 b3 b4 → μ b0 b1 b2 b3 b4 < μ a0 a1 a2 a3 a4 → self b0 b1 b2 b3 b4) → body self a0 a1 a2 a3 a4) (a0 : A0) (a1 : A1) (a2 : A2) (a3 : A3) (a4 : A4) (h0 : I a0 a1 a2 a3 a4) : ∃ n, lq5 body n a0 a1 a2 a3 a4 := by
  have key : ∀ n (a0 : A0) (a1 : A1) (a2 : A2) (a3 : A3) (a4 : A4), I a0 a1 a2 a3 a4 → μ a0 a1 a2 a3 a4 < n → lq5 body n a0 a1 a2 a3 a4 := by
    intro n
    induction n with
    | zero => intro _ _ _ _ _ _ h; exact absurd h (Nat.not_lt_zero _)
    | succ n ih => intro a0 a1 a2 a3 a4 hi hm; exact hb a0 a1 a2 a3 a4 hi _ (fun b0 b1 b2 b3 b4 hi2 hm2 => ih b0 b1 b2 b3 b4 hi2 (by omega))
  exact ⟨_, key _ _ _ _ _ _ h0 (Nat.lt_succ_self _)⟩
theorem jn6_s {A0 A1 A2 A3 A4 A5 : Type} {rest : A0 → A1 → A2 → A3 → A4 → A5 → Prop} {tree : (A0 → A1 → A2 → A3 → A4 → A5 → Prop) → Prop} {goal : Prop} (h : jn rest tree) (G0 : A0 → A1 → A2 → A3 → A4 → A5 → Prop) (hr : ∀ (a0 : A0) (a1 : A1) (a2 : A2) (a3 : A3) (a4 : A4) (a5 : A5), rest a0 a1 a2 a3 a4 a5 → G0 a0 a1 a2 a3 a4 a5) (ht : ∀ R : A0 → A1 → A2 → A3 → A4 → A5 → Prop, (∀ (a0 : A0) (a1 : A1) (a2 : A2) (a3 : A3) (a4 : A4) (a5 : A5), R a0 a1 a2 a3 a4 a5 → G0 a0 a1 a2 a3 a4 a5) → tree R → goal) : goal := ht rest hr h
def lq6 {A0 A1 A2 A3 A4 A5 : Type} (body : (A0 → A1 → A2 → A3 → A4 → A5 → Prop) → A0 → A1 → A2 → A3 → A4 → A5 → Prop) : Nat → A0 → A1 → A2 → A3 → A4 → A5 → Prop
  | 0 => fun _ _ _ _ _ _ => False
  | n + 1 => body (lq6 body n)
theorem lq6_s {A0 A1 A2 A3 A4 A5 : Type} {body : (A0 → A1 → A2 → A3 → A4 → A5 → Prop) → A0 → A1 → A2 → A3 → A4 → A5 → Prop} {a0 : A0} {a1 : A1} {a2 : A2} {a3 : A3} {a4 : A4} {a5 : A5} {goal : Prop} (h : ∃ n, lq6 body n a0 a1 a2 a3 a4 a5) (G0 : A0 → A1 → A2 → A3 → A4 → A5 → Prop) (hs : ∀ self : A0 → A1 → A2 → A3 → A4 → A5 → Prop, (∀ (a0 : A0) (a1 : A1) (a2 : A2) (a3 : A3) (a4 : A4) (a5 : A5), self a0 a1 a2 a3 a4 a5 → G0 a0 a1 a2 a3 a4 a5) → ∀ (a0 : A0) (a1 : A1) (a2 : A2) (a3 : A3) (a4 : A4) (a5 : A5), body self a0 a1 a2 a3 a4 a5 → G0 a0 a1 a2 a3 a4 a5) (hg : G0 a0 a1 a2 a3 a4 a5 → goal) : goal := by
  obtain ⟨n, h⟩ := h
  refine hg ?_
  have key : ∀ n (a0 : A0) (a1 : A1) (a2 : A2) (a3 : A3) (a4 : A4) (a5 : A5), lq6 body n a0 a1 a2 a3 a4 a5 → G0 a0 a1 a2 a3 a4 a5 := by
    intro n
    induction n with
    | zero => intro _ _ _ _ _ _ h; exact h.elim
    | succ n ih => intro a0 a1 a2 a3 a4 a5 h; exact hs _ ih _ _ _ _ _ _ h
  exact key n _ _ _ _ _ _ h
theorem lq6_i {A0 A1 A2 A3 A4 A5 : Type} {body : (A0 → A1 → A2 → A3 → A4 → A5 → Prop) → A0 → A1 → A2 → A3 → A4 → A5 → Prop} (I : A0 → A1 → A2 → A3 → A4 → A5 → Prop) (μ : A0 → A1 → A2 → A3 → A4 → A5 → Nat) (hb : ∀ (a0 : A0) (a1 : A1) (a2 : A2) (a3 : A3) (a4 : A4) (a5 : A5), I a0 a1 a2 a3 a4 a5 → ∀ self : A0 → A1 → A2 → A3 → A4 → A5 → Prop, (∀ (b0 : A0) (b1 : A1) (b2 : A2) (b3 : A3) (b4 : A4) (b5 : A5), I b0 b1 b2 b3 b4 b5 → μ b0 b1 b2 b3 b4 b5 < μ a0 a1 a2 a3 a4 a5 → self b0 b1 b2 b3 b4 b5) → body self a0 a1 a2 a3 a4 a5) (a0 : A0) (a1 : A1) (a2 : A2) (a3 : A3) (a4 : A4) (a5 : A5) (h0 : I a0 a1 a2 a3 a4 a5) : ∃ n, lq6 body n a0 a1 a2 a3 a4 a5 := by
  have key : ∀ n (a0 : A0) (a1 : A1) (a2 : A2) (a3 : A3) (a4 : A4) (a5 : A5), I a0 a1 a2 a3 a4 a5 → μ a0 a1 a2 a3 a4 a5 < n → lq6 body n a0 a1 a2 a3 a4 a5 := by
    intro n
    induction n with
    | zero => intro _ _ _ _ _ _ _ h; exact absurd h (Nat.not_lt_zero _)
    | succ n ih => intro a0 a1 a2 a3 a4 a5 hi hm; exact hb a0 a1 a2 a3 a4 a5 hi _ (fun b0 b1 b2 b3 b4 b5 hi2 hm2 => ih b0 b1 b2 b3 b4 b5 hi2 (by omega))
  exact ⟨_, key _ _ _ _ _ _ _ h0 (Nat.lt_succ_self _)⟩
def lq7 {A0 A1 A2 A3 A4 A5 A6 : Type} (body : (A0 → A1 → A2 → A3 → A4 → A5 → A6 → Prop) → A0 → A1 → A2 → A3 → A4 → A5 → A6 → Prop) : Nat → A0 → A1 → A2 → A3 → A4 → A5 → A6 → Prop
  | 0 => fun _ _ _ _ _ _ _ => False
  | n + 1 => body (lq7 body n)
theorem lq7_s {A0 A1 A2 A3 A4 A5 A6 : Type} {body : (A0 → A1 → A2 → A3 → A4 → A5 → A6 → Prop) → A0 → A1 → A2 → A3 → A4 → A5 → A6 → Prop} {a0 : A0} {a1 : A1} {a2 : A2} {a3 : A3} {a4 : A4} {a5 : A5} {a6 : A6} {goal : Prop} (h : ∃ n, lq7 body n a0 a1 a2 a3 a4 a5 a6) (G0 : A0 → A1 → A2 → A3 → A4 → A5 → A6 → Prop) (hs : ∀ self : A0 → A1 → A2 → A3 → A4 → A5 → A6 → Prop, (∀ (a0 : A0) (a1 : A1) (a2 : A2) (a3 : A3) (a4 : A4) (a5 : A5) (a6 : A6), self a0 a1 a2 a3 a4 a5 a6 → G0 a0 a1 a2 a3 a4 a5 a6) → ∀ (a0 : A0) (a1 : A1) (a2 : A2) (a3 : A3) (a4 : A4) (a5 : A5) (a6 : A6), body self a0 a1 a2 a3 a4 a5 a6 → G0 a0 a1 a2 a3 a4 a5 a6) (hg : G0 a0 a1 a2 a3 a4 a5 a6 → goal) : goal := by
  obtain ⟨n, h⟩ := h
  refine hg ?_
  have key : ∀ n (a0 : A0) (a1 : A1) (a2 : A2) (a3 : A3) (a4 : A4) (a5 : A5) (a6 : A6), lq7 body n a0 a1 a2 a3 a4 a5 a6 → G0 a0 a1 a2 a3 a4 a5 a6 := by
    intro n
    induction n with
    | zero => intro _ _ _ _ _ _ _ h; exact h.elim
    | succ n ih => intro a0 a1 a2 a3 a4 a5 a6 h; exact hs _ ih _ _ _ _ _ _ _ h
  exact key n _ _ _ _ _ _ _ h
theorem lq7_i {A0 A1 A2 A3 A4 A5 A6 : Type} {body : (A0 → A1 → A2 → A3 → A4 → A5 → A6 → Prop) → A0 → A1 → A2 → A3 → A4 → A5 → A6 → Prop} (I : A0 → A1 → A2 → A3 → A4 → A5 → A6 → Prop) (μ : A0 → A1 → A2 → A3 → A4 → A5 → A6 → Nat) (hb : ∀ (a0 : A0) (a1 : A1) (a2 : A2) (a3 : A3) (a4 : A4) (a5 : A5) (a6 : A6), I a0 a1 a2 a3 a4 a5 a6 → ∀ self : A0 → A1 → A2 → A3 → A4 → A5 → A6 → Prop, (∀ (b0 : A0) (b1 : A1) (b2 : A2) (b3 : A3) (b4 : A4) (b5 : A5) (b6 : A6), I b0 b1 b2 b3 b4 b5 b6 → μ b0 b1 b2 b3 b4 b5 b6 < μ a0 a1 a2 a3 a4 a5 a6 → self b0 b1 b2 b3 b4 b5 b6) → body self a0 a1 a2 a3 a4 a5 a6) (a0 : A0) (a1 : A1) (a2 : A2) (a3 : A3) (a4 : A4) (a5 : A5) (a6 : A6) (h0 : I a0 a1 a2 a3 a4 a5 a6) : ∃ n, lq7 body n a0 a1 a2 a3 a4 a5 a6 := by
  have key : ∀ n (a0 : A0) (a1 : A1) (a2 : A2) (a3 : A3) (a4 : A4) (a5 : A5) (a6 : A6), I a0 a1 a2 a3 a4 a5 a6 → μ a0 a1 a2 a3 a4 a5 a6 < n → lq7 body n a0 a1 a2 a3 a4 a5 a6 := by
    intro n
    induction n with
    | zero => intro _ _ _ _ _ _ _ _ h; exact absurd h (Nat.not_lt_zero _)
    | succ n ih => intro a0 a1 a2 a3 a4 a5 a6 hi hm; exact hb a0 a1 a2 a3 a4 a5 a6 hi _ (fun b0 b1 b2 b3 b4 b5 b6 hi2 hm2 => ih b0 b1 b2 b3 b4 b5 b6 hi2 (by omega))
  exact ⟨_, key _ _ _ _ _ _ _ _ h0 (Nat.lt_succ_self _)⟩
def lq8 {A0 A1 A2 A3 A4 A5 A6 A7 : Type} (body : (A0 → A1 → A2 → A3 → A4 → A5 → A6 → A7 → Prop) → A0 → A1 → A2 → A3 → A4 → A5 → A6 → A7 → Prop) : Nat → A0 → A1 → A2 → A3 → A4 → A5 → A6 → A7 → Prop
  | 0 => fun _ _ _ _ _ _ _ _ => False
  | n + 1 => body (lq8 body n)
theorem lq8_s {A0 A1 A2 A3 A4 A5 A6 A7 : Type} {body : (A0 → A1 → A2 → A3 → A4 → A5 → A6 → A7 → Prop) → A0 → A1 → A2 → A3 → A4 → A5 → A6 → A7 → Prop} {a0 : A0} {a1 : A1} {a2 : A2} {a3 : A3} {a4 : A4} {a5 : A5} {a6 : A6} {a7 : A7} {goal : Prop} (h : ∃ n, lq8 body n a0 a1 a2 a3 a4 a5 a6 a7) (G0 : A0 → A1 → A2 → A3 → A4 → A5 → A6 → A7 → Prop) (hs : ∀ self : A0 → A1 → A2 → A3 → A4 → A5 → A6 → A7 → Prop, (∀ (a0 : A0) (a1 : A1) (a2 : A2) (a3 : A3) (a4 : A4) (a5 : A5) (a6 : A6) (a7 : A7), self a0 a1 a2 a3 a4 a5 a6 a7 → G0 a0 a1 a2 a3 a4 a5 a6 a7) → ∀ (a0 : A0) (a1 : A1) (a2 : A2) (a3 : A3) (a4 : A4) (a5 : A5) (a6 : A6) (a7 : A7), body self a0 a1 a2 a3 a4 a5 a6 a7 → G0 a0 a1 a2 a3 a4 a5 a6 a7) (hg : G0 a0 a1 a2 a3 a4 a5 a6 a7 → goal) : goal := by
  obtain ⟨n, h⟩ := h
  refine hg ?_
  have key : ∀ n (a0 : A0) (a1 : A1) (a2 : A2) (a3 : A3) (a4 : A4) (a5 : A5) (a6 : A6) (a7 : A7), lq8 body n a0 a1 a2 a3 a4 a5 a6 a7 → G0 a0 a1 a2 a3 a4 a5 a6 a7 := by
    intro n
    induction n with
    | zero => intro _ _ _ _ _ _ _ _ h; exact h.elim
    | succ n ih => intro a0 a1 a2 a3 a4 a5 a6 a7 h; exact hs _ ih _ _ _ _ _ _ _ _ h
  exact key n _ _ _ _ _ _ _ _ h
theorem lq8_i {A0 A1 A2 A3 A4 A5 A6 A7 : Type} {body : (A0 → A1 → A2 → A3 → A4 → A5 → A6 → A7 → Prop) → A0 → A1 → A2 → A3 → A4 → A5 → A6 → A7 → Prop} (I : A0 → A1 → A2 → A3 → A4 → A5 → A6 → A7 → Prop) (μ : A0 → A1 → A2 → A3 → A4 → A5 → A6 → A7 → Nat) (hb : ∀ (a0 : A0) (a1 : A1) (a2 : A2) (a3 : A3) (a4 : A4) (a5 : A5) (a6 : A6) (a7 : A7), I a0 a1 a2 a3 a4 a5 a6 a7 → ∀ self : A0 → A1 → A2 → A3 → A4 → A5 → A6 → A7 → Prop, (∀ (b0 : A0) (b1 : A1) (b2 : A2) (b3 : A3) (b4 : A4) (b5 : A5) (b6 : A6) (b7 : A7), I b0 b1 b2 b3 b4 b5 b6 b7 → μ b0 b1 b2 b3 b4 b5 b6 b7 < μ a0 a1 a2 a3 a4 a5 a6 a7 → self b0 b1 b2 b3 b4 b5 b6 b7) → body self a0 a1 a2 a3 a4 a5 a6 a7) (a0 : A0) (a1 : A1) (a2 : A2) (a3 : A3) (a4 : A4) (a5 : A5) (a6 : A6) (a7 : A7) (h0 : I a0 a1 a2 a3 a4 a5 a6 a7) : ∃ n, lq8 body n a0 a1 a2 a3 a4 a5 a6 a7 := by
  have key : ∀ n (a0 : A0) (a1 : A1) (a2 : A2) (a3 : A3) (a4 : A4) (a5 : A5) (a6 : A6) (a7 : A7), I a0 a1 a2 a3 a4 a5 a6 a7 → μ a0 a1 a2 a3 a4 a5 a6 a7 < n → lq8 body n a0 a1 a2 a3 a4 a5 a6 a7 := by
    intro n
    induction n with
    | zero => intro _ _ _ _ _ _ _ _ _ h; exact absurd h (Nat.not_lt_zero _)
    | succ n ih => intro a0 a1 a2 a3 a4 a5 a6 a7 hi hm; exact hb a0 a1 a2 a3 a4 a5 a6 a7 hi _ (fun b0 b1 b2 b3 b4 b5 b6 b7 hi2 hm2 => ih b0 b1 b2 b3 b4 b5 b6 b7 hi2 (by omega))
  exact ⟨_, key _ _ _ _ _ _ _ _ _ h0 (Nat.lt_succ_self _)⟩
def lq9 {A0 A1 A2 A3 A4 A5 A6 A7 A8 : Type} (body : (A0 → A1 → A2 → A3 → A4 → A5 → A6 → A7 → A8 → Prop) → A0 → A1 → A2 → A3 → A4 → A5 → A6 → A7 → A8 → Prop) : Nat → A0 → A1 → A2 → A3 → A4 → A5 → A6 → A7 → A8 → Prop
  | 0 => fun _ _ _ _ _ _ _ _ _ => False
  | n + 1 => body (lq9 body n)
theorem lq9_s {A0 A1 A2 A3 A4 A5 A6 A7 A8 : Type} {body : (A0 → A1 → A2 → A3 → A4 → A5 → A6 → A7 → A8 → Prop) → A0 → A1 → A2 → A3 → A4 → A5 → A6 → A7 → A8 → Prop} {a0 : A0} {a1 : A1} {a2 : A2} {a3 : A3} {a4 : A4} {a5 : A5} {a6 : A6} {a7 : A7} {a8 : A8} {goal : Prop} (h : ∃ n, lq9 body n a0 a1 a2 a3 a4 a5 a6 a7 a8) (G0 : A0 → A1 → A2 → A3 → A4 → A5 → A6 → A7 → A8 → Prop) (hs : ∀ self : A0 → A1 → A2 → A3 → A4 → A5 → A6 → A7 → A8 → Prop, (∀ (a0 : A0) (a1 : A1) (a2 : A2) (a3 : A3) (a4 : A4) (a5 : A5) (a6 : A6) (a7 : A7) (a8 : A8), self a0 a1 a2 a3 a4 a5 a6 a7 a8 → G0 a0 a1 a2 a3 a4 a5 a6 a7 a8) → ∀ (a0 : A0) (a1 : A1) (a2 : A2) (a3 : A3) (a4 : A4) (a5 : A5) (a6 : A6) (a7 : A7) (a8 : A8), body self a0 a1 a2 a3 a4 a5 a6 a7 a8 → G0 a0 a1 a2 a3 a4 a5 a6 a7 a8) (hg : G0 a0 a1 a2 a3 a4 a5 a6 a7 a8 → goal) : goal := by
  obtain ⟨n, h⟩ := h
  refine hg ?_
  have key : ∀ n (a0 : A0) (a1 : A1) (a2 : A2) (a3 : A3) (a4 : A4) (a5 : A5) (a6 : A6) (a7 : A7) (a8 : A8), lq9 body n a0 a1 a2 a3 a4 a5 a6 a7 a8 → G0 a0 a1 a2 a3 a4 a5 a6 a7 a8 := by
    intro n
    induction n with
    | zero => intro _ _ _ _ _ _ _ _ _ h; exact h.elim
    | succ n ih => intro a0 a1 a2 a3 a4 a5 a6 a7 a8 h; exact hs _ ih _ _ _ _ _ _ _ _ _ h
  exact key n _ _ _ _ _ _ _ _ _ h
theorem lq9_i {A0 A1 A2 A3 A4 A5 A6 A7 A8 : Type} {body : (A0 → A1 → A2 → A3 → A4 → A5 → A6 → A7 → A8 → Prop) → A0 → A1 → A2 → A3 → A4 → A5 → A6 → A7 → A8 → Prop} (I : A0 → A1 → A2 → A3 → A4 → A5 → A6 → A7 → A8 → Prop) (μ : A0 → A1 → A2 → A3 → A4 → A5 → A6 → A7 → A8 → Nat) (hb : ∀ (a0 : A0) (a1 : A1) (a2 : A2) (a3 : A3) (a4 : A4) (a5 : A5) (a6 : A6) (a7 : A7) (a8 : A8), I a0 a1 a2 a3 a4 a5 a6 a7 a8 → ∀ self : A0 → A1 → A2 → A3 → A4 → A5 → A6 → A7 → A8 → Prop, (∀ (b0 : A0) (b1 : A1) (b2 : A2) (b3 : A3) (b4 : A4) (b5 : A5) (b6 : A6) (b7 : A7) (b8 : A8), I b0 b1 b2 b3 b4 b5 b6 b7 b8 → μ b0 b1 b2 b3 b4 b5 b6 b7 b8 < μ a0 a1 a2 a3 a4 a5 a6 a7 a8 → self b0 b1 b2 b3 b4 b5 b6 b7 b8) → body self a0 a1 a2 a3 a4 a5 a6 a7 a8) (a0 : A0) (a1 : A1) (a2 : A2) (a3 : A3) (a4 : A4) (a5 : A5) (a6 : A6) (a7 : A7) (a8 : A8) (h0 : I a0 a1 a2 a3 a4 a5 a6 a7 a8) : ∃ n, lq9 body n a0 a1 a2 a3 a4 a5 a6 a7 a8 := by
  have key : ∀ n (a0 : A0) (a1 : A1) (a2 : A2) (a3 : A3) (a4 : A4) (a5 : A5) (a6 : A6) (a7 : A7) (a8 : A8), I a0 a1 a2 a3 a4 a5 a6 a7 a8 → μ a0 a1 a2 a3 a4 a5 a6 a7 a8 < n → lq9 body n a0 a1 a2 a3 a4 a5 a6 a7 a8 := by
    intro n
    induction n with
    | zero => intro _ _ _ _ _ _ _ _ _ _ h; exact absurd h (Nat.not_lt_zero _)
    | succ n ih => intro a0 a1 a2 a3 a4 a5 a6 a7 a8 hi hm; exact hb a0 a1 a2 a3 a4 a5 a6 a7 a8 hi _ (fun b0 b1 b2 b3 b4 b5 b6 b7 b8 hi2 hm2 => ih b0 b1 b2 b3 b4 b5 b6 b7 b8 hi2 (by omega))
  exact ⟨_, key _ _ _ _ _ _ _ _ _ _ h0 (Nat.lt_succ_self _)⟩
end
section
theorem zz_end : True := trivial
end
