section
-- ===== PART A: goes FIRST, ahead of the names: the tables' words, and 'selects' of the private methods out of them =====
/-- a private method of a class that the tables say can be made, by its rows of tables_1 -/
def lw_okq (q : MethodName × Nat) : Prop := (q.1.cls ≠ "java/lang/invoke/MethodHandle" ∧ q.1.cls ≠ "java/lang/invoke/VarHandle") ∧ Cond.instantiable q.1.cls q.2 ∈ tables_1 ∧ Cond.privateMethod q.1 ∈ tables_1 ∧ Cond.instanceMethod q.1 ∈ tables_1
theorem lw_p0 : lw_okq (⟨"SoundPaid", "textOf", "(I)LSoundPaid$Text;"⟩, 10) := ⟨⟨by decide +kernel, by decide +kernel⟩, List.mem_of_getElem? (i := 20) (by decide +kernel), List.mem_of_getElem? (i := 263) (by decide +kernel), List.mem_of_getElem? (i := 264) (by decide +kernel)⟩
theorem lw_p1 : lw_okq (⟨"SoundPaid", "takeText", "(I)V"⟩, 10) := ⟨⟨by decide +kernel, by decide +kernel⟩, List.mem_of_getElem? (i := 20) (by decide +kernel), List.mem_of_getElem? (i := 275) (by decide +kernel), List.mem_of_getElem? (i := 276) (by decide +kernel)⟩
theorem lw_p2 : lw_okq (⟨"SoundPaid$Text", "goesOn", "(I)Z"⟩, 4) := ⟨⟨by decide +kernel, by decide +kernel⟩, List.mem_of_getElem? (i := 28) (by decide +kernel), List.mem_of_getElem? (i := 291) (by decide +kernel), List.mem_of_getElem? (i := 292) (by decide +kernel)⟩
theorem lw_p3 : lw_okq (⟨"SoundPaid$Street", "stopped", "(III)I"⟩, 8) := ⟨⟨by decide +kernel, by decide +kernel⟩, List.mem_of_getElem? (i := 58) (by decide +kernel), List.mem_of_getElem? (i := 413) (by decide +kernel), List.mem_of_getElem? (i := 414) (by decide +kernel)⟩
theorem lw_p4 : lw_okq (⟨"SoundPaid", "isHouse", "(I)Z"⟩, 10) := ⟨⟨by decide +kernel, by decide +kernel⟩, List.mem_of_getElem? (i := 20) (by decide +kernel), List.mem_of_getElem? (i := 434) (by decide +kernel), List.mem_of_getElem? (i := 435) (by decide +kernel)⟩
theorem lw_p5 : lw_okq (⟨"SoundPaid", "isSheet", "(I)Z"⟩, 10) := ⟨⟨by decide +kernel, by decide +kernel⟩, List.mem_of_getElem? (i := 20) (by decide +kernel), List.mem_of_getElem? (i := 490) (by decide +kernel), List.mem_of_getElem? (i := 491) (by decide +kernel)⟩
theorem lw_p6 : lw_okq (⟨"SoundPaid", "found", "(I)I"⟩, 10) := ⟨⟨by decide +kernel, by decide +kernel⟩, List.mem_of_getElem? (i := 20) (by decide +kernel), List.mem_of_getElem? (i := 498) (by decide +kernel), List.mem_of_getElem? (i := 499) (by decide +kernel)⟩
theorem lw_p7 : lw_okq (⟨"SoundPaid", "areTwoHouses", "(II)Z"⟩, 10) := ⟨⟨by decide +kernel, by decide +kernel⟩, List.mem_of_getElem? (i := 20) (by decide +kernel), List.mem_of_getElem? (i := 507) (by decide +kernel), List.mem_of_getElem? (i := 508) (by decide +kernel)⟩
theorem lw_p8 : lw_okq (⟨"SoundPaid$Docket", "leads", "(II)Z"⟩, 8) := ⟨⟨by decide +kernel, by decide +kernel⟩, List.mem_of_getElem? (i := 100) (by decide +kernel), List.mem_of_getElem? (i := 532) (by decide +kernel), List.mem_of_getElem? (i := 533) (by decide +kernel)⟩
theorem lw_p9 : lw_okq (⟨"SoundPaid$Debts", "oweRound", "(III)Z"⟩, 7) := ⟨⟨by decide +kernel, by decide +kernel⟩, List.mem_of_getElem? (i := 52) (by decide +kernel), List.mem_of_getElem? (i := 603) (by decide +kernel), List.mem_of_getElem? (i := 604) (by decide +kernel)⟩
theorem lw_p10 : lw_okq (⟨"SoundPaid", "fewestDropped", "(I)I"⟩, 10) := ⟨⟨by decide +kernel, by decide +kernel⟩, List.mem_of_getElem? (i := 20) (by decide +kernel), List.mem_of_getElem? (i := 620) (by decide +kernel), List.mem_of_getElem? (i := 621) (by decide +kernel)⟩
theorem lw_p11 : lw_okq (⟨"SoundPaid$Debts", "passDay", "(II)V"⟩, 7) := ⟨⟨by decide +kernel, by decide +kernel⟩, List.mem_of_getElem? (i := 52) (by decide +kernel), List.mem_of_getElem? (i := 630) (by decide +kernel), List.mem_of_getElem? (i := 631) (by decide +kernel)⟩
theorem lw_p12 : lw_okq (⟨"SoundPaid", "mostAlike", "(III)I"⟩, 10) := ⟨⟨by decide +kernel, by decide +kernel⟩, List.mem_of_getElem? (i := 20) (by decide +kernel), List.mem_of_getElem? (i := 673) (by decide +kernel), List.mem_of_getElem? (i := 674) (by decide +kernel)⟩
theorem lw_p13 : lw_okq (⟨"SoundPaid$Bench", "take", "(LSoundPaid$Debts;III)V"⟩, 3) := ⟨⟨by decide +kernel, by decide +kernel⟩, List.mem_of_getElem? (i := 189) (by decide +kernel), List.mem_of_getElem? (i := 687) (by decide +kernel), List.mem_of_getElem? (i := 688) (by decide +kernel)⟩
theorem lw_p14 : lw_okq (⟨"SoundPaidModel", "faultOf", "(I)I"⟩, 35) := ⟨⟨by decide +kernel, by decide +kernel⟩, List.mem_of_getElem? (i := 802) (by decide +kernel), List.mem_of_getElem? (i := 937) (by decide +kernel), List.mem_of_getElem? (i := 938) (by decide +kernel)⟩
theorem lw_p15 : lw_okq (⟨"SoundPaidModel", "readsHouses", "()I"⟩, 35) := ⟨⟨by decide +kernel, by decide +kernel⟩, List.mem_of_getElem? (i := 802) (by decide +kernel), List.mem_of_getElem? (i := 941) (by decide +kernel), List.mem_of_getElem? (i := 942) (by decide +kernel)⟩
def lw_privs_1 : List (MethodName × Nat) := [(⟨"SoundPaid", "textOf", "(I)LSoundPaid$Text;"⟩, 10), (⟨"SoundPaid", "takeText", "(I)V"⟩, 10), (⟨"SoundPaid$Text", "goesOn", "(I)Z"⟩, 4), (⟨"SoundPaid$Street", "stopped", "(III)I"⟩, 8), (⟨"SoundPaid", "isHouse", "(I)Z"⟩, 10), (⟨"SoundPaid", "isSheet", "(I)Z"⟩, 10), (⟨"SoundPaid", "found", "(I)I"⟩, 10), (⟨"SoundPaid", "areTwoHouses", "(II)Z"⟩, 10), (⟨"SoundPaid$Docket", "leads", "(II)Z"⟩, 8), (⟨"SoundPaid$Debts", "oweRound", "(III)Z"⟩, 7), (⟨"SoundPaid", "fewestDropped", "(I)I"⟩, 10), (⟨"SoundPaid$Debts", "passDay", "(II)V"⟩, 7), (⟨"SoundPaid", "mostAlike", "(III)I"⟩, 10), (⟨"SoundPaid$Bench", "take", "(LSoundPaid$Debts;III)V"⟩, 3), (⟨"SoundPaidModel", "faultOf", "(I)I"⟩, 35), (⟨"SoundPaidModel", "readsHouses", "()I"⟩, 35)]
theorem lw_r1 : ∀ q ∈ lw_privs_1, lw_okq q := List.forall_mem_cons.mpr ⟨lw_p0, List.forall_mem_cons.mpr ⟨lw_p1, List.forall_mem_cons.mpr ⟨lw_p2, List.forall_mem_cons.mpr ⟨lw_p3, List.forall_mem_cons.mpr ⟨lw_p4, List.forall_mem_cons.mpr ⟨lw_p5, List.forall_mem_cons.mpr ⟨lw_p6, List.forall_mem_cons.mpr ⟨lw_p7, List.forall_mem_cons.mpr ⟨lw_p8, List.forall_mem_cons.mpr ⟨lw_p9, List.forall_mem_cons.mpr ⟨lw_p10, List.forall_mem_cons.mpr ⟨lw_p11, List.forall_mem_cons.mpr ⟨lw_p12, List.forall_mem_cons.mpr ⟨lw_p13, List.forall_mem_cons.mpr ⟨lw_p14, List.forall_mem_cons.mpr ⟨lw_p15, fun _ h => absurd h List.not_mem_nil⟩⟩⟩⟩⟩⟩⟩⟩⟩⟩⟩⟩⟩⟩⟩⟩
theorem lw_p16 : lw_okq (⟨"SoundPaidModel", "readsHouse", "(II)I"⟩, 35) := ⟨⟨by decide +kernel, by decide +kernel⟩, List.mem_of_getElem? (i := 802) (by decide +kernel), List.mem_of_getElem? (i := 945) (by decide +kernel), List.mem_of_getElem? (i := 946) (by decide +kernel)⟩
theorem lw_p17 : lw_okq (⟨"SoundPaidModel", "byteAt", "(II)I"⟩, 35) := ⟨⟨by decide +kernel, by decide +kernel⟩, List.mem_of_getElem? (i := 802) (by decide +kernel), List.mem_of_getElem? (i := 949) (by decide +kernel), List.mem_of_getElem? (i := 950) (by decide +kernel)⟩
theorem lw_p18 : lw_okq (⟨"SoundPaidModel", "figureAt", "(II)I"⟩, 35) := ⟨⟨by decide +kernel, by decide +kernel⟩, List.mem_of_getElem? (i := 802) (by decide +kernel), List.mem_of_getElem? (i := 956) (by decide +kernel), List.mem_of_getElem? (i := 957) (by decide +kernel)⟩
theorem lw_p19 : lw_okq (⟨"SoundPaidModel", "readsRulings", "()I"⟩, 35) := ⟨⟨by decide +kernel, by decide +kernel⟩, List.mem_of_getElem? (i := 802) (by decide +kernel), List.mem_of_getElem? (i := 960) (by decide +kernel), List.mem_of_getElem? (i := 961) (by decide +kernel)⟩
theorem lw_p20 : lw_okq (⟨"SoundPaidModel", "noRates", "()V"⟩, 35) := ⟨⟨by decide +kernel, by decide +kernel⟩, List.mem_of_getElem? (i := 802) (by decide +kernel), List.mem_of_getElem? (i := 964) (by decide +kernel), List.mem_of_getElem? (i := 965) (by decide +kernel)⟩
theorem lw_p21 : lw_okq (⟨"SoundPaidModel", "isHouse", "(I)Z"⟩, 35) := ⟨⟨by decide +kernel, by decide +kernel⟩, List.mem_of_getElem? (i := 802) (by decide +kernel), List.mem_of_getElem? (i := 972) (by decide +kernel), List.mem_of_getElem? (i := 973) (by decide +kernel)⟩
theorem lw_p22 : lw_okq (⟨"SoundPaidModel", "reads", "()V"⟩, 35) := ⟨⟨by decide +kernel, by decide +kernel⟩, List.mem_of_getElem? (i := 802) (by decide +kernel), List.mem_of_getElem? (i := 976) (by decide +kernel), List.mem_of_getElem? (i := 977) (by decide +kernel)⟩
theorem lw_p23 : lw_okq (⟨"SoundPaidModel", "houseOf", "(II)I"⟩, 35) := ⟨⟨by decide +kernel, by decide +kernel⟩, List.mem_of_getElem? (i := 802) (by decide +kernel), List.mem_of_getElem? (i := 980) (by decide +kernel), List.mem_of_getElem? (i := 981) (by decide +kernel)⟩
theorem lw_p24 : lw_okq (⟨"SoundPaidModel", "rateOf", "(I)I"⟩, 35) := ⟨⟨by decide +kernel, by decide +kernel⟩, List.mem_of_getElem? (i := 802) (by decide +kernel), List.mem_of_getElem? (i := 988) (by decide +kernel), List.mem_of_getElem? (i := 989) (by decide +kernel)⟩
theorem lw_p25 : lw_okq (⟨"SoundPaidModel", "meets", "(I)I"⟩, 35) := ⟨⟨by decide +kernel, by decide +kernel⟩, List.mem_of_getElem? (i := 802) (by decide +kernel), List.mem_of_getElem? (i := 1021) (by decide +kernel), List.mem_of_getElem? (i := 1022) (by decide +kernel)⟩
theorem lw_p26 : lw_okq (⟨"SoundPaidModel", "throughOf", "(II)I"⟩, 35) := ⟨⟨by decide +kernel, by decide +kernel⟩, List.mem_of_getElem? (i := 802) (by decide +kernel), List.mem_of_getElem? (i := 1030) (by decide +kernel), List.mem_of_getElem? (i := 1031) (by decide +kernel)⟩
theorem lw_p27 : lw_okq (⟨"SoundPaidModel", "owesOf", "(III)I"⟩, 35) := ⟨⟨by decide +kernel, by decide +kernel⟩, List.mem_of_getElem? (i := 802) (by decide +kernel), List.mem_of_getElem? (i := 1038) (by decide +kernel), List.mem_of_getElem? (i := 1039) (by decide +kernel)⟩
theorem lw_p28 : lw_okq (⟨"SoundPaidModel", "laysTold", "()V"⟩, 35) := ⟨⟨by decide +kernel, by decide +kernel⟩, List.mem_of_getElem? (i := 802) (by decide +kernel), List.mem_of_getElem? (i := 1042) (by decide +kernel), List.mem_of_getElem? (i := 1043) (by decide +kernel)⟩
theorem lw_p29 : lw_okq (⟨"SoundPaidModel", "asTold", "()V"⟩, 35) := ⟨⟨by decide +kernel, by decide +kernel⟩, List.mem_of_getElem? (i := 802) (by decide +kernel), List.mem_of_getElem? (i := 1046) (by decide +kernel), List.mem_of_getElem? (i := 1047) (by decide +kernel)⟩
theorem lw_p30 : lw_okq (⟨"SoundPaidModel", "lays", "()V"⟩, 35) := ⟨⟨by decide +kernel, by decide +kernel⟩, List.mem_of_getElem? (i := 802) (by decide +kernel), List.mem_of_getElem? (i := 1050) (by decide +kernel), List.mem_of_getElem? (i := 1051) (by decide +kernel)⟩
theorem lw_p31 : lw_okq (⟨"SoundPaidModel", "owesNow", "(III)I"⟩, 35) := ⟨⟨by decide +kernel, by decide +kernel⟩, List.mem_of_getElem? (i := 802) (by decide +kernel), List.mem_of_getElem? (i := 1057) (by decide +kernel), List.mem_of_getElem? (i := 1058) (by decide +kernel)⟩
def lw_privs_2 : List (MethodName × Nat) := [(⟨"SoundPaidModel", "readsHouse", "(II)I"⟩, 35), (⟨"SoundPaidModel", "byteAt", "(II)I"⟩, 35), (⟨"SoundPaidModel", "figureAt", "(II)I"⟩, 35), (⟨"SoundPaidModel", "readsRulings", "()I"⟩, 35), (⟨"SoundPaidModel", "noRates", "()V"⟩, 35), (⟨"SoundPaidModel", "isHouse", "(I)Z"⟩, 35), (⟨"SoundPaidModel", "reads", "()V"⟩, 35), (⟨"SoundPaidModel", "houseOf", "(II)I"⟩, 35), (⟨"SoundPaidModel", "rateOf", "(I)I"⟩, 35), (⟨"SoundPaidModel", "meets", "(I)I"⟩, 35), (⟨"SoundPaidModel", "throughOf", "(II)I"⟩, 35), (⟨"SoundPaidModel", "owesOf", "(III)I"⟩, 35), (⟨"SoundPaidModel", "laysTold", "()V"⟩, 35), (⟨"SoundPaidModel", "asTold", "()V"⟩, 35), (⟨"SoundPaidModel", "lays", "()V"⟩, 35), (⟨"SoundPaidModel", "owesNow", "(III)I"⟩, 35)]
theorem lw_r2 : ∀ q ∈ lw_privs_2, lw_okq q := List.forall_mem_cons.mpr ⟨lw_p16, List.forall_mem_cons.mpr ⟨lw_p17, List.forall_mem_cons.mpr ⟨lw_p18, List.forall_mem_cons.mpr ⟨lw_p19, List.forall_mem_cons.mpr ⟨lw_p20, List.forall_mem_cons.mpr ⟨lw_p21, List.forall_mem_cons.mpr ⟨lw_p22, List.forall_mem_cons.mpr ⟨lw_p23, List.forall_mem_cons.mpr ⟨lw_p24, List.forall_mem_cons.mpr ⟨lw_p25, List.forall_mem_cons.mpr ⟨lw_p26, List.forall_mem_cons.mpr ⟨lw_p27, List.forall_mem_cons.mpr ⟨lw_p28, List.forall_mem_cons.mpr ⟨lw_p29, List.forall_mem_cons.mpr ⟨lw_p30, List.forall_mem_cons.mpr ⟨lw_p31, fun _ h => absurd h List.not_mem_nil⟩⟩⟩⟩⟩⟩⟩⟩⟩⟩⟩⟩⟩⟩⟩⟩
theorem lw_p32 : lw_okq (⟨"SoundPaidModel", "balanceOf", "(II)I"⟩, 35) := ⟨⟨by decide +kernel, by decide +kernel⟩, List.mem_of_getElem? (i := 802) (by decide +kernel), List.mem_of_getElem? (i := 1065) (by decide +kernel), List.mem_of_getElem? (i := 1066) (by decide +kernel)⟩
theorem lw_p33 : lw_okq (⟨"SoundPaidModel", "balanceNow", "(II)I"⟩, 35) := ⟨⟨by decide +kernel, by decide +kernel⟩, List.mem_of_getElem? (i := 802) (by decide +kernel), List.mem_of_getElem? (i := 1069) (by decide +kernel), List.mem_of_getElem? (i := 1070) (by decide +kernel)⟩
theorem lw_p34 : lw_okq (⟨"SoundPaidModel", "coinOf", "(I)I"⟩, 35) := ⟨⟨by decide +kernel, by decide +kernel⟩, List.mem_of_getElem? (i := 802) (by decide +kernel), List.mem_of_getElem? (i := 1078) (by decide +kernel), List.mem_of_getElem? (i := 1079) (by decide +kernel)⟩
theorem lw_p35 : lw_okq (⟨"SoundPaidModel", "coinNow", "(I)I"⟩, 35) := ⟨⟨by decide +kernel, by decide +kernel⟩, List.mem_of_getElem? (i := 802) (by decide +kernel), List.mem_of_getElem? (i := 1082) (by decide +kernel), List.mem_of_getElem? (i := 1083) (by decide +kernel)⟩
theorem lw_p36 : lw_okq (⟨"SoundPaidModel", "purses", "(I)V"⟩, 35) := ⟨⟨by decide +kernel, by decide +kernel⟩, List.mem_of_getElem? (i := 802) (by decide +kernel), List.mem_of_getElem? (i := 1086) (by decide +kernel), List.mem_of_getElem? (i := 1087) (by decide +kernel)⟩
theorem lw_p37 : lw_okq (⟨"SoundPaidModel", "brokeOf", "(I)I"⟩, 35) := ⟨⟨by decide +kernel, by decide +kernel⟩, List.mem_of_getElem? (i := 802) (by decide +kernel), List.mem_of_getElem? (i := 1094) (by decide +kernel), List.mem_of_getElem? (i := 1095) (by decide +kernel)⟩
theorem lw_p38 : lw_okq (⟨"SoundPaidModel", "noPurses", "()V"⟩, 35) := ⟨⟨by decide +kernel, by decide +kernel⟩, List.mem_of_getElem? (i := 802) (by decide +kernel), List.mem_of_getElem? (i := 1098) (by decide +kernel), List.mem_of_getElem? (i := 1099) (by decide +kernel)⟩
theorem lw_p39 : lw_okq (⟨"SoundPaidModel", "goesBy", "(I)V"⟩, 35) := ⟨⟨by decide +kernel, by decide +kernel⟩, List.mem_of_getElem? (i := 802) (by decide +kernel), List.mem_of_getElem? (i := 1102) (by decide +kernel), List.mem_of_getElem? (i := 1103) (by decide +kernel)⟩
theorem lw_p40 : lw_okq (⟨"SoundPaidModel", "richestOf", "(I)I"⟩, 35) := ⟨⟨by decide +kernel, by decide +kernel⟩, List.mem_of_getElem? (i := 802) (by decide +kernel), List.mem_of_getElem? (i := 1110) (by decide +kernel), List.mem_of_getElem? (i := 1111) (by decide +kernel)⟩
theorem lw_p41 : lw_okq (⟨"SoundPaidModel", "paymentsOf", "(I)I"⟩, 35) := ⟨⟨by decide +kernel, by decide +kernel⟩, List.mem_of_getElem? (i := 802) (by decide +kernel), List.mem_of_getElem? (i := 1118) (by decide +kernel), List.mem_of_getElem? (i := 1119) (by decide +kernel)⟩
theorem lw_p42 : lw_okq (⟨"SoundPaidModel", "ringsOf", "(II)I"⟩, 35) := ⟨⟨by decide +kernel, by decide +kernel⟩, List.mem_of_getElem? (i := 802) (by decide +kernel), List.mem_of_getElem? (i := 1126) (by decide +kernel), List.mem_of_getElem? (i := 1127) (by decide +kernel)⟩
theorem lw_p43 : lw_okq (⟨"SoundPaidModel", "isOwed", "(III)Z"⟩, 35) := ⟨⟨by decide +kernel, by decide +kernel⟩, List.mem_of_getElem? (i := 802) (by decide +kernel), List.mem_of_getElem? (i := 1130) (by decide +kernel), List.mem_of_getElem? (i := 1131) (by decide +kernel)⟩
theorem lw_p44 : lw_okq (⟨"SoundPaidModel", "buildOf", "(III)I"⟩, 35) := ⟨⟨by decide +kernel, by decide +kernel⟩, List.mem_of_getElem? (i := 802) (by decide +kernel), List.mem_of_getElem? (i := 1138) (by decide +kernel), List.mem_of_getElem? (i := 1139) (by decide +kernel)⟩
theorem lw_p45 : lw_okq (⟨"SoundPaidModel", "fairOf", "(III)I"⟩, 35) := ⟨⟨by decide +kernel, by decide +kernel⟩, List.mem_of_getElem? (i := 802) (by decide +kernel), List.mem_of_getElem? (i := 1147) (by decide +kernel), List.mem_of_getElem? (i := 1148) (by decide +kernel)⟩
theorem lw_p46 : lw_okq (⟨"SoundPaidModel", "dropBy", "(I)I"⟩, 35) := ⟨⟨by decide +kernel, by decide +kernel⟩, List.mem_of_getElem? (i := 802) (by decide +kernel), List.mem_of_getElem? (i := 1155) (by decide +kernel), List.mem_of_getElem? (i := 1156) (by decide +kernel)⟩
theorem lw_p47 : lw_okq (⟨"SoundPaidModel", "isWell", "(II)Z"⟩, 35) := ⟨⟨by decide +kernel, by decide +kernel⟩, List.mem_of_getElem? (i := 802) (by decide +kernel), List.mem_of_getElem? (i := 1159) (by decide +kernel), List.mem_of_getElem? (i := 1160) (by decide +kernel)⟩
def lw_privs_3 : List (MethodName × Nat) := [(⟨"SoundPaidModel", "balanceOf", "(II)I"⟩, 35), (⟨"SoundPaidModel", "balanceNow", "(II)I"⟩, 35), (⟨"SoundPaidModel", "coinOf", "(I)I"⟩, 35), (⟨"SoundPaidModel", "coinNow", "(I)I"⟩, 35), (⟨"SoundPaidModel", "purses", "(I)V"⟩, 35), (⟨"SoundPaidModel", "brokeOf", "(I)I"⟩, 35), (⟨"SoundPaidModel", "noPurses", "()V"⟩, 35), (⟨"SoundPaidModel", "goesBy", "(I)V"⟩, 35), (⟨"SoundPaidModel", "richestOf", "(I)I"⟩, 35), (⟨"SoundPaidModel", "paymentsOf", "(I)I"⟩, 35), (⟨"SoundPaidModel", "ringsOf", "(II)I"⟩, 35), (⟨"SoundPaidModel", "isOwed", "(III)Z"⟩, 35), (⟨"SoundPaidModel", "buildOf", "(III)I"⟩, 35), (⟨"SoundPaidModel", "fairOf", "(III)I"⟩, 35), (⟨"SoundPaidModel", "dropBy", "(I)I"⟩, 35), (⟨"SoundPaidModel", "isWell", "(II)Z"⟩, 35)]
theorem lw_r3 : ∀ q ∈ lw_privs_3, lw_okq q := List.forall_mem_cons.mpr ⟨lw_p32, List.forall_mem_cons.mpr ⟨lw_p33, List.forall_mem_cons.mpr ⟨lw_p34, List.forall_mem_cons.mpr ⟨lw_p35, List.forall_mem_cons.mpr ⟨lw_p36, List.forall_mem_cons.mpr ⟨lw_p37, List.forall_mem_cons.mpr ⟨lw_p38, List.forall_mem_cons.mpr ⟨lw_p39, List.forall_mem_cons.mpr ⟨lw_p40, List.forall_mem_cons.mpr ⟨lw_p41, List.forall_mem_cons.mpr ⟨lw_p42, List.forall_mem_cons.mpr ⟨lw_p43, List.forall_mem_cons.mpr ⟨lw_p44, List.forall_mem_cons.mpr ⟨lw_p45, List.forall_mem_cons.mpr ⟨lw_p46, List.forall_mem_cons.mpr ⟨lw_p47, fun _ h => absurd h List.not_mem_nil⟩⟩⟩⟩⟩⟩⟩⟩⟩⟩⟩⟩⟩⟩⟩⟩
theorem lw_p48 : lw_okq (⟨"SoundPaidModel", "ofRow", "(II)I"⟩, 35) := ⟨⟨by decide +kernel, by decide +kernel⟩, List.mem_of_getElem? (i := 802) (by decide +kernel), List.mem_of_getElem? (i := 1163) (by decide +kernel), List.mem_of_getElem? (i := 1164) (by decide +kernel)⟩
theorem lw_p49 : lw_okq (⟨"SoundPaidModel", "neverNow", "()I"⟩, 35) := ⟨⟨by decide +kernel, by decide +kernel⟩, List.mem_of_getElem? (i := 802) (by decide +kernel), List.mem_of_getElem? (i := 1179) (by decide +kernel), List.mem_of_getElem? (i := 1180) (by decide +kernel)⟩
theorem lw_p50 : lw_okq (⟨"SoundPaidModel", "isSeen", "()Z"⟩, 35) := ⟨⟨by decide +kernel, by decide +kernel⟩, List.mem_of_getElem? (i := 802) (by decide +kernel), List.mem_of_getElem? (i := 1183) (by decide +kernel), List.mem_of_getElem? (i := 1184) (by decide +kernel)⟩
theorem lw_p51 : lw_okq (⟨"SoundPaidModel", "leakedOf", "(I)I"⟩, 35) := ⟨⟨by decide +kernel, by decide +kernel⟩, List.mem_of_getElem? (i := 802) (by decide +kernel), List.mem_of_getElem? (i := 1191) (by decide +kernel), List.mem_of_getElem? (i := 1192) (by decide +kernel)⟩
theorem lw_p52 : lw_okq (⟨"SoundPaidModel", "askOf", "(I)I"⟩, 35) := ⟨⟨by decide +kernel, by decide +kernel⟩, List.mem_of_getElem? (i := 802) (by decide +kernel), List.mem_of_getElem? (i := 1199) (by decide +kernel), List.mem_of_getElem? (i := 1200) (by decide +kernel)⟩
theorem lw_p53 : lw_okq (⟨"SoundPaidModel", "courtOf", "(IIII)J"⟩, 35) := ⟨⟨by decide +kernel, by decide +kernel⟩, List.mem_of_getElem? (i := 802) (by decide +kernel), List.mem_of_getElem? (i := 1207) (by decide +kernel), List.mem_of_getElem? (i := 1208) (by decide +kernel)⟩
theorem lw_p54 : lw_okq (⟨"SoundPaidModel", "monthOf", "(III)I"⟩, 35) := ⟨⟨by decide +kernel, by decide +kernel⟩, List.mem_of_getElem? (i := 802) (by decide +kernel), List.mem_of_getElem? (i := 1222) (by decide +kernel), List.mem_of_getElem? (i := 1223) (by decide +kernel)⟩
theorem lw_p55 : lw_okq (⟨"SoundPaidModel", "lacks", "(III)I"⟩, 35) := ⟨⟨by decide +kernel, by decide +kernel⟩, List.mem_of_getElem? (i := 802) (by decide +kernel), List.mem_of_getElem? (i := 1239) (by decide +kernel), List.mem_of_getElem? (i := 1240) (by decide +kernel)⟩
theorem lw_p56 : lw_okq (⟨"SoundPaidModel", "keep", "(III)V"⟩, 35) := ⟨⟨by decide +kernel, by decide +kernel⟩, List.mem_of_getElem? (i := 802) (by decide +kernel), List.mem_of_getElem? (i := 1243) (by decide +kernel), List.mem_of_getElem? (i := 1244) (by decide +kernel)⟩
theorem lw_p57 : lw_okq (⟨"SoundPaidModel", "partsMany", "(I)I"⟩, 35) := ⟨⟨by decide +kernel, by decide +kernel⟩, List.mem_of_getElem? (i := 802) (by decide +kernel), List.mem_of_getElem? (i := 1264) (by decide +kernel), List.mem_of_getElem? (i := 1265) (by decide +kernel)⟩
theorem lw_p58 : lw_okq (⟨"SoundPaidModel", "allThick", "()I"⟩, 35) := ⟨⟨by decide +kernel, by decide +kernel⟩, List.mem_of_getElem? (i := 802) (by decide +kernel), List.mem_of_getElem? (i := 1268) (by decide +kernel), List.mem_of_getElem? (i := 1269) (by decide +kernel)⟩
theorem lw_p59 : lw_okq (⟨"SoundPaidModel", "houseDigest", "(JI)J"⟩, 35) := ⟨⟨by decide +kernel, by decide +kernel⟩, List.mem_of_getElem? (i := 802) (by decide +kernel), List.mem_of_getElem? (i := 1279) (by decide +kernel), List.mem_of_getElem? (i := 1280) (by decide +kernel)⟩
theorem lw_p60 : lw_okq (⟨"SoundPaidModel", "dayDigest", "(JI)J"⟩, 35) := ⟨⟨by decide +kernel, by decide +kernel⟩, List.mem_of_getElem? (i := 802) (by decide +kernel), List.mem_of_getElem? (i := 1285) (by decide +kernel), List.mem_of_getElem? (i := 1286) (by decide +kernel)⟩
def lw_privs_4 : List (MethodName × Nat) := [(⟨"SoundPaidModel", "ofRow", "(II)I"⟩, 35), (⟨"SoundPaidModel", "neverNow", "()I"⟩, 35), (⟨"SoundPaidModel", "isSeen", "()Z"⟩, 35), (⟨"SoundPaidModel", "leakedOf", "(I)I"⟩, 35), (⟨"SoundPaidModel", "askOf", "(I)I"⟩, 35), (⟨"SoundPaidModel", "courtOf", "(IIII)J"⟩, 35), (⟨"SoundPaidModel", "monthOf", "(III)I"⟩, 35), (⟨"SoundPaidModel", "lacks", "(III)I"⟩, 35), (⟨"SoundPaidModel", "keep", "(III)V"⟩, 35), (⟨"SoundPaidModel", "partsMany", "(I)I"⟩, 35), (⟨"SoundPaidModel", "allThick", "()I"⟩, 35), (⟨"SoundPaidModel", "houseDigest", "(JI)J"⟩, 35), (⟨"SoundPaidModel", "dayDigest", "(JI)J"⟩, 35)]
theorem lw_r4 : ∀ q ∈ lw_privs_4, lw_okq q := List.forall_mem_cons.mpr ⟨lw_p48, List.forall_mem_cons.mpr ⟨lw_p49, List.forall_mem_cons.mpr ⟨lw_p50, List.forall_mem_cons.mpr ⟨lw_p51, List.forall_mem_cons.mpr ⟨lw_p52, List.forall_mem_cons.mpr ⟨lw_p53, List.forall_mem_cons.mpr ⟨lw_p54, List.forall_mem_cons.mpr ⟨lw_p55, List.forall_mem_cons.mpr ⟨lw_p56, List.forall_mem_cons.mpr ⟨lw_p57, List.forall_mem_cons.mpr ⟨lw_p58, List.forall_mem_cons.mpr ⟨lw_p59, List.forall_mem_cons.mpr ⟨lw_p60, fun _ h => absurd h List.not_mem_nil⟩⟩⟩⟩⟩⟩⟩⟩⟩⟩⟩⟩⟩
def lw_privs : List (MethodName × Nat) := lw_privs_1 ++ (lw_privs_2 ++ (lw_privs_3 ++ (lw_privs_4)))
def lw_tbl : List Cond := k2_sels lw_privs ++ tables_1
theorem lw_privs_ok : ∀ q ∈ lw_privs, lw_okq q := by
  show ∀ q ∈ lw_privs_1 ++ (lw_privs_2 ++ (lw_privs_3 ++ (lw_privs_4))), lw_okq q
  exact List.forall_mem_append.mpr ⟨lw_r1, List.forall_mem_append.mpr ⟨lw_r2, List.forall_mem_append.mpr ⟨lw_r3, lw_r4⟩⟩⟩

def tbl : List Cond := lw_tbl.filter goodWord
theorem tbl_in {w : Cond} (i : Nat) (h : lw_tbl[i]? = some w) (g : goodWord w = true) : w ∈ tbl := List.mem_filter.mpr ⟨List.mem_of_getElem? h, g⟩
theorem tbl_good : ∀ w ∈ tbl, (w.onTables && w.keeps) = true ∨ ∃ ty, w = .arrayClass ty := fun _ h => good_of_word (List.mem_filter.mp h).2
theorem tbl_lw : ∀ w ∈ tbl, w ∈ lw_tbl := fun _ h => (List.mem_filter.mp h).1
end
section
/-! The worlds as pure pictures: a picture is a row of ints for each cell; V says 'from this frame, over this picture, it goes well'. -/
abbrev Hp : Type := Nat → Nat → Int32
def st (σ : Hp) (o i : Nat) (v : Int32) : Hp := fun q => if q = o then upd (σ o) i v else σ q
theorem st_at (σ : Hp) (o i : Nat) (v : Int32) : st σ o i v o = upd (σ o) i v := if_pos rfl
theorem st_ne (σ : Hp) {o q : Nat} (i : Nat) (v : Int32) (h : q ≠ o) : st σ o i v q = σ q := if_neg h
/-- a cell's shape: an object (class, fields: an int, or a fixed cell), or an array (kind: 0 ints, 1 booleans, k + 2 objects from k on; length) -/
abbrev Shp : Type := (Nat × List (Nat ⊕ Nat)) ⊕ (Nat × Nat)
/-- addresses, classes of int, boolean and object arrays, the classes' numbers -/
abbrev Wd : Type := (Nat → Nat) × ClassId × ClassId × ClassId × va_G
def fcel (w : Wd) (f : Nat → Int32) : Nat ⊕ Nat → Value
  | .inl j => .int (f j)
  | .inr q => .ref (w.1 q)
def cel (w : Wd) (f : Nat → Int32) : Shp → va_E
  | .inl (ci, fs) => .inr (ci, fs.map (fcel w f))
  | .inr (0, n) => .inl (w.2.1, n, .inl f)
  | .inr (1, n) => .inl (w.2.2.1, n, .inl f)
  | .inr (k + 2, n) => .inl (w.2.2.2.1, n, .inr (.inr (.inr (.inr (fun i => some (w.1 (k + i)))))))
def cels (sh : List Shp) (w : Wd) (σ : Hp) : va_W := sh.mapIdx (fun o x => (w.1 o, cel w (σ o) x))
abbrev Wk : Type := List Shp × (Wd → (Nat → Prop) → State → Heap → Prop)
def AW (μ : Wk) (w : Wd) : Nat → Prop := fun q => ∃ o, o < μ.1.length ∧ q = w.1 o
def tysW (w : Wd) : List (ClassId × FieldType) := [(w.2.1, .int), (w.2.2.1, .boolean), (w.2.2.2.1, .object "SoundPaid$Sheet")]
def Inj (μ : Wk) (w : Wd) : Prop := ∀ i j, i < μ.1.length → j < μ.1.length → w.1 i = w.1 j → i = j
theorem cels_get {sh : List Shp} {w : Wd} {σ : Hp} {o : Nat} {x : Shp} (h : sh[o]? = some x) : (cels sh w σ)[o]? = some (w.1 o, cel w (σ o) x) := by
  simp [cels, List.getElem?_mapIdx, h]
theorem cels_D {μ : Wk} {w : Wd} (σ : Hp) (hi : Inj μ w) : va_D (AW μ w) (cels μ.1 w σ) := by
  have key : ∀ (k : Nat) (q : Nat × va_E), (cels μ.1 w σ)[k]? = some q → k < μ.1.length ∧ q.1 = w.1 k := by
    intro k q h
    simp only [cels, List.getElem?_mapIdx, Option.map_eq_some_iff] at h
    obtain ⟨x, h1, h2⟩ := h
    exact ⟨(List.getElem?_eq_some_iff.mp h1).1, by rw [← h2]⟩
  refine ⟨fun i j p q hp hq e => ?_, fun k q h => ?_⟩
  · obtain ⟨a1, a2⟩ := key i p hp
    obtain ⟨b1, b2⟩ := key j q hq
    exact hi i j a1 b1 (by rw [← a2, ← b2, e])
  · obtain ⟨a1, a2⟩ := key k q h
    exact ⟨k, a1, a2⟩
theorem cels_set {sh : List Shp} {w : Wd} {σ : Hp} {o : Nat} {x : Shp} {τ : Hp} (h : sh[o]? = some x) (hne : ∀ q, q ≠ o → τ q = σ q) : (cels sh w σ).set o (w.1 o, cel w (τ o) x) = cels sh w τ := by
  apply List.ext_getElem?
  intro i
  rw [List.getElem?_set]
  by_cases hi : o = i
  · subst hi
    have hl : o < (cels sh w σ).length := by simp [cels]; exact (List.getElem?_eq_some_iff.mp h).1
    rw [if_pos rfl, if_pos hl, cels_get h]
  · rw [if_neg hi]
    simp only [cels, List.getElem?_mapIdx]
    rw [hne i (fun e => hi e.symm)]
-- locals by their places
def asl : Nat → List (Option Value) → List (Nat × Value)
  | _, [] => []
  | i, some v :: r => (i, v) :: asl (i + 1) r
  | i, none :: r => asl (i + 1) r
def lhas (ls : Array Slot) (nL : Nat) (lo : List (Option Value)) : Prop := lv_has ls nL (asl 0 lo)
theorem asl_mem : ∀ (lo : List (Option Value)) (b : Nat) (q : Nat × Value), q ∈ asl b lo ↔ b ≤ q.1 ∧ lo[q.1 - b]? = some (some q.2) := by
  intro lo
  induction lo with
  | nil => intro b q; simp [asl]
  | cons a r ih =>
    intro b q
    have tail : ((b + 1 ≤ q.1 ∧ r[q.1 - (b + 1)]? = some (some q.2)) ↔ (b ≤ q.1 ∧ q.1 ≠ b ∧ (a :: r)[q.1 - b]? = some (some q.2))) := by
      constructor
      · rintro ⟨h1, h2⟩
        refine ⟨by omega, by omega, ?_⟩
        rw [show q.1 - b = (q.1 - (b + 1)) + 1 by omega, List.getElem?_cons_succ]; exact h2
      · rintro ⟨h1, h2, h3⟩
        refine ⟨by omega, ?_⟩
        rw [show q.1 - b = (q.1 - (b + 1)) + 1 by omega, List.getElem?_cons_succ] at h3; exact h3
    cases a with
    | none =>
      simp only [asl]
      rw [ih (b + 1) q, tail]
      constructor
      · rintro ⟨h1, -, h3⟩; exact ⟨h1, h3⟩
      · rintro ⟨h1, h3⟩
        refine ⟨h1, fun e => ?_, h3⟩
        rw [e] at h3; simp at h3
    | some v =>
      simp only [asl, List.mem_cons]
      rw [ih (b + 1) q, tail]
      constructor
      · rintro (h | ⟨h1, -, h3⟩)
        · rw [h]; simp
        · exact ⟨h1, h3⟩
      · rintro ⟨h1, h3⟩
        by_cases e : q.1 = b
        · left
          rw [e] at h3
          simp at h3
          exact Prod.ext e h3.symm
        · exact Or.inr ⟨h1, e, h3⟩
theorem lhas_at {ls : Array Slot} {nL : Nat} {lo : List (Option Value)} (h : lhas ls nL lo) {i : Nat} {v : Value} (hi : lo[i]? = some (some v)) : ls[i]? = some (.val v) :=
  h.2.2 (i, v) ((asl_mem lo 0 (i, v)).mpr ⟨Nat.zero_le _, by simpa using hi⟩)
theorem lhas_of {ls : Array Slot} {nL : Nat} {l : List (Nat × Value)} {lo : List (Option Value)} (h : lv_has ls nL l) (hs : ∀ i v, lo[i]? = some (some v) → (i, v) ∈ l) : lhas ls nL lo := by
  refine ⟨h.1, h.2.1, fun q hq => h.2.2 q ?_⟩
  obtain ⟨-, h2⟩ := (asl_mem lo 0 q).mp hq
  exact hs q.1 q.2 (by simpa using h2)
def msk : List Bool → List (Option Value) → List (Option Value)
  | true :: b, a :: r => a :: msk b r
  | false :: b, _ :: r => none :: msk b r
  | _, _ => []
theorem msk_get : ∀ (b : List Bool) (lo : List (Option Value)) (i : Nat) (v : Value), (msk b lo)[i]? = some (some v) → lo[i]? = some (some v) := by
  intro b
  induction b with
  | nil => intro lo i v h; simp [msk] at h
  | cons c b ih =>
    intro lo i v h
    cases lo with
    | nil => cases c <;> simp [msk] at h
    | cons a r =>
      cases c <;> cases i with
      | zero => simp [msk] at h ⊢ <;> exact h
      | succ i => simp [msk] at h ⊢; exact ih r i v h
theorem lhas_msk {ls : Array Slot} {nL : Nat} {lo : List (Option Value)} (h : lhas ls nL lo) (b : List Bool) : lhas ls nL (msk b lo) :=
  lhas_of h (fun i v hi => (asl_mem lo 0 (i, v)).mpr ⟨Nat.zero_le _, by simpa using msk_get b lo i v hi⟩)
/-- behind a store of one slot: a long that stood one place ahead is gone -/
def kil : Option Value → Option Value
  | some (.long _) => none
  | some (.double _) => none
  | a => a
theorem kil_some {a : Option Value} {v : Value} (h : kil a = some v) : a = some v ∧ v.category = 1 := by
  cases a with
  | none => cases h
  | some u => cases u <;> simp [kil] at h <;> subst h <;> exact ⟨rfl, rfl⟩
def sto1 : List (Option Value) → Nat → Value → List (Option Value)
  | [], _, _ => []
  | _ :: r, 0, v => some v :: r
  | a :: r, 1, v => kil a :: sto1 r 0 v
  | a :: r, i + 2, v => a :: sto1 r (i + 1) v
def sto2 : List (Option Value) → Nat → Value → List (Option Value)
  | _ :: _ :: r, 0, v => some v :: none :: r
  | a :: r, 1, v => kil a :: sto2 r 0 v
  | a :: r, i + 2, v => a :: sto2 r (i + 1) v
  | _, _, _ => []
theorem sto1_get : ∀ (lo : List (Option Value)) (i : Nat) (v : Value) (j : Nat) (u : Value), (sto1 lo i v)[j]? = some (some u) → (j = i ∧ u = v) ∨ (j ≠ i ∧ lo[j]? = some (some u) ∧ ¬ (j + 1 = i ∧ u.category = 2)) := by
  intro lo
  induction lo with
  | nil => intro i v j u h; simp [sto1] at h
  | cons a r ih =>
    intro i v j u h
    match i, j with
    | 0, 0 => simp [sto1] at h; exact Or.inl ⟨rfl, h.symm⟩
    | 0, j + 1 => simp [sto1] at h; exact Or.inr ⟨by omega, by simpa using h, by omega⟩
    | 1, 0 =>
      simp [sto1] at h
      obtain ⟨h1, h2⟩ := kil_some h
      exact Or.inr ⟨by omega, by simpa using h1, by omega⟩
    | 1, j + 1 =>
      simp [sto1] at h
      rcases ih 0 v j u h with ⟨h1, h2⟩ | ⟨h1, h2, h3⟩
      · exact Or.inl ⟨by omega, h2⟩
      · exact Or.inr ⟨by omega, by simpa using h2, by omega⟩
    | i + 2, 0 => simp [sto1] at h; exact Or.inr ⟨by omega, by simpa using h, by omega⟩
    | i + 2, j + 1 =>
      simp [sto1] at h
      rcases ih (i + 1) v j u h with ⟨h1, h2⟩ | ⟨h1, h2, h3⟩
      · exact Or.inl ⟨by omega, h2⟩
      · exact Or.inr ⟨by omega, by simpa using h2, fun z => h3 ⟨by omega, z.2⟩⟩
theorem sto2_get : ∀ (lo : List (Option Value)) (i : Nat) (v : Value) (j : Nat) (u : Value), (sto2 lo i v)[j]? = some (some u) → (j = i ∧ u = v) ∨ (j ≠ i ∧ j ≠ i + 1 ∧ lo[j]? = some (some u) ∧ ¬ (j + 1 = i ∧ u.category = 2)) := by
  intro lo
  induction lo with
  | nil => intro i v j u h; cases i <;> simp [sto2] at h
  | cons a r ih =>
    intro i v j u h
    match i, j with
    | 0, 0 =>
      cases r with
      | nil => simp [sto2] at h
      | cons b r => simp [sto2] at h; exact Or.inl ⟨rfl, h.symm⟩
    | 0, j + 1 =>
      cases r with
      | nil => simp [sto2] at h
      | cons b r =>
        cases j with
        | zero => simp [sto2] at h
        | succ j => simp [sto2] at h; exact Or.inr ⟨by omega, by omega, by simpa using h, by omega⟩
    | 1, 0 =>
      simp [sto2] at h
      obtain ⟨h1, h2⟩ := kil_some h
      exact Or.inr ⟨by omega, by omega, by simpa using h1, by omega⟩
    | 1, j + 1 =>
      simp [sto2] at h
      rcases ih 0 v j u h with ⟨h1, h2⟩ | ⟨h1, h1', h2, h3⟩
      · exact Or.inl ⟨by omega, h2⟩
      · exact Or.inr ⟨by omega, by omega, by simpa using h2, by omega⟩
    | i + 2, 0 => simp [sto2] at h; exact Or.inr ⟨by omega, by omega, by simpa using h, by omega⟩
    | i + 2, j + 1 =>
      simp [sto2] at h
      rcases ih (i + 1) v j u h with ⟨h1, h2⟩ | ⟨h1, h1', h2, h3⟩
      · exact Or.inl ⟨by omega, h2⟩
      · exact Or.inr ⟨by omega, by omega, by simpa using h2, fun z => h3 ⟨by omega, z.2⟩⟩
theorem lhas_sto1 {ls : Array Slot} {nL i : Nat} {v : Value} {lo : List (Option Value)} (h : lv_has ls nL ((i, v) :: (asl 0 lo).filter (fun q => !(q.1 == i) && !(q.1 + 1 == i && q.2.category == 2)))) : lhas ls nL (sto1 lo i v) := by
  refine lhas_of h (fun j u hj => ?_)
  rcases sto1_get lo i v j u hj with ⟨h1, h2⟩ | ⟨h1, h2, h3⟩
  · rw [h1, h2]; exact List.mem_cons_self
  · refine List.mem_cons_of_mem _ (List.mem_filter.mpr ⟨(asl_mem lo 0 (j, u)).mpr ⟨Nat.zero_le _, by simpa using h2⟩, ?_⟩)
    simp only [Bool.and_eq_true, Bool.not_eq_true', beq_eq_false_iff_ne, ne_eq, Bool.and_eq_false_iff]
    refine ⟨h1, ?_⟩
    by_cases e : j + 1 = i
    · exact Or.inr (fun z => h3 ⟨e, z⟩)
    · exact Or.inl e
theorem lhas_sto2 {ls : Array Slot} {nL i : Nat} {v : Value} {lo : List (Option Value)} (h : lv_has ls nL ((i, v) :: (asl 0 lo).filter (fun q => !(q.1 == i) && (!(q.1 == i + 1) && !(q.1 + 1 == i && q.2.category == 2))))) : lhas ls nL (sto2 lo i v) := by
  refine lhas_of h (fun j u hj => ?_)
  rcases sto2_get lo i v j u hj with ⟨h1, h2⟩ | ⟨h1, h1', h2, h3⟩
  · rw [h1, h2]; exact List.mem_cons_self
  · refine List.mem_cons_of_mem _ (List.mem_filter.mpr ⟨(asl_mem lo 0 (j, u)).mpr ⟨Nat.zero_le _, by simpa using h2⟩, ?_⟩)
    simp only [Bool.and_eq_true, Bool.not_eq_true', beq_eq_false_iff_ne, ne_eq, Bool.and_eq_false_iff]
    refine ⟨h1, h1', ?_⟩
    by_cases e : j + 1 = i
    · exact Or.inr (fun z => h3 ⟨e, z⟩)
    · exact Or.inl e
end
section
def nC0 : String := "SoundPaid$Bench"
def fC0 : u_T := fun k => match k with
  | 0 => ("SoundPaid$Bench", "gains", "[I", true)
  | 1 => ("SoundPaid$Bench", "twos", "[I", true)
  | _ => ("SoundPaid$Bench", "size", "I", false)
def tC0 : Nat → FieldType := fun k => match k with
  | 0 => .array .int
  | 1 => .array .int
  | _ => .int
theorem pC0 : ∀ k, k < 3 → parseFieldDescriptor (fC0 k).2.2.1 = some (tC0 k) := by decide +kernel
theorem dC0 : ∀ a, a < 3 → ∀ b, b < 3 → a ≠ b → (fC0 a).2.1 ≠ (fC0 b).2.1 := by decide +kernel
theorem uC0 : ∀ x ∈ u_ws nC0 fC0 3, x ∈ tbl := by decide +kernel
def nC1 : String := "SoundPaid$Debts"
def fC1 : u_T := fun k => match k with
  | 0 => ("SoundPaid$Debts", "street", "LSoundPaid$Street;", true)
  | 1 => ("SoundPaid$Debts", "docket", "LSoundPaid$Docket;", true)
  | 2 => ("SoundPaid$Debts", "balances", "[I", true)
  | 3 => ("SoundPaid$Debts", "dues", "[I", true)
  | 4 => ("SoundPaid$Debts", "owing", "[I", true)
  | 5 => ("SoundPaid$Debts", "sums", "[I", true)
  | _ => ("SoundPaid$Debts", "parts", "[I", true)
def tC1 : Nat → FieldType := fun k => match k with
  | 0 => .object "SoundPaid$Street"
  | 1 => .object "SoundPaid$Docket"
  | 2 => .array .int
  | 3 => .array .int
  | 4 => .array .int
  | 5 => .array .int
  | _ => .array .int
theorem pC1 : ∀ k, k < 7 → parseFieldDescriptor (fC1 k).2.2.1 = some (tC1 k) := by decide +kernel
theorem dC1 : ∀ a, a < 7 → ∀ b, b < 7 → a ≠ b → (fC1 a).2.1 ≠ (fC1 b).2.1 := by decide +kernel
theorem uC1 : ∀ x ∈ u_ws nC1 fC1 7, x ∈ tbl := by decide +kernel
def nC2 : String := "SoundPaid$Docket"
def fC2 : u_T := fun k => match k with
  | 0 => ("SoundPaid$Docket", "suitDay", "[I", true)
  | 1 => ("SoundPaid$Docket", "suing", "[I", true)
  | 2 => ("SoundPaid$Docket", "sued", "[I", true)
  | 3 => ("SoundPaid$Docket", "shutDay", "[I", true)
  | 4 => ("SoundPaid$Docket", "shutHouse", "[I", true)
  | 5 => ("SoundPaid$Docket", "closedDays", "[I", true)
  | 6 => ("SoundPaid$Docket", "suits", "I", false)
  | _ => ("SoundPaid$Docket", "shuts", "I", false)
def tC2 : Nat → FieldType := fun k => match k with
  | 0 => .array .int
  | 1 => .array .int
  | 2 => .array .int
  | 3 => .array .int
  | 4 => .array .int
  | 5 => .array .int
  | 6 => .int
  | _ => .int
theorem pC2 : ∀ k, k < 8 → parseFieldDescriptor (fC2 k).2.2.1 = some (tC2 k) := by decide +kernel
theorem dC2 : ∀ a, a < 8 → ∀ b, b < 8 → a ≠ b → (fC2 a).2.1 ≠ (fC2 b).2.1 := by decide +kernel
theorem uC2 : ∀ x ∈ u_ws nC2 fC2 8, x ∈ tbl := by decide +kernel
def nC3 : String := "SoundPaid$Memory"
def fC3 : u_T := fun k => match k with
  | 0 => ("SoundPaid$Memory", "days", "[I", true)
  | 1 => ("SoundPaid$Memory", "houses", "[I", true)
  | 2 => ("SoundPaid$Memory", "amounts", "[I", true)
  | _ => ("SoundPaid$Memory", "size", "I", false)
def tC3 : Nat → FieldType := fun k => match k with
  | 0 => .array .int
  | 1 => .array .int
  | 2 => .array .int
  | _ => .int
theorem pC3 : ∀ k, k < 4 → parseFieldDescriptor (fC3 k).2.2.1 = some (tC3 k) := by decide +kernel
theorem dC3 : ∀ a, a < 4 → ∀ b, b < 4 → a ≠ b → (fC3 a).2.1 ≠ (fC3 b).2.1 := by decide +kernel
theorem uC3 : ∀ x ∈ u_ws nC3 fC3 4, x ∈ tbl := by decide +kernel
def nC4 : String := "SoundPaid$Sheet"
def fC4 : u_T := fun k => match k with
  | 0 => ("SoundPaid$Sheet", "items", "[I", true)
  | 1 => ("SoundPaid$Sheet", "form", "I", false)
  | _ => ("SoundPaid$Sheet", "size", "I", false)
def tC4 : Nat → FieldType := fun k => match k with
  | 0 => .array .int
  | 1 => .int
  | _ => .int
theorem pC4 : ∀ k, k < 3 → parseFieldDescriptor (fC4 k).2.2.1 = some (tC4 k) := by decide +kernel
theorem dC4 : ∀ a, a < 3 → ∀ b, b < 3 → a ≠ b → (fC4 a).2.1 ≠ (fC4 b).2.1 := by decide +kernel
theorem uC4 : ∀ x ∈ u_ws nC4 fC4 3, x ∈ tbl := by decide +kernel
def nC5 : String := "SoundPaid$Street"
def fC5 : u_T := fun k => match k with
  | 0 => ("SoundPaid$Street", "leaks", "[I", true)
  | 1 => ("SoundPaid$Street", "much", "[I", true)
  | 2 => ("SoundPaid$Street", "enjoys", "[I", true)
  | 3 => ("SoundPaid$Street", "coins", "[I", true)
  | 4 => ("SoundPaid$Street", "rates", "[I", true)
  | 5 => ("SoundPaid$Street", "thick", "[I", true)
  | 6 => ("SoundPaid$Street", "houses", "I", false)
  | _ => ("SoundPaid$Street", "rulings", "I", false)
def tC5 : Nat → FieldType := fun k => match k with
  | 0 => .array .int
  | 1 => .array .int
  | 2 => .array .int
  | 3 => .array .int
  | 4 => .array .int
  | 5 => .array .int
  | 6 => .int
  | _ => .int
theorem pC5 : ∀ k, k < 8 → parseFieldDescriptor (fC5 k).2.2.1 = some (tC5 k) := by decide +kernel
theorem dC5 : ∀ a, a < 8 → ∀ b, b < 8 → a ≠ b → (fC5 a).2.1 ≠ (fC5 b).2.1 := by decide +kernel
theorem uC5 : ∀ x ∈ u_ws nC5 fC5 8, x ∈ tbl := by decide +kernel
def nC6 : String := "SoundPaid$Text"
def fC6 : u_T := fun k => match k with
  | 0 => ("SoundPaid$Text", "bytes", "[I", true)
  | 1 => ("SoundPaid$Text", "period", "I", true)
  | 2 => ("SoundPaid$Text", "kinds", "Ljava/lang/String;", true)
  | _ => ("SoundPaid$Text", "size", "I", false)
def tC6 : Nat → FieldType := fun k => match k with
  | 0 => .array .int
  | 1 => .int
  | 2 => .object "java/lang/String"
  | _ => .int
theorem pC6 : ∀ k, k < 4 → parseFieldDescriptor (fC6 k).2.2.1 = some (tC6 k) := by decide +kernel
theorem dC6 : ∀ a, a < 4 → ∀ b, b < 4 → a ≠ b → (fC6 a).2.1 ≠ (fC6 b).2.1 := by decide +kernel
theorem uC6 : ∀ x ∈ u_ws nC6 fC6 4, x ∈ tbl := by decide +kernel
def nC7 : String := "SoundPaid"
def fC7 : u_T := fun k => match k with
  | 0 => ("SoundPaid", "houseText", "LSoundPaid$Text;", true)
  | 1 => ("SoundPaid", "rulingText", "LSoundPaid$Text;", true)
  | 2 => ("SoundPaid", "debts", "LSoundPaid$Debts;", true)
  | 3 => ("SoundPaid", "street", "LSoundPaid$Street;", true)
  | 4 => ("SoundPaid", "docket", "LSoundPaid$Docket;", true)
  | 5 => ("SoundPaid", "memory", "LSoundPaid$Memory;", true)
  | 6 => ("SoundPaid", "bench", "LSoundPaid$Bench;", true)
  | 7 => ("SoundPaid", "sheets", "[LSoundPaid$Sheet;", true)
  | 8 => ("SoundPaid", "outcomes", "[I", true)
  | _ => ("SoundPaid", "finding", "I", false)
def tC7 : Nat → FieldType := fun k => match k with
  | 0 => .object "SoundPaid$Text"
  | 1 => .object "SoundPaid$Text"
  | 2 => .object "SoundPaid$Debts"
  | 3 => .object "SoundPaid$Street"
  | 4 => .object "SoundPaid$Docket"
  | 5 => .object "SoundPaid$Memory"
  | 6 => .object "SoundPaid$Bench"
  | 7 => .array (.object "SoundPaid$Sheet")
  | 8 => .array .int
  | _ => .int
theorem pC7 : ∀ k, k < 10 → parseFieldDescriptor (fC7 k).2.2.1 = some (tC7 k) := by decide +kernel
theorem dC7 : ∀ a, a < 10 → ∀ b, b < 10 → a ≠ b → (fC7 a).2.1 ≠ (fC7 b).2.1 := by decide +kernel
theorem uC7 : ∀ x ∈ u_ws nC7 fC7 10, x ∈ tbl := by decide +kernel
def nC8 : String := "SoundPaidModel"
def fC8 : u_T := fun k => match k with
  | 0 => ("SoundPaidModel", "typed", "[I", true)
  | 1 => ("SoundPaidModel", "texts", "[I", true)
  | 2 => ("SoundPaidModel", "houses", "I", false)
  | 3 => ("SoundPaidModel", "kinds", "[I", true)
  | 4 => ("SoundPaidModel", "leaks", "[I", true)
  | 5 => ("SoundPaidModel", "enjoys", "[I", true)
  | 6 => ("SoundPaidModel", "coins", "[I", true)
  | 7 => ("SoundPaidModel", "rulings", "I", false)
  | 8 => ("SoundPaidModel", "rates", "[I", true)
  | 9 => ("SoundPaidModel", "thick", "[I", true)
  | 10 => ("SoundPaidModel", "suits", "I", false)
  | 11 => ("SoundPaidModel", "suitDay", "[I", true)
  | 12 => ("SoundPaidModel", "suitBy", "[I", true)
  | 13 => ("SoundPaidModel", "suitAt", "[I", true)
  | 14 => ("SoundPaidModel", "shuts", "I", false)
  | 15 => ("SoundPaidModel", "shutDay", "[I", true)
  | 16 => ("SoundPaidModel", "shutHouse", "[I", true)
  | 17 => ("SoundPaidModel", "dropped", "I", false)
  | 18 => ("SoundPaidModel", "isShut", "[Z", true)
  | 19 => ("SoundPaidModel", "daily", "[I", true)
  | 20 => ("SoundPaidModel", "since", "[I", true)
  | 21 => ("SoundPaidModel", "purse", "[I", true)
  | 22 => ("SoundPaidModel", "parts", "[I", true)
  | 23 => ("SoundPaidModel", "planRow", "[I", true)
  | 24 => ("SoundPaidModel", "seens", "I", false)
  | 25 => ("SoundPaidModel", "seenDay", "[I", true)
  | 26 => ("SoundPaidModel", "seenHouse", "[I", true)
  | 27 => ("SoundPaidModel", "seenMuch", "[I", true)
  | 28 => ("SoundPaidModel", "purseWithout", "[I", true)
  | 29 => ("SoundPaidModel", "isThere", "[Z", true)
  | 30 => ("SoundPaidModel", "forms", "[I", true)
  | 31 => ("SoundPaidModel", "sizes", "[I", true)
  | 32 => ("SoundPaidModel", "items", "[I", true)
  | 33 => ("SoundPaidModel", "moved", "[I", true)
  | _ => ("SoundPaidModel", "finding", "I", false)
def tC8 : Nat → FieldType := fun k => match k with
  | 0 => .array .int
  | 1 => .array .int
  | 2 => .int
  | 3 => .array .int
  | 4 => .array .int
  | 5 => .array .int
  | 6 => .array .int
  | 7 => .int
  | 8 => .array .int
  | 9 => .array .int
  | 10 => .int
  | 11 => .array .int
  | 12 => .array .int
  | 13 => .array .int
  | 14 => .int
  | 15 => .array .int
  | 16 => .array .int
  | 17 => .int
  | 18 => .array .boolean
  | 19 => .array .int
  | 20 => .array .int
  | 21 => .array .int
  | 22 => .array .int
  | 23 => .array .int
  | 24 => .int
  | 25 => .array .int
  | 26 => .array .int
  | 27 => .array .int
  | 28 => .array .int
  | 29 => .array .boolean
  | 30 => .array .int
  | 31 => .array .int
  | 32 => .array .int
  | 33 => .array .int
  | _ => .int
theorem pC8 : ∀ k, k < 35 → parseFieldDescriptor (fC8 k).2.2.1 = some (tC8 k) := by decide +kernel
theorem dC8 : ∀ a, a < 35 → ∀ b, b < 35 → a ≠ b → (fC8 a).2.1 ≠ (fC8 b).2.1 := by decide +kernel
theorem uC8 : ∀ x ∈ u_ws nC8 fC8 35, x ∈ tbl := by decide +kernel
abbrev classes : List vw_C := [(nC0, fC0, 3), (nC1, fC1, 7), (nC2, fC2, 8), (nC3, fC3, 4), (nC4, fC4, 3), (nC5, fC5, 8), (nC6, fC6, 4), (nC7, fC7, 10), (nC8, fC8, 35)]
end
section
abbrev Kx : Type := Program × Launch × Env × Room × State × MethodId × Array Value × List Frame × Method × Code × (State → Prop) × Nat × Nat
/-- from this frame, over this picture, the machine comes to its goal -/
def V (μ : Wk) (w : Wd) (nL : Nat) (κ : Kx) (σ : Hp) (lo : List (Option Value)) (pc : Nat) (stk : List Value) : Prop :=
  match κ with
  | (p, l, e, R, s, m, args, below, meth, c, Q, kc, ks) => ∀ (H : Heap) (locs : List Loc) (ls : Array Slot), va_P w.2.2.2.2 classes (cels μ.1 w σ) H → va_S (AW μ w) s.heap H locs → lhas ls nL lo → W p l e R s m args below meth c H locs kc ks Q (F0 m pc ls stk)
/-- what is given of the frame: the machine, its code, the tables' words, the classes, what stands outside the world, room for calls of depth d -/
def Cx (μ : Wk) (w : Wd) (nL : Nat) (κ : Kx) (own : String) (cc : ByteArray) (d : Nat) : Prop :=
  match κ with
  | (p, l, e, R, s, m, args, below, meth, c, Q, kc, ks) => p.tables.exec = Jvm.exec ∧ c.code = cc ∧ c.maxLocals = nL ∧ s.vm.findClass own = some m.cls ∧ (∀ x ∈ tbl, x.before args s = true) ∧ va_K w.2.2.2.2 classes (tysW w) s ∧ Inj μ w ∧ μ.2 w (AW μ w) s s.heap ∧ d ≤ R.frames ∧ 64 * d ≤ R.locals ∧ kc ≤ R.cells ∧ ks ≤ R.slots
def ExtOk (μ : Wk) : Prop := ∀ (w : Wd) (A : Nat → Prop) (s U : State), s.WarmedH U.vm → (∀ q, q < s.heap.size → ¬ A q → U.heap[q]? = s.heap[q]?) → μ.2 w A s s.heap → μ.2 w A U U.heap
section RULES
variable {μ : Wk} {w : Wd} {nL : Nat} {κ : Kx} {σ : Hp} {lo : List (Option Value)} {pc : Nat} {r : List Value} {own : String} {cc : ByteArray} {d : Nat}
theorem V.eq {pc' : Nat} {lo' : List (Option Value)} {stk stk' : List Value} (h1 : pc' = pc) (h2 : lo' = lo) (h3 : stk' = stk) (k : V μ w nL κ σ lo' pc' stk') : V μ w nL κ σ lo pc stk := by
  subst h1; subst h2; subst h3; exact k
theorem V.msk (b : List Bool) {lo' : List (Option Value)} {stk : List Value} (h : msk b lo = lo') (k : V μ w nL κ σ lo' pc stk) : V μ w nL κ σ lo pc stk := by
  obtain ⟨p, l, e, R, s, m, args, below, meth, c, Q, kc, ks⟩ := κ
  subst h
  exact fun H locs ls hP hS hl => k H locs ls hP hS (lhas_msk hl b)
theorem V.iconst (hC : Cx μ w nL κ own cc d) {n : Int} {v : Int32} (hd : decode cc pc = .ok (.iconst n, 1)) (hv : Int32.ofInt n = v) (k : V μ w nL κ σ lo (pc + 1) (.int v :: r)) : V μ w nL κ σ lo pc r := by
  obtain ⟨p, l, e, R, s, m, args, below, meth, c, Q, kc, ks⟩ := κ
  exact fun H locs ls hP hS hl => lv_iconst hC.1 hC.2.1 hd hv (k H locs ls hP hS hl)
theorem V.bipush (hC : Cx μ w nL κ own cc d) {n : Int} {v : Int32} (hd : decode cc pc = .ok (.bipush n, 2)) (hv : (Int8.ofInt n).toInt32 = v) (k : V μ w nL κ σ lo (pc + 2) (.int v :: r)) : V μ w nL κ σ lo pc r := by
  obtain ⟨p, l, e, R, s, m, args, below, meth, c, Q, kc, ks⟩ := κ
  exact fun H locs ls hP hS hl => lv_bipush hC.1 hC.2.1 hd hv (k H locs ls hP hS hl)
theorem V.sipush (hC : Cx μ w nL κ own cc d) {n : Int} {v : Int32} (hd : decode cc pc = .ok (.sipush n, 3)) (hv : (Int16.ofInt n).toInt32 = v) (k : V μ w nL κ σ lo (pc + 3) (.int v :: r)) : V μ w nL κ σ lo pc r := by
  obtain ⟨p, l, e, R, s, m, args, below, meth, c, Q, kc, ks⟩ := κ
  exact fun H locs ls hP hS hl => lv_sipush hC.1 hC.2.1 hd hv (k H locs ls hP hS hl)
theorem V.lconst (hC : Cx μ w nL κ own cc d) {n : Fin 2} {v : Int64} (hd : decode cc pc = .ok (.lconst n, 1)) (hv : Int64.ofNat (n : Nat) = v) (k : V μ w nL κ σ lo (pc + 1) (.long v :: r)) : V μ w nL κ σ lo pc r := by
  obtain ⟨p, l, e, R, s, m, args, below, meth, c, Q, kc, ks⟩ := κ
  exact fun H locs ls hP hS hl => lv_lconst hC.1 hC.2.1 hd hv (k H locs ls hP hS hl)
theorem V.ldc (hC : Cx μ w nL κ own cc d) {i : Nat} {v : Int32} (hd : decode cc pc = .ok (.ldc i, 2)) (hw : Cond.constant own i v ∈ tbl) (k : V μ w nL κ σ lo (pc + 2) (.int v :: r)) : V μ w nL κ σ lo pc r := by
  obtain ⟨p, l, e, R, s, m, args, below, meth, c, Q, kc, ks⟩ := κ
  exact fun H locs ls hP hS hl => lv_ldc hC.1 hC.2.1 hC.2.2.2.1 (hC.2.2.2.2.1 _ hw) hd (k H locs ls hP hS hl)
theorem V.ldcw (hC : Cx μ w nL κ own cc d) {i : Nat} {v : Int32} (hd : decode cc pc = .ok (.ldc_w i, 3)) (hw : Cond.constant own i v ∈ tbl) (k : V μ w nL κ σ lo (pc + 3) (.int v :: r)) : V μ w nL κ σ lo pc r := by
  obtain ⟨p, l, e, R, s, m, args, below, meth, c, Q, kc, ks⟩ := κ
  exact fun H locs ls hP hS hl => lv_ldcw hC.1 hC.2.1 hC.2.2.2.1 (hC.2.2.2.2.1 _ hw) hd (k H locs ls hP hS hl)
theorem V.ldc2 (hC : Cx μ w nL κ own cc d) {i : Nat} {v : Int64} (hd : decode cc pc = .ok (.ldc2_w i, 3)) (hw : Cond.constantLong own i v ∈ tbl) (k : V μ w nL κ σ lo (pc + 3) (.long v :: r)) : V μ w nL κ σ lo pc r := by
  obtain ⟨p, l, e, R, s, m, args, below, meth, c, Q, kc, ks⟩ := κ
  exact fun H locs ls hP hS hl => lv_ldc2 hC.1 hC.2.1 hC.2.2.2.1 (hC.2.2.2.2.1 _ hw) hd (k H locs ls hP hS hl)
theorem V.iload_n (hC : Cx μ w nL κ own cc d) {j : Fin 4} {i : Nat} {x : Int32} (hd : decode cc pc = .ok (.iload_n j, 1)) (hi : (j : Nat) = i) (h : lo[i]? = some (some (.int x))) (k : V μ w nL κ σ lo (pc + 1) (.int x :: r)) : V μ w nL κ σ lo pc r := by
  obtain ⟨p, l, e, R, s, m, args, below, meth, c, Q, kc, ks⟩ := κ
  exact fun H locs ls hP hS hl => lv_iload_n hC.1 hC.2.1 hd hi (lhas_at hl h) (k H locs ls hP hS hl)
theorem V.iload (hC : Cx μ w nL κ own cc d) {i : Nat} {x : Int32} (hd : decode cc pc = .ok (.iload i, 2)) (h : lo[i]? = some (some (.int x))) (k : V μ w nL κ σ lo (pc + 2) (.int x :: r)) : V μ w nL κ σ lo pc r := by
  obtain ⟨p, l, e, R, s, m, args, below, meth, c, Q, kc, ks⟩ := κ
  exact fun H locs ls hP hS hl => lv_iload hC.1 hC.2.1 hd (lhas_at hl h) (k H locs ls hP hS hl)
theorem V.lload_n (hC : Cx μ w nL κ own cc d) {j : Fin 4} {i : Nat} {x : Int64} (hd : decode cc pc = .ok (.lload_n j, 1)) (hi : (j : Nat) = i) (h : lo[i]? = some (some (.long x))) (k : V μ w nL κ σ lo (pc + 1) (.long x :: r)) : V μ w nL κ σ lo pc r := by
  obtain ⟨p, l, e, R, s, m, args, below, meth, c, Q, kc, ks⟩ := κ
  exact fun H locs ls hP hS hl => lv_lload_n hC.1 hC.2.1 hd hi (lhas_at hl h) (k H locs ls hP hS hl)
theorem V.lload (hC : Cx μ w nL κ own cc d) {i : Nat} {x : Int64} (hd : decode cc pc = .ok (.lload i, 2)) (h : lo[i]? = some (some (.long x))) (k : V μ w nL κ σ lo (pc + 2) (.long x :: r)) : V μ w nL κ σ lo pc r := by
  obtain ⟨p, l, e, R, s, m, args, below, meth, c, Q, kc, ks⟩ := κ
  exact fun H locs ls hP hS hl => lv_lload hC.1 hC.2.1 hd (lhas_at hl h) (k H locs ls hP hS hl)
theorem V.aload_n (hC : Cx μ w nL κ own cc d) {j : Fin 4} {i x : Nat} (hd : decode cc pc = .ok (.aload_n j, 1)) (hi : (j : Nat) = i) (h : lo[i]? = some (some (.ref x))) (k : V μ w nL κ σ lo (pc + 1) (.ref x :: r)) : V μ w nL κ σ lo pc r := by
  obtain ⟨p, l, e, R, s, m, args, below, meth, c, Q, kc, ks⟩ := κ
  exact fun H locs ls hP hS hl => lv_aload_n hC.1 hC.2.1 hd hi (lhas_at hl h) (k H locs ls hP hS hl)
theorem V.aload (hC : Cx μ w nL κ own cc d) {i x : Nat} (hd : decode cc pc = .ok (.aload i, 2)) (h : lo[i]? = some (some (.ref x))) (k : V μ w nL κ σ lo (pc + 2) (.ref x :: r)) : V μ w nL κ σ lo pc r := by
  obtain ⟨p, l, e, R, s, m, args, below, meth, c, Q, kc, ks⟩ := κ
  exact fun H locs ls hP hS hl => lv_aload hC.1 hC.2.1 hd (lhas_at hl h) (k H locs ls hP hS hl)
theorem V.istore_n (hC : Cx μ w nL κ own cc d) {j : Fin 4} {i : Nat} {x y : Int32} {lo' : List (Option Value)} (hd : decode cc pc = .ok (.istore_n j, 1)) (hi : (j : Nat) = i) (hn : Nat.ble (i + 1) nL = true) (hy : y = x) (h : sto1 lo i (.int y) = lo') (k : V μ w nL κ σ lo' (pc + 1) r) : V μ w nL κ σ lo pc (.int x :: r) := by
  obtain ⟨p, l, e, R, s, m, args, below, meth, c, Q, kc, ks⟩ := κ
  subst hy; subst h
  exact fun H locs ls hP hS hl => lv_istore_n hC.1 hC.2.1 hd hi hl (Nat.le_of_ble_eq_true hn) rfl (fun ls' hl' => k H locs ls' hP hS (lhas_sto1 hl'))
theorem V.istore (hC : Cx μ w nL κ own cc d) {i : Nat} {x y : Int32} {lo' : List (Option Value)} (hd : decode cc pc = .ok (.istore i, 2)) (hn : Nat.ble (i + 1) nL = true) (hy : y = x) (h : sto1 lo i (.int y) = lo') (k : V μ w nL κ σ lo' (pc + 2) r) : V μ w nL κ σ lo pc (.int x :: r) := by
  obtain ⟨p, l, e, R, s, m, args, below, meth, c, Q, kc, ks⟩ := κ
  subst hy; subst h
  exact fun H locs ls hP hS hl => lv_istore hC.1 hC.2.1 hd hl (Nat.le_of_ble_eq_true hn) rfl (fun ls' hl' => k H locs ls' hP hS (lhas_sto1 hl'))
theorem V.lstore_n (hC : Cx μ w nL κ own cc d) {j : Fin 4} {i : Nat} {x y : Int64} {lo' : List (Option Value)} (hd : decode cc pc = .ok (.lstore_n j, 1)) (hi : (j : Nat) = i) (hn : Nat.ble (i + 2) nL = true) (hy : y = x) (h : sto2 lo i (.long y) = lo') (k : V μ w nL κ σ lo' (pc + 1) r) : V μ w nL κ σ lo pc (.long x :: r) := by
  obtain ⟨p, l, e, R, s, m, args, below, meth, c, Q, kc, ks⟩ := κ
  subst hy; subst h
  exact fun H locs ls hP hS hl => lv_lstore_n hC.1 hC.2.1 hd hi hl (Nat.le_of_ble_eq_true hn) rfl (fun ls' hl' => k H locs ls' hP hS (lhas_sto2 hl'))
theorem V.lstore (hC : Cx μ w nL κ own cc d) {i : Nat} {x y : Int64} {lo' : List (Option Value)} (hd : decode cc pc = .ok (.lstore i, 2)) (hn : Nat.ble (i + 2) nL = true) (hy : y = x) (h : sto2 lo i (.long y) = lo') (k : V μ w nL κ σ lo' (pc + 2) r) : V μ w nL κ σ lo pc (.long x :: r) := by
  obtain ⟨p, l, e, R, s, m, args, below, meth, c, Q, kc, ks⟩ := κ
  subst hy; subst h
  exact fun H locs ls hP hS hl => lv_lstore hC.1 hC.2.1 hd hl (Nat.le_of_ble_eq_true hn) rfl (fun ls' hl' => k H locs ls' hP hS (lhas_sto2 hl'))
theorem V.astore_n (hC : Cx μ w nL κ own cc d) {j : Fin 4} {i x : Nat} {lo' : List (Option Value)} (hd : decode cc pc = .ok (.astore_n j, 1)) (hi : (j : Nat) = i) (hn : Nat.ble (i + 1) nL = true) (h : sto1 lo i (.ref x) = lo') (k : V μ w nL κ σ lo' (pc + 1) r) : V μ w nL κ σ lo pc (.ref x :: r) := by
  obtain ⟨p, l, e, R, s, m, args, below, meth, c, Q, kc, ks⟩ := κ
  subst h
  exact fun H locs ls hP hS hl => lv_astore_n hC.1 hC.2.1 hd hi hl (Nat.le_of_ble_eq_true hn) rfl (fun ls' hl' => k H locs ls' hP hS (lhas_sto1 hl'))
theorem V.astore (hC : Cx μ w nL κ own cc d) {i x : Nat} {lo' : List (Option Value)} (hd : decode cc pc = .ok (.astore i, 2)) (hn : Nat.ble (i + 1) nL = true) (h : sto1 lo i (.ref x) = lo') (k : V μ w nL κ σ lo' (pc + 2) r) : V μ w nL κ σ lo pc (.ref x :: r) := by
  obtain ⟨p, l, e, R, s, m, args, below, meth, c, Q, kc, ks⟩ := κ
  subst h
  exact fun H locs ls hP hS hl => lv_astore hC.1 hC.2.1 hd hl (Nat.le_of_ble_eq_true hn) rfl (fun ls' hl' => k H locs ls' hP hS (lhas_sto1 hl'))
theorem asl_place : ∀ (lo : List (Option Value)) (b i : Nat) (v : Value), lo[i]? = some (some v) → ∃ k : Nat, (asl b lo)[k]? = some (b + i, v) := by
  intro lo b i v h
  have hm : (b + i, v) ∈ asl b lo := (asl_mem lo b (b + i, v)).mpr ⟨Nat.le_add_right _ _, by simpa using h⟩
  exact List.getElem?_of_mem hm
theorem V.iinc (hC : Cx μ w nL κ own cc d) {i : Nat} {n : Int} {x y : Int32} {lo' : List (Option Value)} (hd : decode cc pc = .ok (.iinc i n, 3)) (hn : Nat.ble (i + 1) nL = true) (hx : lo[i]? = some (some (.int x))) (hy : y = x + Int32.ofInt n) (h : sto1 lo i (.int y) = lo') (k : V μ w nL κ σ lo' (pc + 3) r) : V μ w nL κ σ lo pc r := by
  obtain ⟨p, l, e, R, s, m, args, below, meth, c, Q, kc, ks⟩ := κ
  subst h
  obtain ⟨k0, hk0⟩ := asl_place lo 0 i _ hx
  rw [Nat.zero_add] at hk0
  exact fun H locs ls hP hS hl => lv_iinc hC.1 hC.2.1 hd hl hk0 hy.symm (Nat.le_of_ble_eq_true hn) rfl (fun ls' hl' => k H locs ls' hP hS (lhas_sto1 hl'))
theorem V.iadd (hC : Cx μ w nL κ own cc d) {x y : Int32} (hd : decode cc pc = .ok (.iadd, 1)) (k : V μ w nL κ σ lo (pc + 1) (.int (x + y) :: r)) : V μ w nL κ σ lo pc (.int y :: .int x :: r) := by
  obtain ⟨p, l, e, R, s, m, args, below, meth, c, Q, kc, ks⟩ := κ
  exact fun H locs ls hP hS hl => lv_iadd hC.1 hC.2.1 hd (k H locs ls hP hS hl)
theorem V.isub (hC : Cx μ w nL κ own cc d) {x y : Int32} (hd : decode cc pc = .ok (.isub, 1)) (k : V μ w nL κ σ lo (pc + 1) (.int (x - y) :: r)) : V μ w nL κ σ lo pc (.int y :: .int x :: r) := by
  obtain ⟨p, l, e, R, s, m, args, below, meth, c, Q, kc, ks⟩ := κ
  exact fun H locs ls hP hS hl => lv_isub hC.1 hC.2.1 hd (k H locs ls hP hS hl)
theorem V.imul (hC : Cx μ w nL κ own cc d) {x y : Int32} (hd : decode cc pc = .ok (.imul, 1)) (k : V μ w nL κ σ lo (pc + 1) (.int (x * y) :: r)) : V μ w nL κ σ lo pc (.int y :: .int x :: r) := by
  obtain ⟨p, l, e, R, s, m, args, below, meth, c, Q, kc, ks⟩ := κ
  exact fun H locs ls hP hS hl => lv_imul hC.1 hC.2.1 hd (k H locs ls hP hS hl)
theorem V.iand (hC : Cx μ w nL κ own cc d) {x y : Int32} (hd : decode cc pc = .ok (.iand, 1)) (k : V μ w nL κ σ lo (pc + 1) (.int (x &&& y) :: r)) : V μ w nL κ σ lo pc (.int y :: .int x :: r) := by
  obtain ⟨p, l, e, R, s, m, args, below, meth, c, Q, kc, ks⟩ := κ
  exact fun H locs ls hP hS hl => lv_iand hC.1 hC.2.1 hd (k H locs ls hP hS hl)
theorem V.ior (hC : Cx μ w nL κ own cc d) {x y : Int32} (hd : decode cc pc = .ok (.ior, 1)) (k : V μ w nL κ σ lo (pc + 1) (.int (x ||| y) :: r)) : V μ w nL κ σ lo pc (.int y :: .int x :: r) := by
  obtain ⟨p, l, e, R, s, m, args, below, meth, c, Q, kc, ks⟩ := κ
  exact fun H locs ls hP hS hl => lv_ior hC.1 hC.2.1 hd (k H locs ls hP hS hl)
theorem V.ixor (hC : Cx μ w nL κ own cc d) {x y : Int32} (hd : decode cc pc = .ok (.ixor, 1)) (k : V μ w nL κ σ lo (pc + 1) (.int (x ^^^ y) :: r)) : V μ w nL κ σ lo pc (.int y :: .int x :: r) := by
  obtain ⟨p, l, e, R, s, m, args, below, meth, c, Q, kc, ks⟩ := κ
  exact fun H locs ls hP hS hl => lv_ixor hC.1 hC.2.1 hd (k H locs ls hP hS hl)
theorem V.ishl (hC : Cx μ w nL κ own cc d) {x y : Int32} (hd : decode cc pc = .ok (.ishl, 1)) (k : V μ w nL κ σ lo (pc + 1) (.int (x <<< (y &&& 31)) :: r)) : V μ w nL κ σ lo pc (.int y :: .int x :: r) := by
  obtain ⟨p, l, e, R, s, m, args, below, meth, c, Q, kc, ks⟩ := κ
  exact fun H locs ls hP hS hl => lv_ishl hC.1 hC.2.1 hd (k H locs ls hP hS hl)
theorem V.ishr (hC : Cx μ w nL κ own cc d) {x y : Int32} (hd : decode cc pc = .ok (.ishr, 1)) (k : V μ w nL κ σ lo (pc + 1) (.int (x >>> (y &&& 31)) :: r)) : V μ w nL κ σ lo pc (.int y :: .int x :: r) := by
  obtain ⟨p, l, e, R, s, m, args, below, meth, c, Q, kc, ks⟩ := κ
  exact fun H locs ls hP hS hl => lv_ishr hC.1 hC.2.1 hd (k H locs ls hP hS hl)
theorem V.idiv (hC : Cx μ w nL κ own cc d) {x y : Int32} (hd : decode cc pc = .ok (.idiv, 1)) (hne : ¬ y = 0) (k : V μ w nL κ σ lo (pc + 1) (.int (x / y) :: r)) : V μ w nL κ σ lo pc (.int y :: .int x :: r) := by
  obtain ⟨p, l, e, R, s, m, args, below, meth, c, Q, kc, ks⟩ := κ
  exact fun H locs ls hP hS hl => lv_idiv hC.1 hC.2.1 hd hne (k H locs ls hP hS hl)
theorem V.irem (hC : Cx μ w nL κ own cc d) {x y : Int32} (hd : decode cc pc = .ok (.irem, 1)) (hne : ¬ y = 0) (k : V μ w nL κ σ lo (pc + 1) (.int (x - x / y * y) :: r)) : V μ w nL κ σ lo pc (.int y :: .int x :: r) := by
  obtain ⟨p, l, e, R, s, m, args, below, meth, c, Q, kc, ks⟩ := κ
  exact fun H locs ls hP hS hl => lv_irem hC.1 hC.2.1 hd hne (k H locs ls hP hS hl)
theorem V.ineg (hC : Cx μ w nL κ own cc d) {x : Int32} (hd : decode cc pc = .ok (.ineg, 1)) (k : V μ w nL κ σ lo (pc + 1) (.int (-x) :: r)) : V μ w nL κ σ lo pc (.int x :: r) := by
  obtain ⟨p, l, e, R, s, m, args, below, meth, c, Q, kc, ks⟩ := κ
  exact fun H locs ls hP hS hl => lv_ineg hC.1 hC.2.1 hd (k H locs ls hP hS hl)
theorem V.iushr (hC : Cx μ w nL κ own cc d) {x y : Int32} (hd : decode cc pc = .ok (.iushr, 1)) (k : V μ w nL κ σ lo (pc + 1) (.int ((x.toUInt32 >>> (y.toUInt32 &&& Int32.toUInt32 31)).toInt32) :: r)) : V μ w nL κ σ lo pc (.int y :: .int x :: r) := by
  obtain ⟨p, l, e, R, s, m, args, below, meth, c, Q, kc, ks⟩ := κ
  exact fun H locs ls hP hS hl => lv_iushr hC.1 hC.2.1 hd rfl (k H locs ls hP hS hl)
theorem V.i2l (hC : Cx μ w nL κ own cc d) {x : Int32} (hd : decode cc pc = .ok (.i2l, 1)) (k : V μ w nL κ σ lo (pc + 1) (.long x.toInt64 :: r)) : V μ w nL κ σ lo pc (.int x :: r) := by
  obtain ⟨p, l, e, R, s, m, args, below, meth, c, Q, kc, ks⟩ := κ
  exact fun H locs ls hP hS hl => lv_i2l hC.1 hC.2.1 hd rfl (k H locs ls hP hS hl)
theorem V.i2b (hC : Cx μ w nL κ own cc d) {x : Int32} (hd : decode cc pc = .ok (.i2b, 1)) (k : V μ w nL κ σ lo (pc + 1) (.int x.toInt8.toInt32 :: r)) : V μ w nL κ σ lo pc (.int x :: r) := by
  obtain ⟨p, l, e, R, s, m, args, below, meth, c, Q, kc, ks⟩ := κ
  exact fun H locs ls hP hS hl => lv_i2b hC.1 hC.2.1 hd rfl (k H locs ls hP hS hl)
theorem V.i2s (hC : Cx μ w nL κ own cc d) {x : Int32} (hd : decode cc pc = .ok (.i2s, 1)) (k : V μ w nL κ σ lo (pc + 1) (.int x.toInt16.toInt32 :: r)) : V μ w nL κ σ lo pc (.int x :: r) := by
  obtain ⟨p, l, e, R, s, m, args, below, meth, c, Q, kc, ks⟩ := κ
  exact fun H locs ls hP hS hl => lv_i2s hC.1 hC.2.1 hd rfl (k H locs ls hP hS hl)
theorem V.i2c (hC : Cx μ w nL κ own cc d) {x : Int32} (hd : decode cc pc = .ok (.i2c, 1)) (k : V μ w nL κ σ lo (pc + 1) (.int (x.toUInt32 % 65536).toInt32 :: r)) : V μ w nL κ σ lo pc (.int x :: r) := by
  obtain ⟨p, l, e, R, s, m, args, below, meth, c, Q, kc, ks⟩ := κ
  exact fun H locs ls hP hS hl => lv_i2c hC.1 hC.2.1 hd rfl (k H locs ls hP hS hl)
theorem V.ladd (hC : Cx μ w nL κ own cc d) {x y : Int64} (hd : decode cc pc = .ok (.ladd, 1)) (k : V μ w nL κ σ lo (pc + 1) (.long (x + y) :: r)) : V μ w nL κ σ lo pc (.long y :: .long x :: r) := by
  obtain ⟨p, l, e, R, s, m, args, below, meth, c, Q, kc, ks⟩ := κ
  exact fun H locs ls hP hS hl => lv_ladd hC.1 hC.2.1 hd (k H locs ls hP hS hl)
theorem V.lsub (hC : Cx μ w nL κ own cc d) {x y : Int64} (hd : decode cc pc = .ok (.lsub, 1)) (k : V μ w nL κ σ lo (pc + 1) (.long (x - y) :: r)) : V μ w nL κ σ lo pc (.long y :: .long x :: r) := by
  obtain ⟨p, l, e, R, s, m, args, below, meth, c, Q, kc, ks⟩ := κ
  exact fun H locs ls hP hS hl => lv_lsub hC.1 hC.2.1 hd (k H locs ls hP hS hl)
theorem V.lmul (hC : Cx μ w nL κ own cc d) {x y : Int64} (hd : decode cc pc = .ok (.lmul, 1)) (k : V μ w nL κ σ lo (pc + 1) (.long (x * y) :: r)) : V μ w nL κ σ lo pc (.long y :: .long x :: r) := by
  obtain ⟨p, l, e, R, s, m, args, below, meth, c, Q, kc, ks⟩ := κ
  exact fun H locs ls hP hS hl => lv_lmul hC.1 hC.2.1 hd (k H locs ls hP hS hl)
theorem V.ldiv (hC : Cx μ w nL κ own cc d) {x y : Int64} (hd : decode cc pc = .ok (.ldiv, 1)) (hne : ¬ y = 0) (k : V μ w nL κ σ lo (pc + 1) (.long (x / y) :: r)) : V μ w nL κ σ lo pc (.long y :: .long x :: r) := by
  obtain ⟨p, l, e, R, s, m, args, below, meth, c, Q, kc, ks⟩ := κ
  exact fun H locs ls hP hS hl => lv_ldiv hC.1 hC.2.1 hd hne (k H locs ls hP hS hl)
theorem V.lrem (hC : Cx μ w nL κ own cc d) {x y : Int64} (hd : decode cc pc = .ok (.lrem, 1)) (hne : ¬ y = 0) (k : V μ w nL κ σ lo (pc + 1) (.long (x - x / y * y) :: r)) : V μ w nL κ σ lo pc (.long y :: .long x :: r) := by
  obtain ⟨p, l, e, R, s, m, args, below, meth, c, Q, kc, ks⟩ := κ
  exact fun H locs ls hP hS hl => lv_lrem hC.1 hC.2.1 hd hne (k H locs ls hP hS hl)
theorem V.lshl (hC : Cx μ w nL κ own cc d) {x : Int64} {y : Int32} (hd : decode cc pc = .ok (.lshl, 1)) (k : V μ w nL κ σ lo (pc + 1) (.long (x <<< (y.toInt64 &&& 63)) :: r)) : V μ w nL κ σ lo pc (.int y :: .long x :: r) := by
  obtain ⟨p, l, e, R, s, m, args, below, meth, c, Q, kc, ks⟩ := κ
  exact fun H locs ls hP hS hl => lv_lshl hC.1 hC.2.1 hd rfl (k H locs ls hP hS hl)
theorem V.lcmp (hC : Cx μ w nL κ own cc d) {x y : Int64} (hd : decode cc pc = .ok (.lcmp, 1)) (k : V μ w nL κ σ lo (pc + 1) (.int (lg_cmp x y) :: r)) : V μ w nL κ σ lo pc (.long y :: .long x :: r) := by
  obtain ⟨p, l, e, R, s, m, args, below, meth, c, Q, kc, ks⟩ := κ
  exact fun H locs ls hP hS hl => W.lcmp hC.1 hC.2.1 hd (k H locs ls hP hS hl)
theorem V.dup (hC : Cx μ w nL κ own cc d) {v : Value} (hd : decode cc pc = .ok (.dup, 1)) (h1 : v.category = 1) (k : V μ w nL κ σ lo (pc + 1) (v :: v :: r)) : V μ w nL κ σ lo pc (v :: r) := by
  obtain ⟨p, l, e, R, s, m, args, below, meth, c, Q, kc, ks⟩ := κ
  exact fun H locs ls hP hS hl => lv_dup hC.1 hC.2.1 hd h1 (k H locs ls hP hS hl)
theorem V.pop (hC : Cx μ w nL κ own cc d) {v : Value} (hd : decode cc pc = .ok (.pop, 1)) (h1 : v.category = 1) (k : V μ w nL κ σ lo (pc + 1) (r)) : V μ w nL κ σ lo pc (v :: r) := by
  obtain ⟨p, l, e, R, s, m, args, below, meth, c, Q, kc, ks⟩ := κ
  exact fun H locs ls hP hS hl => lv_pop hC.1 hC.2.1 hd h1 (k H locs ls hP hS hl)
theorem V.dup2_11 (hC : Cx μ w nL κ own cc d) {v u : Value} (hd : decode cc pc = .ok (.dup2, 1)) (h1 : v.category = 1) (h2 : u.category = 1) (k : V μ w nL κ σ lo (pc + 1) (v :: u :: v :: u :: r)) : V μ w nL κ σ lo pc (v :: u :: r) := by
  obtain ⟨p, l, e, R, s, m, args, below, meth, c, Q, kc, ks⟩ := κ
  exact fun H locs ls hP hS hl => lv_dup2_11 hC.1 hC.2.1 hd h1 h2 (k H locs ls hP hS hl)
theorem V.if_eq (hC : Cx μ w nL κ own cc d) {x : Int32} {off : Int} {tgt : Nat} (hd : decode cc pc = .ok (.ifCond .eq off, 3)) (ht : (pc : Int) + off = (tgt : Int)) (kt : x = 0 → V μ w nL κ σ lo tgt r) (kf : ¬ x = 0 → V μ w nL κ σ lo (pc + 3) r) : V μ w nL κ σ lo pc (.int x :: r) := by
  obtain ⟨p, l, e, R, s, m, args, below, meth, c, Q, kc, ks⟩ := κ
  exact fun H locs ls hP hS hl => lv_if_eq hC.1 hC.2.1 hd ht (fun z => kt z H locs ls hP hS hl) (fun z => kf z H locs ls hP hS hl)
theorem V.icmp_eq (hC : Cx μ w nL κ own cc d) {x y : Int32} {off : Int} {tgt : Nat} (hd : decode cc pc = .ok (.if_icmp .eq off, 3)) (ht : (pc : Int) + off = (tgt : Int)) (kt : x = y → V μ w nL κ σ lo tgt r) (kf : ¬ x = y → V μ w nL κ σ lo (pc + 3) r) : V μ w nL κ σ lo pc (.int y :: .int x :: r) := by
  obtain ⟨p, l, e, R, s, m, args, below, meth, c, Q, kc, ks⟩ := κ
  exact fun H locs ls hP hS hl => lv_icmp_eq hC.1 hC.2.1 hd ht (fun z => kt z H locs ls hP hS hl) (fun z => kf z H locs ls hP hS hl)
theorem V.if_ne (hC : Cx μ w nL κ own cc d) {x : Int32} {off : Int} {tgt : Nat} (hd : decode cc pc = .ok (.ifCond .ne off, 3)) (ht : (pc : Int) + off = (tgt : Int)) (kt : ¬ x = 0 → V μ w nL κ σ lo tgt r) (kf : x = 0 → V μ w nL κ σ lo (pc + 3) r) : V μ w nL κ σ lo pc (.int x :: r) := by
  obtain ⟨p, l, e, R, s, m, args, below, meth, c, Q, kc, ks⟩ := κ
  exact fun H locs ls hP hS hl => lv_if_ne hC.1 hC.2.1 hd ht (fun z => kt z H locs ls hP hS hl) (fun z => kf z H locs ls hP hS hl)
theorem V.icmp_ne (hC : Cx μ w nL κ own cc d) {x y : Int32} {off : Int} {tgt : Nat} (hd : decode cc pc = .ok (.if_icmp .ne off, 3)) (ht : (pc : Int) + off = (tgt : Int)) (kt : ¬ x = y → V μ w nL κ σ lo tgt r) (kf : x = y → V μ w nL κ σ lo (pc + 3) r) : V μ w nL κ σ lo pc (.int y :: .int x :: r) := by
  obtain ⟨p, l, e, R, s, m, args, below, meth, c, Q, kc, ks⟩ := κ
  exact fun H locs ls hP hS hl => lv_icmp_ne hC.1 hC.2.1 hd ht (fun z => kt z H locs ls hP hS hl) (fun z => kf z H locs ls hP hS hl)
theorem V.if_lt (hC : Cx μ w nL κ own cc d) {x : Int32} {off : Int} {tgt : Nat} (hd : decode cc pc = .ok (.ifCond .lt off, 3)) (ht : (pc : Int) + off = (tgt : Int)) (kt : x < 0 → V μ w nL κ σ lo tgt r) (kf : ¬ x < 0 → V μ w nL κ σ lo (pc + 3) r) : V μ w nL κ σ lo pc (.int x :: r) := by
  obtain ⟨p, l, e, R, s, m, args, below, meth, c, Q, kc, ks⟩ := κ
  exact fun H locs ls hP hS hl => lv_if_lt hC.1 hC.2.1 hd ht (fun z => kt z H locs ls hP hS hl) (fun z => kf z H locs ls hP hS hl)
theorem V.icmp_lt (hC : Cx μ w nL κ own cc d) {x y : Int32} {off : Int} {tgt : Nat} (hd : decode cc pc = .ok (.if_icmp .lt off, 3)) (ht : (pc : Int) + off = (tgt : Int)) (kt : x < y → V μ w nL κ σ lo tgt r) (kf : ¬ x < y → V μ w nL κ σ lo (pc + 3) r) : V μ w nL κ σ lo pc (.int y :: .int x :: r) := by
  obtain ⟨p, l, e, R, s, m, args, below, meth, c, Q, kc, ks⟩ := κ
  exact fun H locs ls hP hS hl => lv_icmp_lt hC.1 hC.2.1 hd ht (fun z => kt z H locs ls hP hS hl) (fun z => kf z H locs ls hP hS hl)
theorem V.if_ge (hC : Cx μ w nL κ own cc d) {x : Int32} {off : Int} {tgt : Nat} (hd : decode cc pc = .ok (.ifCond .ge off, 3)) (ht : (pc : Int) + off = (tgt : Int)) (kt : 0 ≤ x → V μ w nL κ σ lo tgt r) (kf : ¬ 0 ≤ x → V μ w nL κ σ lo (pc + 3) r) : V μ w nL κ σ lo pc (.int x :: r) := by
  obtain ⟨p, l, e, R, s, m, args, below, meth, c, Q, kc, ks⟩ := κ
  exact fun H locs ls hP hS hl => lv_if_ge hC.1 hC.2.1 hd ht (fun z => kt z H locs ls hP hS hl) (fun z => kf z H locs ls hP hS hl)
theorem V.icmp_ge (hC : Cx μ w nL κ own cc d) {x y : Int32} {off : Int} {tgt : Nat} (hd : decode cc pc = .ok (.if_icmp .ge off, 3)) (ht : (pc : Int) + off = (tgt : Int)) (kt : y ≤ x → V μ w nL κ σ lo tgt r) (kf : ¬ y ≤ x → V μ w nL κ σ lo (pc + 3) r) : V μ w nL κ σ lo pc (.int y :: .int x :: r) := by
  obtain ⟨p, l, e, R, s, m, args, below, meth, c, Q, kc, ks⟩ := κ
  exact fun H locs ls hP hS hl => lv_icmp_ge hC.1 hC.2.1 hd ht (fun z => kt z H locs ls hP hS hl) (fun z => kf z H locs ls hP hS hl)
theorem V.if_gt (hC : Cx μ w nL κ own cc d) {x : Int32} {off : Int} {tgt : Nat} (hd : decode cc pc = .ok (.ifCond .gt off, 3)) (ht : (pc : Int) + off = (tgt : Int)) (kt : 0 < x → V μ w nL κ σ lo tgt r) (kf : ¬ 0 < x → V μ w nL κ σ lo (pc + 3) r) : V μ w nL κ σ lo pc (.int x :: r) := by
  obtain ⟨p, l, e, R, s, m, args, below, meth, c, Q, kc, ks⟩ := κ
  exact fun H locs ls hP hS hl => lv_if_gt hC.1 hC.2.1 hd ht (fun z => kt z H locs ls hP hS hl) (fun z => kf z H locs ls hP hS hl)
theorem V.icmp_gt (hC : Cx μ w nL κ own cc d) {x y : Int32} {off : Int} {tgt : Nat} (hd : decode cc pc = .ok (.if_icmp .gt off, 3)) (ht : (pc : Int) + off = (tgt : Int)) (kt : y < x → V μ w nL κ σ lo tgt r) (kf : ¬ y < x → V μ w nL κ σ lo (pc + 3) r) : V μ w nL κ σ lo pc (.int y :: .int x :: r) := by
  obtain ⟨p, l, e, R, s, m, args, below, meth, c, Q, kc, ks⟩ := κ
  exact fun H locs ls hP hS hl => lv_icmp_gt hC.1 hC.2.1 hd ht (fun z => kt z H locs ls hP hS hl) (fun z => kf z H locs ls hP hS hl)
theorem V.if_le (hC : Cx μ w nL κ own cc d) {x : Int32} {off : Int} {tgt : Nat} (hd : decode cc pc = .ok (.ifCond .le off, 3)) (ht : (pc : Int) + off = (tgt : Int)) (kt : x ≤ 0 → V μ w nL κ σ lo tgt r) (kf : ¬ x ≤ 0 → V μ w nL κ σ lo (pc + 3) r) : V μ w nL κ σ lo pc (.int x :: r) := by
  obtain ⟨p, l, e, R, s, m, args, below, meth, c, Q, kc, ks⟩ := κ
  exact fun H locs ls hP hS hl => lv_if_le hC.1 hC.2.1 hd ht (fun z => kt z H locs ls hP hS hl) (fun z => kf z H locs ls hP hS hl)
theorem V.icmp_le (hC : Cx μ w nL κ own cc d) {x y : Int32} {off : Int} {tgt : Nat} (hd : decode cc pc = .ok (.if_icmp .le off, 3)) (ht : (pc : Int) + off = (tgt : Int)) (kt : x ≤ y → V μ w nL κ σ lo tgt r) (kf : ¬ x ≤ y → V μ w nL κ σ lo (pc + 3) r) : V μ w nL κ σ lo pc (.int y :: .int x :: r) := by
  obtain ⟨p, l, e, R, s, m, args, below, meth, c, Q, kc, ks⟩ := κ
  exact fun H locs ls hP hS hl => lv_icmp_le hC.1 hC.2.1 hd ht (fun z => kt z H locs ls hP hS hl) (fun z => kf z H locs ls hP hS hl)
theorem V.goto (hC : Cx μ w nL κ own cc d) {off : Int} {tgt : Nat} (hd : decode cc pc = .ok (.goto off, 3)) (ht : (pc : Int) + off = (tgt : Int)) (k : V μ w nL κ σ lo tgt r) : V μ w nL κ σ lo pc r := by
  obtain ⟨p, l, e, R, s, m, args, below, meth, c, Q, kc, ks⟩ := κ
  exact fun H locs ls hP hS hl => lv_goto hC.1 hC.2.1 hd ht (k H locs ls hP hS hl)
theorem V.tabOut (hC : Cx μ w nL κ own cc d) {df lw hg : Int} {offs : Array Int} {len : Nat} {x : Int32} {tgt : Nat} (hd : decode cc pc = .ok (.tableswitch df lw hg offs, len)) (h : x.toInt < lw ∨ hg < x.toInt) (ht : (pc : Int) + df = (tgt : Int)) (k : V μ w nL κ σ lo tgt r) : V μ w nL κ σ lo pc (.int x :: r) := by
  obtain ⟨p, l, e, R, s, m, args, below, meth, c, Q, kc, ks⟩ := κ
  exact fun H locs ls hP hS hl => lv_tableOut hC.1 hC.2.1 hd h ht (k H locs ls hP hS hl)
theorem V.tabIn (hC : Cx μ w nL κ own cc d) {df lw hg off : Int} {offs : Array Int} {len : Nat} {x : Int32} {tgt : Nat} (hd : decode cc pc = .ok (.tableswitch df lw hg offs, len)) (h1 : ¬ x.toInt < lw) (h2 : ¬ hg < x.toInt) (ho : offs[(x.toInt - lw).toNat]? = some off) (ht : (pc : Int) + off = (tgt : Int)) (k : V μ w nL κ σ lo tgt r) : V μ w nL κ σ lo pc (.int x :: r) := by
  obtain ⟨p, l, e, R, s, m, args, below, meth, c, Q, kc, ks⟩ := κ
  exact fun H locs ls hP hS hl => lv_tableIn hC.1 hC.2.1 hd h1 h2 ho ht (k H locs ls hP hS hl)
/-- a field's value, of an object whose shape is known -/
theorem V.get (hC : Cx μ w nL κ own cc d) {o ci j i N : Nat} {C : String} {T : u_T} {fs : List (Nat ⊕ Nat)} {f : Nat ⊕ Nat} (hd : decode cc pc = .ok (.getfield i, 3)) (hs : μ.1[o]? = some (.inl (ci, fs))) (hc : classes[ci]? = some (C, T, N)) (hu : ∀ x ∈ u_ws C T N, x ∈ tbl) (hj : Nat.ble (j + 1) N = true) (hf : fs[j]? = some f) (hw : Cond.fieldLink own i (T j).1 (T j).2.1 (T j).2.2.1 ∈ tbl) (k : V μ w nL κ σ lo (pc + 3) (fcel w (σ o) f :: r)) : V μ w nL κ σ lo pc (.ref (w.1 o) :: r) := by
  obtain ⟨p, l, e, R, s, m, args, below, meth, c, Q, kc, ks⟩ := κ
  exact fun H locs ls hP hS hl => va_get (Ts := tbl) hC.1 hC.2.1 hC.2.2.2.2.1 hu hC.2.2.2.1 hC.2.2.2.2.2.1 hP o (cels_get hs) hc j (Nat.le_of_ble_eq_true hj) (hC.2.2.2.2.1 _ hw) (fun _ h9 => h9) (by simp [hf]) hd (k H locs ls hP hS hl)
theorem fcel_set (w : Wd) (f : Nat → Int32) (j : Nat) (v : Int32) (fs : List (Nat ⊕ Nat)) (h : ∀ i, fs[i]? = some (Sum.inl j) → i = j) (hj : fs[j]? = some (Sum.inl j)) : (fs.map (fcel w f)).set j (.int v) = fs.map (fcel w (upd f j v)) := by
  apply List.ext_getElem?
  intro i
  rw [List.getElem?_set, List.getElem?_map, List.getElem?_map]
  by_cases hi : j = i
  · subst hi
    have hl : j < (fs.map (fcel w f)).length := by simp; exact (List.getElem?_eq_some_iff.mp hj).1
    rw [if_pos rfl, if_pos hl, hj]
    simp [fcel, upd]
  · rw [if_neg hi]
    cases hx : fs[i]? with
    | none => rfl
    | some y =>
      cases y with
      | inr q => rfl
      | inl z =>
        have hz : z ≠ j := by
          intro e
          subst e
          exact hi (h i hx).symm
        simp [fcel, upd, hz]
/-- each int field has its own place -/
def ownPl (fs : List (Nat ⊕ Nat)) : Bool := (List.range fs.length).all (fun i => match fs[i]? with | some (.inl j) => i == j | _ => true)
theorem ownPl_spec {fs : List (Nat ⊕ Nat)} (h : ownPl fs = true) {i j : Nat} (hi : fs[i]? = some (.inl j)) : i = j := by
  have h1 := List.all_eq_true.mp h i (List.mem_range.mpr (List.getElem?_eq_some_iff.mp hi).1)
  rw [hi] at h1
  simpa using h1
theorem V.put (hC : Cx μ w nL κ own cc d) {o ci j i N : Nat} {C : String} {T : u_T} {fs : List (Nat ⊕ Nat)} {ty0 : Nat → FieldType} {v : Int32} (hd : decode cc pc = .ok (.putfield i, 3)) (hs : μ.1[o]? = some (.inl (ci, fs))) (hc : classes[ci]? = some (C, T, N)) (hu : ∀ x ∈ u_ws C T N, x ∈ tbl) (hty : ∀ k, k < N → parseFieldDescriptor (T k).2.2.1 = some (ty0 k)) (hnm : ∀ a, a < N → ∀ b, b < N → a ≠ b → (T a).2.1 ≠ (T b).2.1) (hj : Nat.ble (j + 1) N = true) (hf : fs[j]? = some (.inl j)) (hown : ownPl fs = true) (hint : ty0 j = .int) (hfin : (T j).2.2.2 = false) (hw : Cond.fieldLink own i (T j).1 (T j).2.1 (T j).2.2.1 ∈ tbl) (k : V μ w nL κ (st σ o j v) lo (pc + 3) r) : V μ w nL κ σ lo pc (.int v :: .ref (w.1 o) :: r) := by
  obtain ⟨p, l, e, R, s, m, args, below, meth, c, Q, kc, ks⟩ := κ
  intro H locs ls hP hS hl
  have hjN := Nat.le_of_ble_eq_true hj
  refine va_put (Ts := tbl) (ty := .int) hC.1 hC.2.1 hC.2.2.2.2.1 hu ty0 hty hnm hC.2.2.2.1 hC.2.2.2.2.2.1 hP (cels_D σ hC.2.2.2.2.2.2.1) hS o (cels_get hs) hc j hjN (hC.2.2.2.2.1 _ hw) (fun _ h9 => h9) hfin (by rw [hty j hjN, hint]) rfl rfl (by simp; exact (List.getElem?_eq_some_iff.mp hf).1) hd (fun H1 locs1 hP1 _ hS1 => k H1 locs1 ls ?_ hS1 hl)
  rw [fcel_set w (σ o) j v fs (fun i hi => ownPl_spec hown hi) hf] at hP1
  have h2 : cel w (st σ o j v o) (.inl (ci, fs)) = .inr (ci, fs.map (fcel w (upd (σ o) j v))) := by rw [st_at]; rfl
  rw [← h2, cels_set hs (fun q hq => st_ne σ j v hq)] at hP1
  exact hP1
theorem V.iald (hC : Cx μ w nL κ own cc d) {o n : Nat} {i : Int32} (hd : decode cc pc = .ok (.iaload, 1)) (hs : μ.1[o]? = some (.inr (0, n))) (hin : vp_in i n) (k : V μ w nL κ σ lo (pc + 1) (.int (σ o i.toNatClampNeg) :: r)) : V μ w nL κ σ lo pc (.int i :: .ref (w.1 o) :: r) := by
  obtain ⟨p, l, e, R, s, m, args, below, meth, c, Q, kc, ks⟩ := κ
  exact fun H locs ls hP hS hl => va_iald hC.1 hC.2.1 hC.2.2.2.2.2.1 hP o 0 (cels_get hs) rfl hin hd (k H locs ls hP hS hl)
theorem V.zald (hC : Cx μ w nL κ own cc d) {o n : Nat} {i : Int32} (hd : decode cc pc = .ok (.baload, 1)) (hs : μ.1[o]? = some (.inr (1, n))) (hin : vp_in i n) (k : V μ w nL κ σ lo (pc + 1) (.int (σ o i.toNatClampNeg) :: r)) : V μ w nL κ σ lo pc (.int i :: .ref (w.1 o) :: r) := by
  obtain ⟨p, l, e, R, s, m, args, below, meth, c, Q, kc, ks⟩ := κ
  exact fun H locs ls hP hS hl => va_zald hC.1 hC.2.1 hC.2.2.2.2.2.1 hP o 1 (cels_get hs) rfl hin hd (k H locs ls hP hS hl)
theorem V.qald (hC : Cx μ w nL κ own cc d) {o n b : Nat} {i : Int32} (hd : decode cc pc = .ok (.aaload, 1)) (hs : μ.1[o]? = some (.inr (b + 2, n))) (hin : vp_in i n) (k : V μ w nL κ σ lo (pc + 1) (.ref (w.1 (b + i.toNatClampNeg)) :: r)) : V μ w nL κ σ lo pc (.int i :: .ref (w.1 o) :: r) := by
  obtain ⟨p, l, e, R, s, m, args, below, meth, c, Q, kc, ks⟩ := κ
  exact fun H locs ls hP hS hl => va_aldq (C := "SoundPaid$Sheet") hC.1 hC.2.1 hC.2.2.2.2.2.1 hP o 2 (cels_get hs) rfl hin hd (k H locs ls hP hS hl)
theorem V.iast (hC : Cx μ w nL κ own cc d) {o n : Nat} {i v : Int32} (hd : decode cc pc = .ok (.iastore, 1)) (hs : μ.1[o]? = some (.inr (0, n))) (hin : vp_in i n) (k : V μ w nL κ (st σ o i.toNatClampNeg v) lo (pc + 1) r) : V μ w nL κ σ lo pc (.int v :: .int i :: .ref (w.1 o) :: r) := by
  obtain ⟨p, l, e, R, s, m, args, below, meth, c, Q, kc, ks⟩ := κ
  intro H locs ls hP hS hl
  refine va_iast hC.1 hC.2.1 hC.2.2.2.2.2.1 hP (cels_D σ hC.2.2.2.2.2.2.1) hS o 0 (cels_get hs) rfl hin hd (fun H1 locs1 hP1 _ hS1 => k H1 locs1 ls ?_ hS1 hl)
  have h2 : cel w (st σ o i.toNatClampNeg v o) (.inr (0, n)) = .inl (w.2.1, n, .inl (upd (σ o) i.toNatClampNeg v)) := by rw [st_at]; rfl
  rw [← h2, cels_set hs (fun q hq => st_ne σ _ v hq)] at hP1
  exact hP1
theorem V.zast (hC : Cx μ w nL κ own cc d) {o n : Nat} {i v : Int32} (hd : decode cc pc = .ok (.bastore, 1)) (hs : μ.1[o]? = some (.inr (1, n))) (hin : vp_in i n) (hv : v &&& 1 = v) (k : V μ w nL κ (st σ o i.toNatClampNeg v) lo (pc + 1) r) : V μ w nL κ σ lo pc (.int v :: .int i :: .ref (w.1 o) :: r) := by
  obtain ⟨p, l, e, R, s, m, args, below, meth, c, Q, kc, ks⟩ := κ
  intro H locs ls hP hS hl
  refine va_zast hC.1 hC.2.1 hC.2.2.2.2.2.1 hP (cels_D σ hC.2.2.2.2.2.2.1) hS o 1 (cels_get hs) rfl hin hd (fun H1 locs1 hP1 _ hS1 => k H1 locs1 ls ?_ hS1 hl)
  have hb : vp_nar .boolean v = v := hv
  rw [hb] at hP1
  have h2 : cel w (st σ o i.toNatClampNeg v o) (.inr (1, n)) = .inl (w.2.2.1, n, .inl (upd (σ o) i.toNatClampNeg v)) := by rw [st_at]; rfl
  rw [← h2, cels_set hs (fun q hq => st_ne σ _ v hq)] at hP1
  exact hP1
theorem V.alen0 (hC : Cx μ w nL κ own cc d) {o n : Nat} {v : Int32} (hd : decode cc pc = .ok (.arraylength, 1)) (hs : μ.1[o]? = some (.inr (0, n))) (hv : Int32.ofNat n = v) (k : V μ w nL κ σ lo (pc + 1) (.int v :: r)) : V μ w nL κ σ lo pc (.ref (w.1 o) :: r) := by
  obtain ⟨p, l, e, R, s, m, args, below, meth, c, Q, kc, ks⟩ := κ
  exact fun H locs ls hP hS hl => va_alen hC.1 hC.2.1 hC.2.2.2.2.2.1 hP o 0 (cels_get hs) rfl hv hd (k H locs ls hP hS hl)
theorem V.alenq (hC : Cx μ w nL κ own cc d) {o n b : Nat} {v : Int32} (hd : decode cc pc = .ok (.arraylength, 1)) (hs : μ.1[o]? = some (.inr (b + 2, n))) (hv : Int32.ofNat n = v) (k : V μ w nL κ σ lo (pc + 1) (.int v :: r)) : V μ w nL κ σ lo pc (.ref (w.1 o) :: r) := by
  obtain ⟨p, l, e, R, s, m, args, below, meth, c, Q, kc, ks⟩ := κ
  exact fun H locs ls hP hS hl => va_alen hC.1 hC.2.1 hC.2.2.2.2.2.1 hP o 2 (cels_get hs) rfl hv hd (k H locs ls hP hS hl)
/-! contracts -/
def rmD (d : Nat) : Room := { frames := d, cells := 0, slots := 0, locals := 64 * d }
def wsM (y : MethodName) (cc : ByteArray) (nL : Nat) (ret : Option FieldType) : List Cond := Cond.code y cc nL ret :: tbl
def PcW (μ : Wk) (w : Wd) (As : List Value) (σ : Hp) : Array Value → State → Prop := va_Pc As (fun U => va_P w.2.2.2.2 classes (cels μ.1 w σ) U.heap ∧ va_K w.2.2.2.2 classes (tysW w) U ∧ Inj μ w ∧ ExtOk μ ∧ μ.2 w (AW μ w) U U.heap)
def QcW (μ : Wk) (w : Wd) (P : Option Value → Hp → Prop) : Array Value → State → Outcome → State → Prop := fun _ s oc t => (∃ (v : Option Value) (τ : Hp), oc = .returned v ∧ P v τ ∧ va_P w.2.2.2.2 classes (cels μ.1 w τ) t.heap) ∧ va_F (AW μ w) s t
/-- method y, with these arguments over this picture, returns with P of its answer and of the picture behind it -/
def Ct (μ : Wk) (w : Wd) (y : MethodName) (cc : ByteArray) (nL : Nat) (ret : Option FieldType) (d : Nat) (As : List Value) (σ : Hp) (P : Option Value → Hp → Prop) : Prop := ∀ l : Launch, Met l y (wsM y cc nL ret) (rmD d) (PcW μ w As σ) (QcW μ w P) 0 0 (AW μ w)
theorem PcW_blind (As : List Value) (σ : Hp) : FrameBlind (PcW μ w As σ) := by
  intro a U g mk q
  obtain ⟨q0, qP, qK, qI, qE, qX⟩ := q
  exact ⟨q0, qP, va_K.moved (u := U) (U := U.calling g mk a) (Vm.Alike.refl U.vm) qK, qI, qE, qE w _ U (U.calling g mk a) (State.WarmedH.refl U) (fun _ _ _ => rfl) qX⟩
theorem PcW_at {p : Program} {l : Launch} {e : Env} {R : Room} {s : State} {m : MethodId} {args : Array Value} {below : List Frame} {meth : Method} {c : Code} {Q : State → Prop} {kc ks : Nat} (hC : Cx μ w nL (p, l, e, R, s, m, args, below, meth, c, Q, kc, ks) own cc d) (hE : ExtOk μ) {As : List Value} {H : Heap} {locs : List Loc} (hP : va_P w.2.2.2.2 classes (cels μ.1 w σ) H) (hS : va_S (AW μ w) s.heap H locs) : ∀ U : State, U.heap = H → s.WarmedH U.vm → PcW μ w As σ As.toArray U := by
  intro U hU hW
  refine ⟨rfl, by rw [hU]; exact hP, va_K.moved hW.alike hC.2.2.2.2.2.1, hC.2.2.2.2.2.2.1, hE, hE w _ s U hW (fun q h1 h2 => by rw [hU]; exact hS.2.1 q h1 h2) hC.2.2.2.2.2.2.2.1⟩
theorem W_ofRun {p : Program} {l : Launch} {e : Env} {R : Room} {s : State} {m : MethodId} {args : Array Value} {below : List Frame} {meth : Method} {c : Code} {Q : State → Prop} {kc ks : Nat} {H : Heap} {locs : List Loc} {ls : Array Slot} {stk rest : List Value} {a : Array Value} {P : Option Value → Hp → Prop}
    (hr : va_Run p l e R s m args below meth c H locs kc ks 0 0 (F0 m pc ls stk) rest (QcW μ w P a) (AW μ w)) (hS : va_S (AW μ w) s.heap H locs)
    (kk : ∀ (v : Option Value) (τ : Hp) (H1 : Heap) (locs1 : List Loc), P v τ → va_P w.2.2.2.2 classes (cels μ.1 w τ) H1 → va_S (AW μ w) s.heap H1 locs1 → W p l e R s m args below meth c H1 locs1 kc ks Q (F0 m (pc + 3) ls (v.toList ++ rest))) : W p l e R s m args below meth c H locs kc ks Q (F0 m pc ls stk) := by
  intro T hT X
  obtain ⟨v, st₀, t, T', L, h0, X', hL, e1, e2, ⟨⟨v', τ, hv, hp, hb⟩, hz, hk⟩, stp⟩ := hr T hT X
  cases hv
  rw [h0] at hz hk
  obtain ⟨t2, a1, b1⟩ := kk v τ T'.heap (locs ++ L) hp (by rw [e1]; exact hb)
    ⟨Nat.le_trans hS.1 (by rw [e1]; exact hz), fun q h1 h2 => by rw [e1, hk q (Nat.lt_of_lt_of_le h1 hS.1) h2]; exact hS.2.1 q h1 h2, fun q hq => by
      rcases List.mem_append.mp hq with h | h
      · exact hS.2.2 q h
      · exact hL q h⟩ T' rfl X'
  exact ⟨t2, stp t2 a1, b1⟩
/-- what the tables say of a method that may be called: n its arguments without the object -/
def MokV (y : MethodName) (cc : ByteArray) (nL : Nat) (ret : Option FieldType) (n : Nat) : Prop := (Cond.code y cc nL ret ∈ tbl ∧ Cond.initialized y.cls ∈ tbl) ∧ (Cond.instanceMethod y ∈ tbl ∧ Cond.selects y.cls y y ∈ lw_tbl ∧ Cond.selects y.cls y y ∈ tbl) ∧ (y.cls ≠ "java/lang/invoke/MethodHandle" ∧ y.cls ≠ "java/lang/invoke/VarHandle") ∧ (parseMethodDescriptor y.desc).map (fun d => d.parameters.length) = some n
def MokS (y : MethodName) (cc : ByteArray) (nL : Nat) (ret : Option FieldType) (n : Nat) : Prop := (Cond.code y cc nL ret ∈ tbl ∧ Cond.initialized y.cls ∈ tbl) ∧ Cond.static y ∈ tbl ∧ (y.cls ≠ "java/lang/invoke/MethodHandle" ∧ y.cls ≠ "java/lang/invoke/VarHandle") ∧ (parseMethodDescriptor y.desc).map (fun d => d.parameters.length) = some n
theorem arity_of {y : MethodName} {n : Nat} (h : (parseMethodDescriptor y.desc).map (fun d => d.parameters.length) = some n) : ∀ sig, parseMethodDescriptor y.desc = some sig → n = sig.parameters.length := by
  intro sig hs
  rw [hs] at h
  exact (Option.some.inj h).symm
theorem ws_pay {s : State} {args : Array Value} {y : MethodName} {c2 : ByteArray} {n2 : Nat} {ret : Option FieldType} (ht : ∀ x ∈ tbl, x.before args s = true) (hc : Cond.code y c2 n2 ret ∈ tbl) : ∀ x ∈ wsM y c2 n2 ret, ∀ (a' : Array Value) (U : State), s.WarmedH U.vm → x.before a' U = true := by
  intro x hx a' U hW
  have hx' : x ∈ tbl := by
    rcases List.mem_cons.mp hx with rfl | h
    · exact hc
    · exact h
  exact word_at hW (tbl_good x hx') (ht x hx')
theorem V.callV (hC : Cx μ w nL κ own cc d) (hE : ExtOk μ) {i o ci N n n2 d2 : Nat} {y : MethodName} {c2 : ByteArray} {ret : Option FieldType} {C : String} {T : u_T} {fs : List (Nat ⊕ Nat)} {As : List Value} {P : Option Value → Hp → Prop} {stk : List Value}
    (hM : Ct μ w y c2 n2 ret d2 (.ref (w.1 o) :: As) σ P) (hd : decode cc pc = .ok (.invokevirtual i, 3)) (hy : MokV y c2 n2 ret n) (hw : Cond.methodLink own i y ∈ tbl) (hs : μ.1[o]? = some (.inl (ci, fs))) (hc : classes[ci]? = some (C, T, N)) (hcls : y.cls = C) (hn : As.length = n) (hst : stk = As.reverse ++ .ref (w.1 o) :: r) (hroom : Nat.ble (d2 + 1) d = true) (hloc : Nat.ble n2 45 = true) (hW : (r.map fun v => v.category).sum ≤ 8)
    (k : ∀ v τ, P v τ → V μ w nL κ τ lo (pc + 3) (v.toList ++ r)) : V μ w nL κ σ lo pc stk := by
  obtain ⟨p, l, e, R, s, m, args, below, meth, c, Q, kc, ks⟩ := κ
  intro H locs ls hP hS hl
  have hR := Nat.le_of_ble_eq_true hroom
  have hL := Nat.le_of_ble_eq_true hloc
  obtain ⟨hx, hb, hml, hown, hts, hK, hI, hX, hf, hlo, hkc, hks⟩ := id hC
  refine W_ofRun (va_runV (Ts := tbl) (As := As) (rest := r) ⟨hx, hb, hml, hown, hts⟩ (hM l) (C := C) ⟨⟨rfl, rfl, ?_, ?_, ws_pay hts hy.1.1, List.mem_cons_self, hts _ hy.1.1, hts _ hy.1.2, hy.2.2.1, arity_of hy.2.2.2, hts _ hw⟩, hts _ hy.2.1.1, by rw [← hcls]; exact hts _ hy.2.1.2.2⟩ ⟨PcW_blind _ _, va_recv hK hP hc (cels_get hs), PcW_at hC hE hP hS⟩ rfl hn hl.1 hst (lv_room hW) hd ⟨hkc, hks⟩) hS (fun v τ H1 locs1 hp hP1 hS1 => k v τ hp H1 locs1 ls hP1 hS1 hl)
  · exact Nat.le_trans hR hf
  · refine Nat.le_trans ?_ hlo
    show 8 + (n2 + 11) + 64 * d2 ≤ 64 * d
    omega
theorem V.callS (hC : Cx μ w nL κ own cc d) (hE : ExtOk μ) {i n n2 d2 : Nat} {y : MethodName} {c2 : ByteArray} {ret : Option FieldType} {As : List Value} {P : Option Value → Hp → Prop} {stk : List Value}
    (hM : Ct μ w y c2 n2 ret d2 As σ P) (hd : decode cc pc = .ok (.invokestatic i, 3)) (hy : MokS y c2 n2 ret n) (hw : Cond.methodLink own i y ∈ tbl) (hn : As.length = n) (hst : stk = As.reverse ++ r) (hroom : Nat.ble (d2 + 1) d = true) (hloc : Nat.ble n2 45 = true) (hW : (r.map fun v => v.category).sum ≤ 8)
    (k : ∀ v τ, P v τ → V μ w nL κ τ lo (pc + 3) (v.toList ++ r)) : V μ w nL κ σ lo pc stk := by
  obtain ⟨p, l, e, R, s, m, args, below, meth, c, Q, kc, ks⟩ := κ
  intro H locs ls hP hS hl
  have hR := Nat.le_of_ble_eq_true hroom
  have hL := Nat.le_of_ble_eq_true hloc
  obtain ⟨hx, hb, hml, hown, hts, hK, hI, hX, hf, hlo, hkc, hks⟩ := id hC
  refine W_ofRun (va_runS (Ts := tbl) (As := As) (rest := r) ⟨hx, hb, hml, hown, hts⟩ (hM l) ⟨⟨rfl, rfl, ?_, ?_, ws_pay hts hy.1.1, List.mem_cons_self, hts _ hy.1.1, hts _ hy.1.2, hy.2.2.1, arity_of hy.2.2.2, hts _ hw⟩, hts _ hy.2.1⟩ ⟨PcW_blind _ _, PcW_at hC hE hP hS⟩ rfl hn hl.1 hst (lv_room hW) hd ⟨hkc, hks⟩) hS (fun v τ H1 locs1 hp hP1 hS1 => k v τ hp H1 locs1 ls hP1 hS1 hl)
  · exact Nat.le_trans hR hf
  · refine Nat.le_trans ?_ hlo
    show 8 + (n2 + 11) + 64 * d2 ≤ 64 * d
    omega
/-- a static method of a nest mate: its link stands outside the tables' words -/
theorem V.callH (hC : Cx μ w nL κ own cc d) (hE : ExtOk μ) {i n n2 d2 : Nat} {y : MethodName} {host : String} {c2 : ByteArray} {ret : Option FieldType} {As : List Value} {P : Option Value → Hp → Prop} {stk : List Value}
    (hM : Ct μ w y c2 n2 ret d2 As σ P) (hd : decode cc pc = .ok (.invokestatic i, 3)) (hy : MokS y c2 n2 ret n) (hw : ∀ A U H, μ.2 w A U H → va_Nw (.methodLinkNest own i y host) U) (hn : As.length = n) (hst : stk = As.reverse ++ r) (hroom : Nat.ble (d2 + 1) d = true) (hloc : Nat.ble n2 45 = true) (hW : (r.map fun v => v.category).sum ≤ 8)
    (k : ∀ v τ, P v τ → V μ w nL κ τ lo (pc + 3) (v.toList ++ r)) : V μ w nL κ σ lo pc stk := by
  obtain ⟨p, l, e, R, s, m, args, below, meth, c, Q, kc, ks⟩ := κ
  intro H locs ls hP hS hl
  have hR := Nat.le_of_ble_eq_true hroom
  have hL := Nat.le_of_ble_eq_true hloc
  obtain ⟨hx, hb, hml, hown, hts, hK, hI, hX, hf, hlo, hkc, hks⟩ := id hC
  refine W_ofRun (va_runSN (Ts := tbl) (As := As) (rest := r) (host := host) ⟨hx, hb, hml, hown, hts⟩ (hM l) ⟨⟨⟨rfl, rfl, ?_, ?_, ws_pay hts hy.1.1, List.mem_cons_self⟩, hts _ hy.1.1, hts _ hy.1.2, hy.2.2.1, arity_of hy.2.2.2, va_Nw.use rfl (hw _ _ _ hX)⟩, hts _ hy.2.1, trivial⟩ ⟨PcW_blind _ _, PcW_at hC hE hP hS⟩ rfl hn hl.1 hst (lv_room hW) hd ⟨hkc, hks⟩) hS (fun v τ H1 locs1 hp hP1 hS1 => k v τ hp H1 locs1 ls hP1 hS1 hl)
  · exact Nat.le_trans hR hf
  · refine Nat.le_trans ?_ hlo
    show 8 + (n2 + 11) + 64 * d2 ≤ 64 * d
    omega
/-! what stands outside the world, and is never written -/
theorem V.gets (hC : Cx μ w nL κ own cc d) {i : Nat} {C n dd : String} {v : Value} (hd : decode cc pc = .ok (.getstatic i, 3)) (hZ : ∀ A U H, μ.2 w A U H → va_Z C n dd v A U H) (hw : Cond.fieldLink own i C n dd ∈ tbl) (k : V μ w nL κ σ lo (pc + 3) (v :: r)) : V μ w nL κ σ lo pc r := by
  obtain ⟨p, l, e, R, s, m, args, below, meth, c, Q, kc, ks⟩ := κ
  exact fun H locs ls hP hS hl => va_gets hC.1 hC.2.1 (hZ _ _ _ hC.2.2.2.2.2.2.2.1) hS hC.2.2.2.1 (hC.2.2.2.2.1 _ hw) (fun _ h9 => h9) hd (k H locs ls hP hS hl)
theorem V.getX (hC : Cx μ w nL κ own cc d) {i q : Nat} {C n dd : String} {v : Value} (hd : decode cc pc = .ok (.getfield i, 3)) (hZ : ∀ A U H, μ.2 w A U H → va_OF C n dd v q A U H) (hw : Cond.fieldLink own i C n dd ∈ tbl) (k : V μ w nL κ σ lo (pc + 3) (v :: r)) : V μ w nL κ σ lo pc (.ref q :: r) := by
  obtain ⟨p, l, e, R, s, m, args, below, meth, c, Q, kc, ks⟩ := κ
  exact fun H locs ls hP hS hl => vk_getf hC.1 hC.2.1 (hZ _ _ _ hC.2.2.2.2.2.2.2.1) hS hC.2.2.2.1 (hC.2.2.2.2.1 _ hw) (fun _ h9 => h9) hd (k H locs ls hP hS hl)
theorem V.tabi (hC : Cx μ w nL κ own cc d) {q n : Nat} {f : Nat → Value} {i x : Int32} (hd : decode cc pc = .ok (.iaload, 1)) (hT : ∀ A U H, μ.2 w A U H → va_T .int q n f A U H) (hin : vp_in i n) (hx : f i.toNatClampNeg = .int x) (k : V μ w nL κ σ lo (pc + 1) (.int x :: r)) : V μ w nL κ σ lo pc (.int i :: .ref q :: r) := by
  obtain ⟨p, l, e, R, s, m, args, below, meth, c, Q, kc, ks⟩ := κ
  exact fun H locs ls hP hS hl => va_ti hC.1 hC.2.1 (hT _ _ _ hC.2.2.2.2.2.2.2.1) hS hin hx hd (k H locs ls hP hS hl)
theorem V.tabb (hC : Cx μ w nL κ own cc d) {q n : Nat} {f : Nat → Value} {i x : Int32} (hd : decode cc pc = .ok (.baload, 1)) (hT : ∀ A U H, μ.2 w A U H → va_T .byte q n f A U H) (hin : vp_in i n) (hx : f i.toNatClampNeg = .int x) (k : V μ w nL κ σ lo (pc + 1) (.int x :: r)) : V μ w nL κ σ lo pc (.int i :: .ref q :: r) := by
  obtain ⟨p, l, e, R, s, m, args, below, meth, c, Q, kc, ks⟩ := κ
  exact fun H locs ls hP hS hl => va_tb hC.1 hC.2.1 (hT _ _ _ hC.2.2.2.2.2.2.2.1) hS hin hx hd (k H locs ls hP hS hl)
theorem V.tlen (hC : Cx μ w nL κ own cc d) {q n : Nat} {ty : FieldType} {f : Nat → Value} {v : Int32} (hd : decode cc pc = .ok (.arraylength, 1)) (hT : ∀ A U H, μ.2 w A U H → va_T ty q n f A U H) (hv : Int32.ofNat n = v) (k : V μ w nL κ σ lo (pc + 1) (.int v :: r)) : V μ w nL κ σ lo pc (.ref q :: r) := by
  obtain ⟨p, l, e, R, s, m, args, below, meth, c, Q, kc, ks⟩ := κ
  exact fun H locs ls hP hS hl => va_tlen hC.1 hC.2.1 (hT _ _ _ hC.2.2.2.2.2.2.2.1) hS hv hd (k H locs ls hP hS hl)
/-- a call on an object that stands outside the world -/
theorem V.callX (hC : Cx μ w nL κ own cc d) (hE : ExtOk μ) {i q n n2 d2 : Nat} {y : MethodName} {c2 : ByteArray} {ret : Option FieldType} {As : List Value} {P : Option Value → Hp → Prop} {stk : List Value}
    (hM : Ct μ w y c2 n2 ret d2 (.ref q :: As) σ P) (hd : decode cc pc = .ok (.invokevirtual i, 3)) (hy : MokV y c2 n2 ret n) (hw : Cond.methodLink own i y ∈ tbl) (hO : ∀ A U H, μ.2 w A U H → va_O y.cls q A U H) (hn : As.length = n) (hst : stk = As.reverse ++ .ref q :: r) (hroom : Nat.ble (d2 + 1) d = true) (hloc : Nat.ble n2 45 = true) (hW : (r.map fun v => v.category).sum ≤ 8)
    (k : ∀ v τ, P v τ → V μ w nL κ τ lo (pc + 3) (v.toList ++ r)) : V μ w nL κ σ lo pc stk := by
  obtain ⟨p, l, e, R, s, m, args, below, meth, c, Q, kc, ks⟩ := κ
  intro H locs ls hP hS hl
  have hR := Nat.le_of_ble_eq_true hroom
  have hL := Nat.le_of_ble_eq_true hloc
  obtain ⟨hx, hb, hml, hown, hts, hK, hI, hX, hf, hlo, hkc, hks⟩ := id hC
  have hrec : ∃ cell : Cell, H[q]? = some cell ∧ cell.vm.isStatics = false ∧ s.vm.findClass y.cls = some cell.cls := by
    obtain ⟨cell, h1, h2, h3, -⟩ := (hO _ _ _ hX).kept hS.2.1
    exact ⟨cell, h1, h2, h3⟩
  refine W_ofRun (va_runV (Ts := tbl) (As := As) (rest := r) ⟨hx, hb, hml, hown, hts⟩ (hM l) (C := y.cls) ⟨⟨rfl, rfl, ?_, ?_, ws_pay hts hy.1.1, List.mem_cons_self, hts _ hy.1.1, hts _ hy.1.2, hy.2.2.1, arity_of hy.2.2.2, hts _ hw⟩, hts _ hy.2.1.1, hts _ hy.2.1.2.2⟩ ⟨PcW_blind _ _, hrec, PcW_at hC hE hP hS⟩ rfl hn hl.1 hst (lv_room hW) hd ⟨hkc, hks⟩) hS (fun v τ H1 locs1 hp hP1 hS1 => k v τ hp H1 locs1 ls hP1 hS1 hl)
  · exact Nat.le_trans hR hf
  · refine Nat.le_trans ?_ hlo
    show 8 + (n2 + 11) + 64 * d2 ≤ 64 * d
    omega
/-- System.arraycopy of int rows -/
theorem V.copyi (hC : Cx μ w nL κ own cc d) {i o0 o1 n0 n1 : Nat} {sp dp n : Int32} (hd : decode cc pc = .ok (.invokestatic i, 3)) (hw : Cond.methodLink own i arraycopyName ∈ tbl) (hnat : Cond.native arraycopyName ∈ tbl) (hst : Cond.static arraycopyName ∈ tbl) (hini : Cond.initialized "java/lang/System" ∈ tbl)
    (h0 : μ.1[o0]? = some (.inr (0, n0))) (h1 : μ.1[o1]? = some (.inr (0, n1))) (a1 : ¬ sp < 0) (a2 : ¬ dp < 0) (a3 : ¬ n < 0) (a4 : sp.toNatClampNeg + n.toNatClampNeg ≤ n0) (a5 : dp.toNatClampNeg + n.toNatClampNeg ≤ n1) (hroom : Nat.ble 1 d = true) (hW : Nat.ble ((r.map fun v => v.category).sum + (nativeFrameWords "java/lang/System" "arraycopy" 5 + 11)) 64 = true)
    (k : V μ w nL κ (fun q => if q = o1 then va_cpy (σ o0) (σ o1) sp.toNatClampNeg dp.toNatClampNeg n.toNatClampNeg else σ q) lo (pc + 3) r) : V μ w nL κ σ lo pc (.int n :: .int dp :: .ref (w.1 o1) :: .int sp :: .ref (w.1 o0) :: r) := by
  obtain ⟨p, l, e, R, s, m, args, below, meth, c, Q, kc, ks⟩ := κ
  intro H locs ls hP hS hl
  have hR := Nat.le_of_ble_eq_true hroom
  have hL := Nat.le_of_ble_eq_true hW
  obtain ⟨hx, hb, hml, hown, hts, hK, hI, hX, hf, hlo, hkc, hks⟩ := id hC
  refine va_copyi hx hb (by rw [hml]; exact hl.1.symm) hown (hts _ hw) (hts _ hnat) (hts _ hst) (hts _ hini) hK hP (cels_D σ hI) hS o0 o1 0 0 (cels_get h0) (cels_get h1) rfl rfl rfl a1 a2 a3 a4 a5 (fun _ _ => rfl) (Nat.le_trans hR hf) (Nat.le_trans hL (Nat.le_trans (by omega) hlo)) hd (fun H1 locs1 hP1 _ hS1 => k H1 locs1 ls ?_ hS1 hl)
  refine Eq.mp (congrArg (fun x => va_P w.2.2.2.2 classes x H1) ?_) hP1
  have h2 := cels_set (σ := σ) (w := w) (τ := fun q => if q = o1 then va_cpy (σ o0) (σ o1) sp.toNatClampNeg dp.toNatClampNeg n.toNatClampNeg else σ q) h1 (fun q hq => if_neg hq)
  rw [← h2]
  simp only [if_pos]
  rfl
theorem Ct.ofV {y : MethodName} {nL : Nat} {ret : Option FieldType} {As : List Value} {P : Option Value → Hp → Prop} {C : String} (hE : ExtOk μ) (hy : plainName y.cls = true) (hcl : y.cls = C) (hlo : asl 0 lo = lv_args 0 As) (hlen : Nat.ble (lg_sl As).length nL = true)
    (body : ∀ κ : Kx, Cx μ w nL κ C cc d → (∀ (τ : Hp) (lo : List (Option Value)) (pc : Nat) (v : Option Value), P v τ → ((v = none ∧ ret = none ∧ decode cc pc = .ok (.return_, 1)) ∨ (∃ x ty, v = some (.int x) ∧ ret = some ty ∧ narrow ty (.int x) = .int x ∧ decode cc pc = .ok (.ireturn, 1)) ∨ (∃ x, v = some (.long x) ∧ ret = some .long ∧ decode cc pc = .ok (.lreturn, 1)) ∨ (∃ q nm, v = some (.ref q) ∧ ret = some (.object nm) ∧ decode cc pc = .ok (.areturn, 1))) → V μ w nL κ τ lo pc v.toList) → V μ w nL κ σ lo 0 []) : Ct μ w y cc nL ret d As σ P := by
  intro l
  refine Met.ofW (cc := cc) (maxL := nL) (ret := ret) hy rfl ?_
  intro p e s m args below meth c s₁ B hml hv
  obtain ⟨rfl, hP, hK, hI, -, hX⟩ := hv
  have hts := atoms_spec (ws := wsM y cc nL ret) B.pre
  have hown : s.vm.findClass C = some m.cls := by rw [← hcl]; exact findClass_of_methodNamed B.named
  have hl := lv_entry As (n := nL) (Nat.le_of_ble_eq_true hlen)
  rw [lg_entry_eq]
  generalize (lg_sl As ++ List.replicate (nL - (lg_sl As).length) Slot.unset).toArray = ls at hl ⊢
  have hl' : lhas ls nL lo := by unfold lhas; rw [hlo]; exact hl
  refine body (p, l, e, rmD d, s, m, As.toArray, below, meth, c, MQ below (QcW μ w P) As.toArray s 0 0 (AW μ w), 0, 0) ⟨B.exec, B.bytes, hml, hown, fun x hx => hts x (List.mem_cons_of_mem _ hx), hK, hI, hX, Nat.le_refl _, Nat.le_refl _, Nat.le_refl _, Nat.le_refl _⟩ ?_ s.heap [] ls hP va_S.rf hl'
  intro τ lo' pc v hp hret H locs ls' hP' hS' hl'
  have hlocks := B.notSynchronized
  have hr := B.returns
  have hq : ∀ t : State, t.heap = H → s.WarmedH t.vm → QcW μ w P As.toArray s (.returned v) t := fun t ht _ => ⟨⟨v, τ, rfl, hp, by rw [ht]; exact hP'⟩, hS'.F ht⟩
  rcases hret with ⟨rfl, h1, h2⟩ | ⟨x, ty, rfl, h1, h3, h2⟩ | ⟨x, rfl, h1, h2⟩ | ⟨q, nm, rfl, h1, h2⟩
  · exact W.vret B.exec B.bytes (hr.trans h1) hq hS'.2.2 h2 hlocks
  · exact W.zret (ty := ty) B.exec B.bytes (hr.trans h1) h3 hq hS'.2.2 h2 hlocks
  · exact W.lret B.exec B.bytes (hr.trans h1) hq hS'.2.2 h2 hlocks
  · exact W.aret B.exec B.bytes (hr.trans h1) (Or.inl ⟨nm, rfl⟩) (Or.inr ⟨q, rfl⟩) hq hS'.2.2 h2 hlocks
end RULES
end
section
abbrev ix (i : Int32) : Nat := i.toNatClampNeg
section RULES2
variable {μ : Wk} {w : Wd} {nL : Nat} {κ : Kx} {σ : Hp} {lo : List (Option Value)} {pc : Nat} {r : List Value} {own : String} {cc : ByteArray} {d : Nat}
theorem V.getI (hC : Cx μ w nL κ own cc d) {o ci j i N q : Nat} {C : String} {T : u_T} {fs : List (Nat ⊕ Nat)} (hd : decode cc pc = .ok (.getfield i, 3)) (hs : μ.1[o]? = some (.inl (ci, fs))) (hc : classes[ci]? = some (C, T, N)) (hu : ∀ x ∈ u_ws C T N, x ∈ tbl) (hj : Nat.ble (j + 1) N = true) (hf : fs[j]? = some (.inl q)) (hw : Cond.fieldLink own i (T j).1 (T j).2.1 (T j).2.2.1 ∈ tbl) (k : V μ w nL κ σ lo (pc + 3) (.int (σ o q) :: r)) : V μ w nL κ σ lo pc (.ref (w.1 o) :: r) :=
  V.get hC hd hs hc hu hj hf hw k
theorem V.getR (hC : Cx μ w nL κ own cc d) {o ci j i N q : Nat} {C : String} {T : u_T} {fs : List (Nat ⊕ Nat)} (hd : decode cc pc = .ok (.getfield i, 3)) (hs : μ.1[o]? = some (.inl (ci, fs))) (hc : classes[ci]? = some (C, T, N)) (hu : ∀ x ∈ u_ws C T N, x ∈ tbl) (hj : Nat.ble (j + 1) N = true) (hf : fs[j]? = some (.inr q)) (hw : Cond.fieldLink own i (T j).1 (T j).2.1 (T j).2.2.1 ∈ tbl) (k : V μ w nL κ σ lo (pc + 3) (.ref (w.1 q) :: r)) : V μ w nL κ σ lo pc (.ref (w.1 o) :: r) :=
  V.get hC hd hs hc hu hj hf hw k

def CtI (μ : Wk) (w : Wd) (y : MethodName) (cc : ByteArray) (nL : Nat) (ret : Option FieldType) (d : Nat) (As : List Value) (σ : Hp) (P : Int32 → Hp → Prop) : Prop := Ct μ w y cc nL ret d As σ (fun v τ => ∃ x, v = some (.int x) ∧ P x τ)
theorem V.callVI (hC : Cx μ w nL κ own cc d) (hE : ExtOk μ) {i o ci N n n2 d2 : Nat} {y : MethodName} {c2 : ByteArray} {ret : Option FieldType} {C : String} {T : u_T} {fs : List (Nat ⊕ Nat)} {As : List Value} {P : Int32 → Hp → Prop} {stk : List Value}
    (hM : CtI μ w y c2 n2 ret d2 (.ref (w.1 o) :: As) σ P) (hd : decode cc pc = .ok (.invokevirtual i, 3)) (hy : MokV y c2 n2 ret n) (hw : Cond.methodLink own i y ∈ tbl) (hs : μ.1[o]? = some (.inl (ci, fs))) (hc : classes[ci]? = some (C, T, N)) (hcls : y.cls = C) (hn : As.length = n) (hst : stk = As.reverse ++ .ref (w.1 o) :: r) (hroom : Nat.ble (d2 + 1) d = true) (hloc : Nat.ble n2 45 = true) (hW : (r.map fun v => v.category).sum ≤ 8)
    (k : ∀ x τ, P x τ → V μ w nL κ τ lo (pc + 3) (.int x :: r)) : V μ w nL κ σ lo pc stk :=
  V.callV hC hE hM hd hy hw hs hc hcls hn hst hroom hloc hW (fun v τ hp => by obtain ⟨x, rfl, h⟩ := hp; exact k x τ h)
theorem V.callXI (hC : Cx μ w nL κ own cc d) (hE : ExtOk μ) {i q n n2 d2 : Nat} {y : MethodName} {c2 : ByteArray} {ret : Option FieldType} {As : List Value} {P : Int32 → Hp → Prop} {stk : List Value}
    (hM : CtI μ w y c2 n2 ret d2 (.ref q :: As) σ P) (hd : decode cc pc = .ok (.invokevirtual i, 3)) (hy : MokV y c2 n2 ret n) (hw : Cond.methodLink own i y ∈ tbl) (hO : ∀ A U H, μ.2 w A U H → va_O y.cls q A U H) (hn : As.length = n) (hst : stk = As.reverse ++ .ref q :: r) (hroom : Nat.ble (d2 + 1) d = true) (hloc : Nat.ble n2 45 = true) (hW : (r.map fun v => v.category).sum ≤ 8)
    (k : ∀ x τ, P x τ → V μ w nL κ τ lo (pc + 3) (.int x :: r)) : V μ w nL κ σ lo pc stk :=
  V.callX hC hE hM hd hy hw hO hn hst hroom hloc hW (fun v τ hp => by obtain ⟨x, rfl, h⟩ := hp; exact k x τ h)
theorem V.callSI (hC : Cx μ w nL κ own cc d) (hE : ExtOk μ) {i n n2 d2 : Nat} {y : MethodName} {c2 : ByteArray} {ret : Option FieldType} {As : List Value} {P : Int32 → Hp → Prop} {stk : List Value}
    (hM : CtI μ w y c2 n2 ret d2 As σ P) (hd : decode cc pc = .ok (.invokestatic i, 3)) (hy : MokS y c2 n2 ret n) (hw : Cond.methodLink own i y ∈ tbl) (hn : As.length = n) (hst : stk = As.reverse ++ r) (hroom : Nat.ble (d2 + 1) d = true) (hloc : Nat.ble n2 45 = true) (hW : (r.map fun v => v.category).sum ≤ 8)
    (k : ∀ x τ, P x τ → V μ w nL κ τ lo (pc + 3) (.int x :: r)) : V μ w nL κ σ lo pc stk :=
  V.callS hC hE hM hd hy hw hn hst hroom hloc hW (fun v τ hp => by obtain ⟨x, rfl, h⟩ := hp; exact k x τ h)
theorem V.callHI (hC : Cx μ w nL κ own cc d) (hE : ExtOk μ) {i n n2 d2 : Nat} {y : MethodName} {host : String} {c2 : ByteArray} {ret : Option FieldType} {As : List Value} {P : Int32 → Hp → Prop} {stk : List Value}
    (hM : CtI μ w y c2 n2 ret d2 As σ P) (hd : decode cc pc = .ok (.invokestatic i, 3)) (hy : MokS y c2 n2 ret n) (hw : ∀ A U H, μ.2 w A U H → va_Nw (.methodLinkNest own i y host) U) (hn : As.length = n) (hst : stk = As.reverse ++ r) (hroom : Nat.ble (d2 + 1) d = true) (hloc : Nat.ble n2 45 = true) (hW : (r.map fun v => v.category).sum ≤ 8)
    (k : ∀ x τ, P x τ → V μ w nL κ τ lo (pc + 3) (.int x :: r)) : V μ w nL κ σ lo pc stk :=
  V.callH hC hE hM hd hy hw hn hst hroom hloc hW (fun v τ hp => by obtain ⟨x, rfl, h⟩ := hp; exact k x τ h)
def CtL (μ : Wk) (w : Wd) (y : MethodName) (cc : ByteArray) (nL : Nat) (ret : Option FieldType) (d : Nat) (As : List Value) (σ : Hp) (P : Int64 → Hp → Prop) : Prop := Ct μ w y cc nL ret d As σ (fun v τ => ∃ x, v = some (.long x) ∧ P x τ)
theorem V.callVL (hC : Cx μ w nL κ own cc d) (hE : ExtOk μ) {i o ci N n n2 d2 : Nat} {y : MethodName} {c2 : ByteArray} {ret : Option FieldType} {C : String} {T : u_T} {fs : List (Nat ⊕ Nat)} {As : List Value} {P : Int64 → Hp → Prop} {stk : List Value}
    (hM : CtL μ w y c2 n2 ret d2 (.ref (w.1 o) :: As) σ P) (hd : decode cc pc = .ok (.invokevirtual i, 3)) (hy : MokV y c2 n2 ret n) (hw : Cond.methodLink own i y ∈ tbl) (hs : μ.1[o]? = some (.inl (ci, fs))) (hc : classes[ci]? = some (C, T, N)) (hcls : y.cls = C) (hn : As.length = n) (hst : stk = As.reverse ++ .ref (w.1 o) :: r) (hroom : Nat.ble (d2 + 1) d = true) (hloc : Nat.ble n2 45 = true) (hW : (r.map fun v => v.category).sum ≤ 8)
    (k : ∀ x τ, P x τ → V μ w nL κ τ lo (pc + 3) (.long x :: r)) : V μ w nL κ σ lo pc stk :=
  V.callV hC hE hM hd hy hw hs hc hcls hn hst hroom hloc hW (fun v τ hp => by obtain ⟨x, rfl, h⟩ := hp; exact k x τ h)
theorem V.callXL (hC : Cx μ w nL κ own cc d) (hE : ExtOk μ) {i q n n2 d2 : Nat} {y : MethodName} {c2 : ByteArray} {ret : Option FieldType} {As : List Value} {P : Int64 → Hp → Prop} {stk : List Value}
    (hM : CtL μ w y c2 n2 ret d2 (.ref q :: As) σ P) (hd : decode cc pc = .ok (.invokevirtual i, 3)) (hy : MokV y c2 n2 ret n) (hw : Cond.methodLink own i y ∈ tbl) (hO : ∀ A U H, μ.2 w A U H → va_O y.cls q A U H) (hn : As.length = n) (hst : stk = As.reverse ++ .ref q :: r) (hroom : Nat.ble (d2 + 1) d = true) (hloc : Nat.ble n2 45 = true) (hW : (r.map fun v => v.category).sum ≤ 8)
    (k : ∀ x τ, P x τ → V μ w nL κ τ lo (pc + 3) (.long x :: r)) : V μ w nL κ σ lo pc stk :=
  V.callX hC hE hM hd hy hw hO hn hst hroom hloc hW (fun v τ hp => by obtain ⟨x, rfl, h⟩ := hp; exact k x τ h)
theorem V.callSL (hC : Cx μ w nL κ own cc d) (hE : ExtOk μ) {i n n2 d2 : Nat} {y : MethodName} {c2 : ByteArray} {ret : Option FieldType} {As : List Value} {P : Int64 → Hp → Prop} {stk : List Value}
    (hM : CtL μ w y c2 n2 ret d2 As σ P) (hd : decode cc pc = .ok (.invokestatic i, 3)) (hy : MokS y c2 n2 ret n) (hw : Cond.methodLink own i y ∈ tbl) (hn : As.length = n) (hst : stk = As.reverse ++ r) (hroom : Nat.ble (d2 + 1) d = true) (hloc : Nat.ble n2 45 = true) (hW : (r.map fun v => v.category).sum ≤ 8)
    (k : ∀ x τ, P x τ → V μ w nL κ τ lo (pc + 3) (.long x :: r)) : V μ w nL κ σ lo pc stk :=
  V.callS hC hE hM hd hy hw hn hst hroom hloc hW (fun v τ hp => by obtain ⟨x, rfl, h⟩ := hp; exact k x τ h)
theorem V.callHL (hC : Cx μ w nL κ own cc d) (hE : ExtOk μ) {i n n2 d2 : Nat} {y : MethodName} {host : String} {c2 : ByteArray} {ret : Option FieldType} {As : List Value} {P : Int64 → Hp → Prop} {stk : List Value}
    (hM : CtL μ w y c2 n2 ret d2 As σ P) (hd : decode cc pc = .ok (.invokestatic i, 3)) (hy : MokS y c2 n2 ret n) (hw : ∀ A U H, μ.2 w A U H → va_Nw (.methodLinkNest own i y host) U) (hn : As.length = n) (hst : stk = As.reverse ++ r) (hroom : Nat.ble (d2 + 1) d = true) (hloc : Nat.ble n2 45 = true) (hW : (r.map fun v => v.category).sum ≤ 8)
    (k : ∀ x τ, P x τ → V μ w nL κ τ lo (pc + 3) (.long x :: r)) : V μ w nL κ σ lo pc stk :=
  V.callH hC hE hM hd hy hw hn hst hroom hloc hW (fun v τ hp => by obtain ⟨x, rfl, h⟩ := hp; exact k x τ h)
def CtR (μ : Wk) (w : Wd) (y : MethodName) (cc : ByteArray) (nL : Nat) (ret : Option FieldType) (d : Nat) (As : List Value) (σ : Hp) (P : Nat → Hp → Prop) : Prop := Ct μ w y cc nL ret d As σ (fun v τ => ∃ x, v = some (.ref (w.1 x)) ∧ P x τ)
theorem V.callVR (hC : Cx μ w nL κ own cc d) (hE : ExtOk μ) {i o ci N n n2 d2 : Nat} {y : MethodName} {c2 : ByteArray} {ret : Option FieldType} {C : String} {T : u_T} {fs : List (Nat ⊕ Nat)} {As : List Value} {P : Nat → Hp → Prop} {stk : List Value}
    (hM : CtR μ w y c2 n2 ret d2 (.ref (w.1 o) :: As) σ P) (hd : decode cc pc = .ok (.invokevirtual i, 3)) (hy : MokV y c2 n2 ret n) (hw : Cond.methodLink own i y ∈ tbl) (hs : μ.1[o]? = some (.inl (ci, fs))) (hc : classes[ci]? = some (C, T, N)) (hcls : y.cls = C) (hn : As.length = n) (hst : stk = As.reverse ++ .ref (w.1 o) :: r) (hroom : Nat.ble (d2 + 1) d = true) (hloc : Nat.ble n2 45 = true) (hW : (r.map fun v => v.category).sum ≤ 8)
    (k : ∀ x τ, P x τ → V μ w nL κ τ lo (pc + 3) (.ref (w.1 x) :: r)) : V μ w nL κ σ lo pc stk :=
  V.callV hC hE hM hd hy hw hs hc hcls hn hst hroom hloc hW (fun v τ hp => by obtain ⟨x, rfl, h⟩ := hp; exact k x τ h)
theorem V.callXR (hC : Cx μ w nL κ own cc d) (hE : ExtOk μ) {i q n n2 d2 : Nat} {y : MethodName} {c2 : ByteArray} {ret : Option FieldType} {As : List Value} {P : Nat → Hp → Prop} {stk : List Value}
    (hM : CtR μ w y c2 n2 ret d2 (.ref q :: As) σ P) (hd : decode cc pc = .ok (.invokevirtual i, 3)) (hy : MokV y c2 n2 ret n) (hw : Cond.methodLink own i y ∈ tbl) (hO : ∀ A U H, μ.2 w A U H → va_O y.cls q A U H) (hn : As.length = n) (hst : stk = As.reverse ++ .ref q :: r) (hroom : Nat.ble (d2 + 1) d = true) (hloc : Nat.ble n2 45 = true) (hW : (r.map fun v => v.category).sum ≤ 8)
    (k : ∀ x τ, P x τ → V μ w nL κ τ lo (pc + 3) (.ref (w.1 x) :: r)) : V μ w nL κ σ lo pc stk :=
  V.callX hC hE hM hd hy hw hO hn hst hroom hloc hW (fun v τ hp => by obtain ⟨x, rfl, h⟩ := hp; exact k x τ h)
theorem V.callSR (hC : Cx μ w nL κ own cc d) (hE : ExtOk μ) {i n n2 d2 : Nat} {y : MethodName} {c2 : ByteArray} {ret : Option FieldType} {As : List Value} {P : Nat → Hp → Prop} {stk : List Value}
    (hM : CtR μ w y c2 n2 ret d2 As σ P) (hd : decode cc pc = .ok (.invokestatic i, 3)) (hy : MokS y c2 n2 ret n) (hw : Cond.methodLink own i y ∈ tbl) (hn : As.length = n) (hst : stk = As.reverse ++ r) (hroom : Nat.ble (d2 + 1) d = true) (hloc : Nat.ble n2 45 = true) (hW : (r.map fun v => v.category).sum ≤ 8)
    (k : ∀ x τ, P x τ → V μ w nL κ τ lo (pc + 3) (.ref (w.1 x) :: r)) : V μ w nL κ σ lo pc stk :=
  V.callS hC hE hM hd hy hw hn hst hroom hloc hW (fun v τ hp => by obtain ⟨x, rfl, h⟩ := hp; exact k x τ h)
theorem V.callHR (hC : Cx μ w nL κ own cc d) (hE : ExtOk μ) {i n n2 d2 : Nat} {y : MethodName} {host : String} {c2 : ByteArray} {ret : Option FieldType} {As : List Value} {P : Nat → Hp → Prop} {stk : List Value}
    (hM : CtR μ w y c2 n2 ret d2 As σ P) (hd : decode cc pc = .ok (.invokestatic i, 3)) (hy : MokS y c2 n2 ret n) (hw : ∀ A U H, μ.2 w A U H → va_Nw (.methodLinkNest own i y host) U) (hn : As.length = n) (hst : stk = As.reverse ++ r) (hroom : Nat.ble (d2 + 1) d = true) (hloc : Nat.ble n2 45 = true) (hW : (r.map fun v => v.category).sum ≤ 8)
    (k : ∀ x τ, P x τ → V μ w nL κ τ lo (pc + 3) (.ref (w.1 x) :: r)) : V μ w nL κ σ lo pc stk :=
  V.callH hC hE hM hd hy hw hn hst hroom hloc hW (fun v τ hp => by obtain ⟨x, rfl, h⟩ := hp; exact k x τ h)
def CtN (μ : Wk) (w : Wd) (y : MethodName) (cc : ByteArray) (nL : Nat) (ret : Option FieldType) (d : Nat) (As : List Value) (σ : Hp) (P : Hp → Prop) : Prop := Ct μ w y cc nL ret d As σ (fun v τ => v = none ∧ P τ)
theorem V.callVN (hC : Cx μ w nL κ own cc d) (hE : ExtOk μ) {i o ci N n n2 d2 : Nat} {y : MethodName} {c2 : ByteArray} {ret : Option FieldType} {C : String} {T : u_T} {fs : List (Nat ⊕ Nat)} {As : List Value} {P : Hp → Prop} {stk : List Value}
    (hM : CtN μ w y c2 n2 ret d2 (.ref (w.1 o) :: As) σ P) (hd : decode cc pc = .ok (.invokevirtual i, 3)) (hy : MokV y c2 n2 ret n) (hw : Cond.methodLink own i y ∈ tbl) (hs : μ.1[o]? = some (.inl (ci, fs))) (hc : classes[ci]? = some (C, T, N)) (hcls : y.cls = C) (hn : As.length = n) (hst : stk = As.reverse ++ .ref (w.1 o) :: r) (hroom : Nat.ble (d2 + 1) d = true) (hloc : Nat.ble n2 45 = true) (hW : (r.map fun v => v.category).sum ≤ 8)
    (k : ∀ τ, P τ → V μ w nL κ τ lo (pc + 3) r) : V μ w nL κ σ lo pc stk :=
  V.callV hC hE hM hd hy hw hs hc hcls hn hst hroom hloc hW (fun v τ hp => by obtain ⟨rfl, h⟩ := hp; exact k τ h)
theorem V.callXN (hC : Cx μ w nL κ own cc d) (hE : ExtOk μ) {i q n n2 d2 : Nat} {y : MethodName} {c2 : ByteArray} {ret : Option FieldType} {As : List Value} {P : Hp → Prop} {stk : List Value}
    (hM : CtN μ w y c2 n2 ret d2 (.ref q :: As) σ P) (hd : decode cc pc = .ok (.invokevirtual i, 3)) (hy : MokV y c2 n2 ret n) (hw : Cond.methodLink own i y ∈ tbl) (hO : ∀ A U H, μ.2 w A U H → va_O y.cls q A U H) (hn : As.length = n) (hst : stk = As.reverse ++ .ref q :: r) (hroom : Nat.ble (d2 + 1) d = true) (hloc : Nat.ble n2 45 = true) (hW : (r.map fun v => v.category).sum ≤ 8)
    (k : ∀ τ, P τ → V μ w nL κ τ lo (pc + 3) r) : V μ w nL κ σ lo pc stk :=
  V.callX hC hE hM hd hy hw hO hn hst hroom hloc hW (fun v τ hp => by obtain ⟨rfl, h⟩ := hp; exact k τ h)
theorem V.callSN (hC : Cx μ w nL κ own cc d) (hE : ExtOk μ) {i n n2 d2 : Nat} {y : MethodName} {c2 : ByteArray} {ret : Option FieldType} {As : List Value} {P : Hp → Prop} {stk : List Value}
    (hM : CtN μ w y c2 n2 ret d2 As σ P) (hd : decode cc pc = .ok (.invokestatic i, 3)) (hy : MokS y c2 n2 ret n) (hw : Cond.methodLink own i y ∈ tbl) (hn : As.length = n) (hst : stk = As.reverse ++ r) (hroom : Nat.ble (d2 + 1) d = true) (hloc : Nat.ble n2 45 = true) (hW : (r.map fun v => v.category).sum ≤ 8)
    (k : ∀ τ, P τ → V μ w nL κ τ lo (pc + 3) r) : V μ w nL κ σ lo pc stk :=
  V.callS hC hE hM hd hy hw hn hst hroom hloc hW (fun v τ hp => by obtain ⟨rfl, h⟩ := hp; exact k τ h)
theorem V.callHN (hC : Cx μ w nL κ own cc d) (hE : ExtOk μ) {i n n2 d2 : Nat} {y : MethodName} {host : String} {c2 : ByteArray} {ret : Option FieldType} {As : List Value} {P : Hp → Prop} {stk : List Value}
    (hM : CtN μ w y c2 n2 ret d2 As σ P) (hd : decode cc pc = .ok (.invokestatic i, 3)) (hy : MokS y c2 n2 ret n) (hw : ∀ A U H, μ.2 w A U H → va_Nw (.methodLinkNest own i y host) U) (hn : As.length = n) (hst : stk = As.reverse ++ r) (hroom : Nat.ble (d2 + 1) d = true) (hloc : Nat.ble n2 45 = true) (hW : (r.map fun v => v.category).sum ≤ 8)
    (k : ∀ τ, P τ → V μ w nL κ τ lo (pc + 3) r) : V μ w nL κ σ lo pc stk :=
  V.callH hC hE hM hd hy hw hn hst hroom hloc hW (fun v τ hp => by obtain ⟨rfl, h⟩ := hp; exact k τ h)
def RtI (μ : Wk) (w : Wd) (nL : Nat) (κ : Kx) (cc : ByteArray) (ty : FieldType) (P : Int32 → Hp → Prop) : Prop := ∀ (τ : Hp) (lo : List (Option Value)) (pc : Nat) (x : Int32), P x τ → narrow ty (.int x) = .int x → decode cc pc = .ok (.ireturn, 1) → V μ w nL κ τ lo pc [.int x]
def RtL (μ : Wk) (w : Wd) (nL : Nat) (κ : Kx) (cc : ByteArray) (P : Int64 → Hp → Prop) : Prop := ∀ (τ : Hp) (lo : List (Option Value)) (pc : Nat) (x : Int64), P x τ → decode cc pc = .ok (.lreturn, 1) → V μ w nL κ τ lo pc [.long x]
def RtR (μ : Wk) (w : Wd) (nL : Nat) (κ : Kx) (cc : ByteArray) (P : Nat → Hp → Prop) : Prop := ∀ (τ : Hp) (lo : List (Option Value)) (pc x : Nat), P x τ → decode cc pc = .ok (.areturn, 1) → V μ w nL κ τ lo pc [.ref (w.1 x)]
def RtN (μ : Wk) (w : Wd) (nL : Nat) (κ : Kx) (cc : ByteArray) (P : Hp → Prop) : Prop := ∀ (τ : Hp) (lo : List (Option Value)) (pc : Nat), P τ → decode cc pc = .ok (.return_, 1) → V μ w nL κ τ lo pc []
theorem CtI.ofV {y : MethodName} {ty : FieldType} {As : List Value} {P : Int32 → Hp → Prop} {C : String} (hE : ExtOk μ) (hy : plainName y.cls = true) (hcl : y.cls = C) (hlo : asl 0 lo = lv_args 0 As) (hlen : Nat.ble (lg_sl As).length nL = true)
    (body : ∀ κ : Kx, Cx μ w nL κ C cc d → RtI μ w nL κ cc ty P → V μ w nL κ σ lo 0 []) : CtI μ w y cc nL (some ty) d As σ P :=
  Ct.ofV hE hy hcl hlo hlen (fun κ hC hR => body κ hC (fun τ lo pc x hp hn hd => hR τ lo pc (some (.int x)) ⟨x, rfl, hp⟩ (Or.inr (Or.inl ⟨x, ty, rfl, rfl, hn, hd⟩))))
theorem CtL.ofV {y : MethodName} {As : List Value} {P : Int64 → Hp → Prop} {C : String} (hE : ExtOk μ) (hy : plainName y.cls = true) (hcl : y.cls = C) (hlo : asl 0 lo = lv_args 0 As) (hlen : Nat.ble (lg_sl As).length nL = true)
    (body : ∀ κ : Kx, Cx μ w nL κ C cc d → RtL μ w nL κ cc P → V μ w nL κ σ lo 0 []) : CtL μ w y cc nL (some .long) d As σ P :=
  Ct.ofV hE hy hcl hlo hlen (fun κ hC hR => body κ hC (fun τ lo pc x hp hd => hR τ lo pc (some (.long x)) ⟨x, rfl, hp⟩ (Or.inr (Or.inr (Or.inl ⟨x, rfl, rfl, hd⟩)))))
theorem CtR.ofV {y : MethodName} {nm : String} {As : List Value} {P : Nat → Hp → Prop} {C : String} (hE : ExtOk μ) (hy : plainName y.cls = true) (hcl : y.cls = C) (hlo : asl 0 lo = lv_args 0 As) (hlen : Nat.ble (lg_sl As).length nL = true)
    (body : ∀ κ : Kx, Cx μ w nL κ C cc d → RtR μ w nL κ cc P → V μ w nL κ σ lo 0 []) : CtR μ w y cc nL (some (.object nm)) d As σ P :=
  Ct.ofV hE hy hcl hlo hlen (fun κ hC hR => body κ hC (fun τ lo pc x hp hd => hR τ lo pc (some (.ref (w.1 x))) ⟨x, rfl, hp⟩ (Or.inr (Or.inr (Or.inr ⟨w.1 x, nm, rfl, rfl, hd⟩)))))
theorem CtN.ofV {y : MethodName} {As : List Value} {P : Hp → Prop} {C : String} (hE : ExtOk μ) (hy : plainName y.cls = true) (hcl : y.cls = C) (hlo : asl 0 lo = lv_args 0 As) (hlen : Nat.ble (lg_sl As).length nL = true)
    (body : ∀ κ : Kx, Cx μ w nL κ C cc d → RtN μ w nL κ cc P → V μ w nL κ σ lo 0 []) : CtN μ w y cc nL none d As σ P :=
  Ct.ofV hE hy hcl hlo hlen (fun κ hC hR => body κ hC (fun τ lo pc hp hd => hR τ lo pc none ⟨rfl, hp⟩ (Or.inl ⟨rfl, rfl, hd⟩)))
end RULES2
/-! the two worlds -/
def shC : List Shp := [.inl (7, [.inr 1, .inr 2, .inr 3, .inr 4, .inr 5, .inr 6, .inr 7, .inr 8, .inr 9, .inl 9]), .inl (6, [.inr 14, .inl 1, .inr 50, .inl 3]), .inl (6, [.inr 15, .inl 1, .inr 51, .inl 3]), .inl (1, [.inr 4, .inr 5, .inr 16, .inr 17, .inr 18, .inr 19, .inr 20]), .inl (5, [.inr 21, .inr 22, .inr 23, .inr 24, .inr 25, .inr 26, .inl 6, .inl 7]), .inl (2, [.inr 27, .inr 28, .inr 29, .inr 30, .inr 31, .inr 32, .inl 6, .inl 7]), .inl (3, [.inr 33, .inr 34, .inr 35, .inl 3]), .inl (0, [.inr 36, .inr 37, .inl 2]), .inr (12, 4), .inr (0, 12), .inl (4, [.inr 38, .inl 1, .inl 2]), .inl (4, [.inr 39, .inl 1, .inl 2]), .inl (4, [.inr 40, .inl 1, .inl 2]), .inl (4, [.inr 41, .inl 1, .inl 2]), .inr (0, 39), .inr (0, 17), .inr (0, 8), .inr (0, 12), .inr (0, 8), .inr (0, 256), .inr (0, 256), .inr (0, 8), .inr (0, 8), .inr (0, 8), .inr (0, 8), .inr (0, 3), .inr (0, 7), .inr (0, 12), .inr (0, 12), .inr (0, 12), .inr (0, 8), .inr (0, 8), .inr (0, 8), .inr (0, 8), .inr (0, 8), .inr (0, 8), .inr (0, 12), .inr (0, 12), .inr (0, 60), .inr (0, 60), .inr (0, 60), .inr (0, 60)]
def shR : List Shp := [.inl (8, [.inr 1, .inr 2, .inl 2, .inr 3, .inr 4, .inr 5, .inr 6, .inl 7, .inr 7, .inr 8, .inl 10, .inr 9, .inr 10, .inr 11, .inl 14, .inr 12, .inr 13, .inl 17, .inr 14, .inr 15, .inr 16, .inr 17, .inr 18, .inr 19, .inl 24, .inr 20, .inr 21, .inr 22, .inr 23, .inr 24, .inr 25, .inr 26, .inr 27, .inr 28, .inl 34]), .inr (0, 2), .inr (0, 78), .inr (0, 9), .inr (0, 9), .inr (0, 9), .inr (0, 9), .inr (0, 3), .inr (0, 7), .inr (0, 12), .inr (0, 12), .inr (0, 12), .inr (0, 8), .inr (0, 8), .inr (1, 240), .inr (0, 64), .inr (0, 64), .inr (0, 8), .inr (0, 256), .inr (0, 2), .inr (0, 8), .inr (0, 8), .inr (0, 8), .inr (0, 96), .inr (1, 4), .inr (0, 4), .inr (0, 4), .inr (0, 240), .inr (0, 60)]
def strB (o j : Nat) : Int32 := ((if o = 50 then [99, 109, 104, 111] else [99, 109, 104] : List Int32)).getD j 0
def strN (o : Nat) : Nat := if o = 50 then 4 else 3
def dgD (j : Nat) : Int32 := ([0, 5, 29] : List Int32).getD j 0
/-- outside the class's world: the nest mate's link, the two text constants, the row of days -/
def ExC (w : Wd) (A : Nat → Prop) (U : State) (H : Heap) : Prop :=
  va_Nw (.methodLinkNest "SoundPaid$Street" 61 ⟨"SoundPaid", "isKind", "(I)Z"⟩ "SoundPaid") U ∧ va_Z "java/lang/String" "COMPACT_STRINGS" "Z" (.int 1) A U H ∧
  vk_S 2 [4, 3] [[99, 109, 104, 111], [99, 109, 104]] (fun i => w.1 (50 + i)) (fun i => w.1 (52 + i)) A U H ∧
  va_Z "SoundPaid" "DIGEST_DAYS" "[I" (.ref (w.1 54)) A U H ∧ va_T .int (w.1 54) 3 (fun j => .int (dgD j)) A U H
abbrev μC : Wk := (shC, ExC)
abbrev μR : Wk := (shR, fun _ _ _ _ => True)
theorem exR : ExtOk μR := fun _ _ _ _ _ _ _ => trivial
theorem exC : ExtOk μC := by
  intro w A s U hW hq hx
  obtain ⟨h1, h2, h3, h4, h5⟩ := hx
  exact ⟨va_Nw.warmM hW h1, va_Z.moved hW.alike (h2.kept hq), vk_S.moved hW.alike (h3.kept hq), va_Z.moved hW.alike (h4.kept hq), va_T.moved hW.alike (h5.kept hq)⟩
def isT (o : Nat) : Prop := o = 1 ∨ o = 2
def isS (o : Nat) : Prop := o = 10 ∨ o = 11 ∨ o = 12 ∨ o = 13
def isN (o : Nat) : Prop := o = 50 ∨ o = 51
def tlen (o : Nat) : Nat := if o = 1 then 39 else 17
theorem shT {o : Nat} (h : isT o) : μC.1[o]? = some (.inl (6, [.inr (o + 13), .inl 1, .inr (o + 49), .inl 3])) := by rcases h with rfl | rfl <;> rfl
theorem shTA {o : Nat} (h : isT o) : μC.1[o + 13]? = some (.inr (0, tlen o)) := by rcases h with rfl | rfl <;> rfl
theorem shS {o : Nat} (h : isS o) : μC.1[o]? = some (.inl (4, [.inr (o + 28), .inl 1, .inl 2])) := by rcases h with rfl | rfl | rfl | rfl <;> rfl
theorem shSA {o : Nat} (h : isS o) : μC.1[o + 28]? = some (.inr (0, 60)) := by rcases h with rfl | rfl | rfl | rfl <;> rfl
theorem exNest (w : Wd) : ∀ A U H, μC.2 w A U H → va_Nw (.methodLinkNest "SoundPaid$Street" 61 ⟨"SoundPaid", "isKind", "(I)Z"⟩ "SoundPaid") U := fun _ _ _ h => h.1
theorem exComp (w : Wd) : ∀ A U H, μC.2 w A U H → va_Z "java/lang/String" "COMPACT_STRINGS" "Z" (.int 1) A U H := fun _ _ _ h => h.2.1
theorem exDays (w : Wd) : ∀ A U H, μC.2 w A U H → va_Z "SoundPaid" "DIGEST_DAYS" "[I" (.ref (w.1 54)) A U H := fun _ _ _ h => h.2.2.2.1
theorem exDayT (w : Wd) : ∀ A U H, μC.2 w A U H → va_T .int (w.1 54) 3 (fun j => .int (dgD j)) A U H := fun _ _ _ h => h.2.2.2.2
theorem exStr (w : Wd) {o : Nat} (h : isN o) : ∀ A U H, μC.2 w A U H → va_O "java/lang/String" (w.1 o) A U H ∧ va_OF "java/lang/String" "coder" "B" (.int 0) (w.1 o) A U H ∧ va_OF "java/lang/String" "value" "[B" (.ref (w.1 (o + 2))) (w.1 o) A U H ∧ va_T .byte (w.1 (o + 2)) (strN o) (fun j => .int (strB o j)) A U H := by
  intro A U H hx
  rcases h with rfl | rfl
  · exact hx.2.2.1.1 0 (by decide)
  · exact hx.2.2.1.1 1 (by decide)
theorem isN_T {o : Nat} (h : isT o) : isN (o + 49) := by rcases h with rfl | rfl <;> first | exact Or.inl rfl | exact Or.inr rfl
theorem sw_cases (x : Int32) (n : Nat) : (x.toInt < 0 ∨ (n : Int) < x.toInt) ∨ ∃ k : Nat, k ≤ n ∧ x = nI k := by
  by_cases h : x.toInt < 0
  · exact Or.inl (Or.inl h)
  · by_cases h2 : (n : Int) < x.toInt
    · exact Or.inl (Or.inr h2)
    · right
      refine ⟨x.toInt.toNat, by omega, ?_⟩
      apply Int32.toInt_inj.mp
      have hb := Int32.toInt_lt x
      rw [nI_toInt (by omega)]
      omega
end
