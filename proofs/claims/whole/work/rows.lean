section
-- ===== PART A: goes FIRST, ahead of the names: the tables' words, and 'selects' of the private methods out of them =====
/-- a private method of a class that the tables say can be made, by its rows of tables_1 -/
def lw_okq (q : MethodName × Nat) : Prop := (q.1.cls ≠ "java/lang/invoke/MethodHandle" ∧ q.1.cls ≠ "java/lang/invoke/VarHandle") ∧ Cond.instantiable q.1.cls q.2 ∈ tables_1 ∧ Cond.privateMethod q.1 ∈ tables_1 ∧ Cond.instanceMethod q.1 ∈ tables_1
theorem lw_p0 : lw_okq (⟨"SoundPaid", "textOf", "(I)LSoundPaid$Text;"⟩, 10) := ⟨⟨by decide +kernel, by decide +kernel⟩, List.mem_of_getElem? (i := 20) (by decide +kernel), List.mem_of_getElem? (i := 263) (by decide +kernel), List.mem_of_getElem? (i := 264) (by decide +kernel)⟩
theorem lw_p1 : lw_okq (⟨"SoundPaid", "takeText", "(I)V"⟩, 10) := ⟨⟨by decide +kernel, by decide +kernel⟩, List.mem_of_getElem? (i := 20) (by decide +kernel), List.mem_of_getElem? (i := 275) (by decide +kernel), List.mem_of_getElem? (i := 276) (by decide +kernel)⟩
theorem lw_p2 : lw_okq (⟨"SoundPaid$Text", "goesOn", "(I)Z"⟩, 4) := ⟨⟨by decide +kernel, by decide +kernel⟩, List.mem_of_getElem? (i := 28) (by decide +kernel), List.mem_of_getElem? (i := 291) (by decide +kernel), List.mem_of_getElem? (i := 292) (by decide +kernel)⟩
theorem lw_p3 : lw_okq (⟨"SoundPaid$Street", "stopped", "(III)I"⟩, 8) := ⟨⟨by decide +kernel, by decide +kernel⟩, List.mem_of_getElem? (i := 58) (by decide +kernel), List.mem_of_getElem? (i := 413) (by decide +kernel), List.mem_of_getElem? (i := 414) (by decide +kernel)⟩
theorem lw_p4 : lw_okq (⟨"SoundPaid", "isHouse", "(I)Z"⟩, 10) := ⟨⟨by decide +kernel, by decide +kernel⟩, List.mem_of_getElem? (i := 20) (by decide +kernel), List.mem_of_getElem? (i := 434) (by decide +kernel), List.mem_of_getElem? (i := 435) (by decide +kernel)⟩
theorem lw_p5 : lw_okq (⟨"SoundPaid", "isSheet", "(I)Z"⟩, 10) := ⟨⟨by decide +kernel, by decide +kernel⟩, List.mem_of_getElem? (i := 20) (by decide +kernel), List.mem_of_getElem? (i := 490) (by decide +kernel), List.mem_of_getElem? (i := 491) (by decide +kernel)⟩
theorem lw_p6 : lw_okq (⟨"SoundPaid", "found", "(I)I"⟩, 10) := ⟨⟨by decide +kernel, by decide +kernel⟩, List.mem_of_getElem? (i := 20) (by decide +kernel), List.mem_of_getElem? (i := 498) (by decide +kernel), List.mem_of_getElem? (i := 499) (by decide +kernel)⟩
theorem lw_p7 : lw_okq (⟨"SoundPaid", "areTwoHouses", "(II)Z"⟩, 10) := ⟨⟨by decide +kernel, by decide +kernel⟩, List.mem_of_getElem? (i := 20) (by decide +kernel), List.mem_of_getElem? (i := 507) (by decide +kernel), List.mem_of_getElem? (i := 508) (by decide +kernel)⟩
theorem lw_p8 : lw_okq (⟨"SoundPaid$Docket", "leads", "(II)Z"⟩, 8) := ⟨⟨by decide +kernel, by decide +kernel⟩, List.mem_of_getElem? (i := 100) (by decide +kernel), List.mem_of_getElem? (i := 532) (by decide +kernel), List.mem_of_getElem? (i := 533) (by decide +kernel)⟩
theorem lw_p9 : lw_okq (⟨"SoundPaid$Debts", "oweRound", "(III)Z"⟩, 7) := ⟨⟨by decide +kernel, by decide +kernel⟩, List.mem_of_getElem? (i := 52) (by decide +kernel), List.mem_of_getElem? (i := 603) (by decide +kernel), List.mem_of_getElem? (i := 604) (by decide +kernel)⟩
theorem lw_p10 : lw_okq (⟨"SoundPaid", "fewestDropped", "(I)I"⟩, 10) := ⟨⟨by decide +kernel, by decide +kernel⟩, List.mem_of_getElem? (i := 20) (by decide +kernel), List.mem_of_getElem? (i := 620) (by decide +kernel), List.mem_of_getElem? (i := 621) (by decide +kernel)⟩
theorem lw_p11 : lw_okq (⟨"SoundPaid$Debts", "passDay", "(II)V"⟩, 7) := ⟨⟨by decide +kernel, by decide +kernel⟩, List.mem_of_getElem? (i := 52) (by decide +kernel), List.mem_of_getElem? (i := 630) (by decide +kernel), List.mem_of_getElem? (i := 631) (by decide +kernel)⟩
theorem lw_p12 : lw_okq (⟨"SoundPaid", "mostAlike", "(III)I"⟩, 10) := ⟨⟨by decide +kernel, by decide +kernel⟩, List.mem_of_getElem? (i := 20) (by decide +kernel), List.mem_of_getElem? (i := 673) (by decide +kernel), List.mem_of_getElem? (i := 674) (by decide +kernel)⟩
theorem lw_p13 : lw_okq (⟨"SoundPaid$Bench", "take", "(LSoundPaid$Debts;III)V"⟩, 3) := ⟨⟨by decide +kernel, by decide +kernel⟩, List.mem_of_getElem? (i := 189) (by decide +kernel), List.mem_of_getElem? (i := 687) (by decide +kernel), List.mem_of_getElem? (i := 688) (by decide +kernel)⟩
theorem lw_p14 : lw_okq (⟨"SoundPaidModel", "faultOf", "(I)I"⟩, 35) := ⟨⟨by decide +kernel, by decide +kernel⟩, List.mem_of_getElem? (i := 802) (by decide +kernel), List.mem_of_getElem? (i := 937) (by decide +kernel), List.mem_of_getElem? (i := 938) (by decide +kernel)⟩
theorem lw_p15 : lw_okq (⟨"SoundPaidModel", "readsHouses", "()I"⟩, 35) := ⟨⟨by decide +kernel, by decide +kernel⟩, List.mem_of_getElem? (i := 802) (by decide +kernel), List.mem_of_getElem? (i := 941) (by decide +kernel), List.mem_of_getElem? (i := 942) (by decide +kernel)⟩
def lw_privs_1 : List (MethodName × Nat) := [(⟨"SoundPaid", "textOf", "(I)LSoundPaid$Text;"⟩, 10), (⟨"SoundPaid", "takeText", "(I)V"⟩, 10), (⟨"SoundPaid$Text", "goesOn", "(I)Z"⟩, 4), (⟨"SoundPaid$Street", "stopped", "(III)I"⟩, 8), (⟨"SoundPaid", "isHouse", "(I)Z"⟩, 10), (⟨"SoundPaid", "isSheet", "(I)Z"⟩, 10), (⟨"SoundPaid", "found", "(I)I"⟩, 10), (⟨"SoundPaid", "areTwoHouses", "(II)Z"⟩, 10), (⟨"SoundPaid$Docket", "leads", "(II)Z"⟩, 8), (⟨"SoundPaid$Debts", "oweRound", "(III)Z"⟩, 7), (⟨"SoundPaid", "fewestDropped", "(I)I"⟩, 10), (⟨"SoundPaid$Debts", "passDay", "(II)V"⟩, 7), (⟨"SoundPaid", "mostAlike", "(III)I"⟩, 10), (⟨"SoundPaid$Bench", "take", "(LSoundPaid$Debts;III)V"⟩, 3), (⟨"SoundPaidModel", "faultOf", "(I)I"⟩, 35), (⟨"SoundPaidModel", "readsHouses", "()I"⟩, 35)]
theorem lw_r1 : ∀ q ∈ lw_privs_1, lw_okq q := List.forall_mem_cons.mpr ⟨lw_p0, List.forall_mem_cons.mpr ⟨lw_p1, List.forall_mem_cons.mpr ⟨lw_p2, List.forall_mem_cons.mpr ⟨lw_p3, List.forall_mem_cons.mpr ⟨lw_p4, List.forall_mem_cons.mpr ⟨lw_p5, List.forall_mem_cons.mpr ⟨lw_p6, List.forall_mem_cons.mpr ⟨lw_p7, List.forall_mem_cons.mpr ⟨lw_p8, List.forall_mem_cons.mpr ⟨lw_p9, List.forall_mem_cons.mpr ⟨lw_p10, List.forall_mem_cons.mpr ⟨lw_p11, List.forall_mem_cons.mpr ⟨lw_p12, List.forall_mem_cons.mpr ⟨lw_p13, List.forall_mem_cons.mpr ⟨lw_p14, List.forall_mem_cons.mpr ⟨lw_p15, fun _ h => absurd h List.not_mem_nil⟩⟩⟩⟩⟩⟩⟩⟩⟩⟩⟩⟩⟩⟩⟩⟩
theorem lw_p16 : lw_okq (⟨"SoundPaidModel", "readsHouse", "(II)I"⟩, 35) := ⟨⟨by decide +kernel, by decide +kernel⟩, List.mem_of_getElem? (i := 802) (by decide +kernel), List.mem_of_getElem? (i := 945) (by decide +kernel), List.mem_of_getElem? (i := 946) (by decide +kernel)⟩
theorem lw_p17 : lw_okq (⟨"SoundPaidModel", "byteAt", "(II)I"⟩, 35) := ⟨⟨by decide +kernel, by decide +kernel⟩, List.mem_of_getElem? (i := 802) (by decide +kernel), List.mem_of_getElem? (i := 949) (by decide +kernel), List.mem_of_getElem? (i := 950) (by decide +kernel)⟩
theorem lw_p18 : lw_okq (⟨"SoundPaidModel", "figureAt", "(II)I"⟩, 35) := ⟨⟨by decide +kernel, by decide +kernel⟩, List.mem_of_getElem? (i := 802) (by decide +kernel), List.mem_of_getElem? (i := 956) (by decide +kernel), List.mem_of_getElem? (i := 957) (by decide +kernel)⟩
theorem lw_p19 : lw_okq (⟨"SoundPaidModel", "readsRulings", "()I"⟩, 35) := ⟨⟨by decide +kernel, by decide +kernel⟩, List.mem_of_getElem? (i := 802) (by decide +kernel), List.mem_of_getElem? (i := 960) (by decide +kernel), List.mem_of_getElem? (i := 961) (by decide +kernel)⟩
theorem lw_p20 : lw_okq (⟨"SoundPaidModel", "noRates", "()V"⟩, 35) := ⟨⟨by decide +kernel, by decide +kernel⟩, List.mem_of_getElem? (i := 802) (by decide +kernel), List.mem_of_getElem? (i := 964) (by decide +kernel), List.mem_of_getElem? (i := 965) (by decide +kernel)⟩
theorem lw_p21 : lw_okq (⟨"SoundPaidModel", "isHouse", "(I)Z"⟩, 35) := ⟨⟨by decide +kernel, by decide +kernel⟩, List.mem_of_getElem? (i := 802) (by decide +kernel), List.mem_of_getElem? (i := 972) (by decide +kernel), List.mem_of_getElem? (i := 973) (by decide +kernel)⟩
theorem lw_p22 : lw_okq (⟨"SoundPaidModel", "reads", "()V"⟩, 35) := ⟨⟨by decide +kernel, by decide +kernel⟩, List.mem_of_getElem? (i := 802) (by decide +kernel), List.mem_of_getElem? (i := 976) (by decide +kernel), List.mem_of_getElem? (i := 977) (by decide +kernel)⟩
theorem lw_p23 : lw_okq (⟨"SoundPaidModel", "houseOf", "(II)I"⟩, 35) := ⟨⟨by decide +kernel, by decide +kernel⟩, List.mem_of_getElem? (i := 802) (by decide +kernel), List.mem_of_getElem? (i := 980) (by decide +kernel), List.mem_of_getElem? (i := 981) (by decide +kernel)⟩
theorem lw_p24 : lw_okq (⟨"SoundPaidModel", "rateOf", "(I)I"⟩, 35) := ⟨⟨by decide +kernel, by decide +kernel⟩, List.mem_of_getElem? (i := 802) (by decide +kernel), List.mem_of_getElem? (i := 988) (by decide +kernel), List.mem_of_getElem? (i := 989) (by decide +kernel)⟩
theorem lw_p25 : lw_okq (⟨"SoundPaidModel", "meets", "(I)I"⟩, 35) := ⟨⟨by decide +kernel, by decide +kernel⟩, List.mem_of_getElem? (i := 802) (by decide +kernel), List.mem_of_getElem? (i := 1021) (by decide +kernel), List.mem_of_getElem? (i := 1022) (by decide +kernel)⟩
theorem lw_p26 : lw_okq (⟨"SoundPaidModel", "throughOf", "(II)I"⟩, 35) := ⟨⟨by decide +kernel, by decide +kernel⟩, List.mem_of_getElem? (i := 802) (by decide +kernel), List.mem_of_getElem? (i := 1030) (by decide +kernel), List.mem_of_getElem? (i := 1031) (by decide +kernel)⟩
theorem lw_p27 : lw_okq (⟨"SoundPaidModel", "owesOf", "(III)I"⟩, 35) := ⟨⟨by decide +kernel, by decide +kernel⟩, List.mem_of_getElem? (i := 802) (by decide +kernel), List.mem_of_getElem? (i := 1038) (by decide +kernel), List.mem_of_getElem? (i := 1039) (by decide +kernel)⟩
theorem lw_p28 : lw_okq (⟨"SoundPaidModel", "laysTold", "()V"⟩, 35) := ⟨⟨by decide +kernel, by decide +kernel⟩, List.mem_of_getElem? (i := 802) (by decide +kernel), List.mem_of_getElem? (i := 1042) (by decide +kernel), List.mem_of_getElem? (i := 1043) (by decide +kernel)⟩
theorem lw_p29 : lw_okq (⟨"SoundPaidModel", "asTold", "()V"⟩, 35) := ⟨⟨by decide +kernel, by decide +kernel⟩, List.mem_of_getElem? (i := 802) (by decide +kernel), List.mem_of_getElem? (i := 1046) (by decide +kernel), List.mem_of_getElem? (i := 1047) (by decide +kernel)⟩
theorem lw_p30 : lw_okq (⟨"SoundPaidModel", "lays", "()V"⟩, 35) := ⟨⟨by decide +kernel, by decide +kernel⟩, List.mem_of_getElem? (i := 802) (by decide +kernel), List.mem_of_getElem? (i := 1050) (by decide +kernel), List.mem_of_getElem? (i := 1051) (by decide +kernel)⟩
theorem lw_p31 : lw_okq (⟨"SoundPaidModel", "owesNow", "(III)I"⟩, 35) := ⟨⟨by decide +kernel, by decide +kernel⟩, List.mem_of_getElem? (i := 802) (by decide +kernel), List.mem_of_getElem? (i := 1057) (by decide +kernel), List.mem_of_getElem? (i := 1058) (by decide +kernel)⟩
def lw_privs_2 : List (MethodName × Nat) := [(⟨"SoundPaidModel", "readsHouse", "(II)I"⟩, 35), (⟨"SoundPaidModel", "byteAt", "(II)I"⟩, 35), (⟨"SoundPaidModel", "figureAt", "(II)I"⟩, 35), (⟨"SoundPaidModel", "readsRulings", "()I"⟩, 35), (⟨"SoundPaidModel", "noRates", "()V"⟩, 35), (⟨"SoundPaidModel", "isHouse", "(I)Z"⟩, 35), (⟨"SoundPaidModel", "reads", "()V"⟩, 35), (⟨"SoundPaidModel", "houseOf", "(II)I"⟩, 35), (⟨"SoundPaidModel", "rateOf", "(I)I"⟩, 35), (⟨"SoundPaidModel", "meets", "(I)I"⟩, 35), (⟨"SoundPaidModel", "throughOf", "(II)I"⟩, 35), (⟨"SoundPaidModel", "owesOf", "(III)I"⟩, 35), (⟨"SoundPaidModel", "laysTold", "()V"⟩, 35), (⟨"SoundPaidModel", "asTold", "()V"⟩, 35), (⟨"SoundPaidModel", "lays", "()V"⟩, 35), (⟨"SoundPaidModel", "owesNow", "(III)I"⟩, 35)]
theorem lw_r2 : ∀ q ∈ lw_privs_2, lw_okq q := List.forall_mem_cons.mpr ⟨lw_p16, List.forall_mem_cons.mpr ⟨lw_p17, List.forall_mem_cons.mpr ⟨lw_p18, List.forall_mem_cons.mpr ⟨lw_p19, List.forall_mem_cons.mpr ⟨lw_p20, List.forall_mem_cons.mpr ⟨lw_p21, List.forall_mem_cons.mpr ⟨lw_p22, List.forall_mem_cons.mpr ⟨lw_p23, List.forall_mem_cons.mpr ⟨lw_p24, List.forall_mem_cons.mpr ⟨lw_p25, List.forall_mem_cons.mpr ⟨lw_p26, List.forall_mem_cons.mpr ⟨lw_p27, List.forall_mem_cons.mpr ⟨lw_p28, List.forall_mem_cons.mpr ⟨lw_p29, List.forall_mem_cons.mpr ⟨lw_p30, List.forall_mem_cons.mpr ⟨lw_p31, fun _ h => absurd h List.not_mem_nil⟩⟩⟩⟩⟩⟩⟩⟩⟩⟩⟩⟩⟩⟩⟩⟩
theorem lw_p32 : lw_okq (⟨"SoundPaidModel", "balanceOf", "(II)I"⟩, 35) := ⟨⟨by decide +kernel, by decide +kernel⟩, List.mem_of_getElem? (i := 802) (by decide +kernel), List.mem_of_getElem? (i := 1065) (by decide +kernel), List.mem_of_getElem? (i := 1066) (by decide +kernel)⟩
theorem lw_p33 : lw_okq (⟨"SoundPaidModel", "balanceNow", "(II)I"⟩, 35) := ⟨⟨by decide +kernel, by decide +kernel⟩, List.mem_of_getElem? (i := 802) (by decide +kernel), List.mem_of_getElem? (i := 1069) (by decide +kernel), List.mem_of_getElem? (i := 1070) (by decide +kernel)⟩
theorem lw_p34 : lw_okq (⟨"SoundPaidModel", "coinOf", "(I)I"⟩, 35) := ⟨⟨by decide +kernel, by decide +kernel⟩, List.mem_of_getElem? (i := 802) (by decide +kernel), List.mem_of_getElem? (i := 1078) (by decide +kernel), List.mem_of_getElem? (i := 1079) (by decide +kernel)⟩
theorem lw_p35 : lw_okq (⟨"SoundPaidModel", "coinNow", "(I)I"⟩, 35) := ⟨⟨by decide +kernel, by decide +kernel⟩, List.mem_of_getElem? (i := 802) (by decide +kernel), List.mem_of_getElem? (i := 1082) (by decide +kernel), List.mem_of_getElem? (i := 1083) (by decide +kernel)⟩
theorem lw_p36 : lw_okq (⟨"SoundPaidModel", "purses", "(I)V"⟩, 35) := ⟨⟨by decide +kernel, by decide +kernel⟩, List.mem_of_getElem? (i := 802) (by decide +kernel), List.mem_of_getElem? (i := 1086) (by decide +kernel), List.mem_of_getElem? (i := 1087) (by decide +kernel)⟩
theorem lw_p37 : lw_okq (⟨"SoundPaidModel", "brokeOf", "(I)I"⟩, 35) := ⟨⟨by decide +kernel, by decide +kernel⟩, List.mem_of_getElem? (i := 802) (by decide +kernel), List.mem_of_getElem? (i := 1094) (by decide +kernel), List.mem_of_getElem? (i := 1095) (by decide +kernel)⟩
theorem lw_p38 : lw_okq (⟨"SoundPaidModel", "noPurses", "()V"⟩, 35) := ⟨⟨by decide +kernel, by decide +kernel⟩, List.mem_of_getElem? (i := 802) (by decide +kernel), List.mem_of_getElem? (i := 1098) (by decide +kernel), List.mem_of_getElem? (i := 1099) (by decide +kernel)⟩
theorem lw_p39 : lw_okq (⟨"SoundPaidModel", "goesBy", "(I)V"⟩, 35) := ⟨⟨by decide +kernel, by decide +kernel⟩, List.mem_of_getElem? (i := 802) (by decide +kernel), List.mem_of_getElem? (i := 1102) (by decide +kernel), List.mem_of_getElem? (i := 1103) (by decide +kernel)⟩
theorem lw_p40 : lw_okq (⟨"SoundPaidModel", "richestOf", "(I)I"⟩, 35) := ⟨⟨by decide +kernel, by decide +kernel⟩, List.mem_of_getElem? (i := 802) (by decide +kernel), List.mem_of_getElem? (i := 1110) (by decide +kernel), List.mem_of_getElem? (i := 1111) (by decide +kernel)⟩
theorem lw_p41 : lw_okq (⟨"SoundPaidModel", "paymentsOf", "(I)I"⟩, 35) := ⟨⟨by decide +kernel, by decide +kernel⟩, List.mem_of_getElem? (i := 802) (by decide +kernel), List.mem_of_getElem? (i := 1118) (by decide +kernel), List.mem_of_getElem? (i := 1119) (by decide +kernel)⟩
theorem lw_p42 : lw_okq (⟨"SoundPaidModel", "ringsOf", "(II)I"⟩, 35) := ⟨⟨by decide +kernel, by decide +kernel⟩, List.mem_of_getElem? (i := 802) (by decide +kernel), List.mem_of_getElem? (i := 1126) (by decide +kernel), List.mem_of_getElem? (i := 1127) (by decide +kernel)⟩
theorem lw_p43 : lw_okq (⟨"SoundPaidModel", "isOwed", "(III)Z"⟩, 35) := ⟨⟨by decide +kernel, by decide +kernel⟩, List.mem_of_getElem? (i := 802) (by decide +kernel), List.mem_of_getElem? (i := 1130) (by decide +kernel), List.mem_of_getElem? (i := 1131) (by decide +kernel)⟩
theorem lw_p44 : lw_okq (⟨"SoundPaidModel", "buildOf", "(III)I"⟩, 35) := ⟨⟨by decide +kernel, by decide +kernel⟩, List.mem_of_getElem? (i := 802) (by decide +kernel), List.mem_of_getElem? (i := 1138) (by decide +kernel), List.mem_of_getElem? (i := 1139) (by decide +kernel)⟩
theorem lw_p45 : lw_okq (⟨"SoundPaidModel", "fairOf", "(III)I"⟩, 35) := ⟨⟨by decide +kernel, by decide +kernel⟩, List.mem_of_getElem? (i := 802) (by decide +kernel), List.mem_of_getElem? (i := 1147) (by decide +kernel), List.mem_of_getElem? (i := 1148) (by decide +kernel)⟩
theorem lw_p46 : lw_okq (⟨"SoundPaidModel", "dropBy", "(I)I"⟩, 35) := ⟨⟨by decide +kernel, by decide +kernel⟩, List.mem_of_getElem? (i := 802) (by decide +kernel), List.mem_of_getElem? (i := 1155) (by decide +kernel), List.mem_of_getElem? (i := 1156) (by decide +kernel)⟩
theorem lw_p47 : lw_okq (⟨"SoundPaidModel", "isWell", "(II)Z"⟩, 35) := ⟨⟨by decide +kernel, by decide +kernel⟩, List.mem_of_getElem? (i := 802) (by decide +kernel), List.mem_of_getElem? (i := 1159) (by decide +kernel), List.mem_of_getElem? (i := 1160) (by decide +kernel)⟩
def lw_privs_3 : List (MethodName × Nat) := [(⟨"SoundPaidModel", "balanceOf", "(II)I"⟩, 35), (⟨"SoundPaidModel", "balanceNow", "(II)I"⟩, 35), (⟨"SoundPaidModel", "coinOf", "(I)I"⟩, 35), (⟨"SoundPaidModel", "coinNow", "(I)I"⟩, 35), (⟨"SoundPaidModel", "purses", "(I)V"⟩, 35), (⟨"SoundPaidModel", "brokeOf", "(I)I"⟩, 35), (⟨"SoundPaidModel", "noPurses", "()V"⟩, 35), (⟨"SoundPaidModel", "goesBy", "(I)V"⟩, 35), (⟨"SoundPaidModel", "richestOf", "(I)I"⟩, 35), (⟨"SoundPaidModel", "paymentsOf", "(I)I"⟩, 35), (⟨"SoundPaidModel", "ringsOf", "(II)I"⟩, 35), (⟨"SoundPaidModel", "isOwed", "(III)Z"⟩, 35), (⟨"SoundPaidModel", "buildOf", "(III)I"⟩, 35), (⟨"SoundPaidModel", "fairOf", "(III)I"⟩, 35), (⟨"SoundPaidModel", "dropBy", "(I)I"⟩, 35), (⟨"SoundPaidModel", "isWell", "(II)Z"⟩, 35)]
theorem lw_r3 : ∀ q ∈ lw_privs_3, lw_okq q := List.forall_mem_cons.mpr ⟨lw_p32, List.forall_mem_cons.mpr ⟨lw_p33, List.forall_mem_cons.mpr ⟨lw_p34, List.forall_mem_cons.mpr ⟨lw_p35, List.forall_mem_cons.mpr ⟨lw_p36, List.forall_mem_cons.mpr ⟨lw_p37, List.forall_mem_cons.mpr ⟨lw_p38, List.forall_mem_cons.mpr ⟨lw_p39, List.forall_mem_cons.mpr ⟨lw_p40, List.forall_mem_cons.mpr ⟨lw_p41, List.forall_mem_cons.mpr ⟨lw_p42, List.forall_mem_cons.mpr ⟨lw_p43, List.forall_mem_cons.mpr ⟨lw_p44, List.forall_mem_cons.mpr ⟨lw_p45, List.forall_mem_cons.mpr ⟨lw_p46, List.forall_mem_cons.mpr ⟨lw_p47, fun _ h => absurd h List.not_mem_nil⟩⟩⟩⟩⟩⟩⟩⟩⟩⟩⟩⟩⟩⟩⟩⟩
theorem lw_p48 : lw_okq (⟨"SoundPaidModel", "ofRow", "(II)I"⟩, 35) := ⟨⟨by decide +kernel, by decide +kernel⟩, List.mem_of_getElem? (i := 802) (by decide +kernel), List.mem_of_getElem? (i := 1163) (by decide +kernel), List.mem_of_getElem? (i := 1164) (by decide +kernel)⟩
theorem lw_p49 : lw_okq (⟨"SoundPaidModel", "neverNow", "()I"⟩, 35) := ⟨⟨by decide +kernel, by decide +kernel⟩, List.mem_of_getElem? (i := 802) (by decide +kernel), List.mem_of_getElem? (i := 1179) (by decide +kernel), List.mem_of_getElem? (i := 1180) (by decide +kernel)⟩
theorem lw_p50 : lw_okq (⟨"SoundPaidModel", "isSeen", "()Z"⟩, 35) := ⟨⟨by decide +kernel, by decide +kernel⟩, List.mem_of_getElem? (i := 802) (by decide +kernel), List.mem_of_getElem? (i := 1183) (by decide +kernel), List.mem_of_getElem? (i := 1184) (by decide +kernel)⟩
theorem lw_p51 : lw_okq (⟨"SoundPaidModel", "leakedOf", "(I)I"⟩, 35) := ⟨⟨by decide +kernel, by decide +kernel⟩, List.mem_of_getElem? (i := 802) (by decide +kernel), List.mem_of_getElem? (i := 1191) (by decide +kernel), List.mem_of_getElem? (i := 1192) (by decide +kernel)⟩
theorem lw_p52 : lw_okq (⟨"SoundPaidModel", "askOf", "(I)I"⟩, 35) := ⟨⟨by decide +kernel, by decide +kernel⟩, List.mem_of_getElem? (i := 802) (by decide +kernel), List.mem_of_getElem? (i := 1199) (by decide +kernel), List.mem_of_getElem? (i := 1200) (by decide +kernel)⟩
theorem lw_p53 : lw_okq (⟨"SoundPaidModel", "courtOf", "(IIII)J"⟩, 35) := ⟨⟨by decide +kernel, by decide +kernel⟩, List.mem_of_getElem? (i := 802) (by decide +kernel), List.mem_of_getElem? (i := 1207) (by decide +kernel), List.mem_of_getElem? (i := 1208) (by decide +kernel)⟩
theorem lw_p54 : lw_okq (⟨"SoundPaidModel", "monthOf", "(III)I"⟩, 35) := ⟨⟨by decide +kernel, by decide +kernel⟩, List.mem_of_getElem? (i := 802) (by decide +kernel), List.mem_of_getElem? (i := 1222) (by decide +kernel), List.mem_of_getElem? (i := 1223) (by decide +kernel)⟩
theorem lw_p55 : lw_okq (⟨"SoundPaidModel", "lacks", "(III)I"⟩, 35) := ⟨⟨by decide +kernel, by decide +kernel⟩, List.mem_of_getElem? (i := 802) (by decide +kernel), List.mem_of_getElem? (i := 1239) (by decide +kernel), List.mem_of_getElem? (i := 1240) (by decide +kernel)⟩
theorem lw_p56 : lw_okq (⟨"SoundPaidModel", "keep", "(III)V"⟩, 35) := ⟨⟨by decide +kernel, by decide +kernel⟩, List.mem_of_getElem? (i := 802) (by decide +kernel), List.mem_of_getElem? (i := 1243) (by decide +kernel), List.mem_of_getElem? (i := 1244) (by decide +kernel)⟩
theorem lw_p57 : lw_okq (⟨"SoundPaidModel", "partsMany", "(I)I"⟩, 35) := ⟨⟨by decide +kernel, by decide +kernel⟩, List.mem_of_getElem? (i := 802) (by decide +kernel), List.mem_of_getElem? (i := 1264) (by decide +kernel), List.mem_of_getElem? (i := 1265) (by decide +kernel)⟩
theorem lw_p58 : lw_okq (⟨"SoundPaidModel", "allThick", "()I"⟩, 35) := ⟨⟨by decide +kernel, by decide +kernel⟩, List.mem_of_getElem? (i := 802) (by decide +kernel), List.mem_of_getElem? (i := 1268) (by decide +kernel), List.mem_of_getElem? (i := 1269) (by decide +kernel)⟩
theorem lw_p59 : lw_okq (⟨"SoundPaidModel", "houseDigest", "(JI)J"⟩, 35) := ⟨⟨by decide +kernel, by decide +kernel⟩, List.mem_of_getElem? (i := 802) (by decide +kernel), List.mem_of_getElem? (i := 1279) (by decide +kernel), List.mem_of_getElem? (i := 1280) (by decide +kernel)⟩
theorem lw_p60 : lw_okq (⟨"SoundPaidModel", "dayDigest", "(JI)J"⟩, 35) := ⟨⟨by decide +kernel, by decide +kernel⟩, List.mem_of_getElem? (i := 802) (by decide +kernel), List.mem_of_getElem? (i := 1285) (by decide +kernel), List.mem_of_getElem? (i := 1286) (by decide +kernel)⟩
def lw_privs_4 : List (MethodName × Nat) := [(⟨"SoundPaidModel", "ofRow", "(II)I"⟩, 35), (⟨"SoundPaidModel", "neverNow", "()I"⟩, 35), (⟨"SoundPaidModel", "isSeen", "()Z"⟩, 35), (⟨"SoundPaidModel", "leakedOf", "(I)I"⟩, 35), (⟨"SoundPaidModel", "askOf", "(I)I"⟩, 35), (⟨"SoundPaidModel", "courtOf", "(IIII)J"⟩, 35), (⟨"SoundPaidModel", "monthOf", "(III)I"⟩, 35), (⟨"SoundPaidModel", "lacks", "(III)I"⟩, 35), (⟨"SoundPaidModel", "keep", "(III)V"⟩, 35), (⟨"SoundPaidModel", "partsMany", "(I)I"⟩, 35), (⟨"SoundPaidModel", "allThick", "()I"⟩, 35), (⟨"SoundPaidModel", "houseDigest", "(JI)J"⟩, 35), (⟨"SoundPaidModel", "dayDigest", "(JI)J"⟩, 35)]
theorem lw_r4 : ∀ q ∈ lw_privs_4, lw_okq q := List.forall_mem_cons.mpr ⟨lw_p48, List.forall_mem_cons.mpr ⟨lw_p49, List.forall_mem_cons.mpr ⟨lw_p50, List.forall_mem_cons.mpr ⟨lw_p51, List.forall_mem_cons.mpr ⟨lw_p52, List.forall_mem_cons.mpr ⟨lw_p53, List.forall_mem_cons.mpr ⟨lw_p54, List.forall_mem_cons.mpr ⟨lw_p55, List.forall_mem_cons.mpr ⟨lw_p56, List.forall_mem_cons.mpr ⟨lw_p57, List.forall_mem_cons.mpr ⟨lw_p58, List.forall_mem_cons.mpr ⟨lw_p59, List.forall_mem_cons.mpr ⟨lw_p60, fun _ h => absurd h List.not_mem_nil⟩⟩⟩⟩⟩⟩⟩⟩⟩⟩⟩⟩⟩
def lw_privs : List (MethodName × Nat) := lw_privs_1 ++ (lw_privs_2 ++ (lw_privs_3 ++ (lw_privs_4)))
def lw_tbl : List Cond := k2_sels lw_privs ++ tables_1
theorem lw_privs_ok : ∀ q ∈ lw_privs, lw_okq q := by
  show ∀ q ∈ lw_privs_1 ++ (lw_privs_2 ++ (lw_privs_3 ++ (lw_privs_4))), lw_okq q
  exact List.forall_mem_append.mpr ⟨lw_r1, List.forall_mem_append.mpr ⟨lw_r2, List.forall_mem_append.mpr ⟨lw_r3, lw_r4⟩⟩⟩

def tbl : List Cond := lw_tbl.filter goodWord
theorem tbl_in {w : Cond} (i : Nat) (h : lw_tbl[i]? = some w) (g : goodWord w = true) : w ∈ tbl := List.mem_filter.mpr ⟨List.mem_of_getElem? h, g⟩
theorem tbl_good : ∀ w ∈ tbl, (w.onTables && w.keeps) = true ∨ ∃ ty, w = .arrayClass ty := fun _ h => good_of_word (List.mem_filter.mp h).2
theorem tbl_lw : ∀ w ∈ tbl, w ∈ lw_tbl := fun _ h => (List.mem_filter.mp h).1
end
section
/-! The worlds as pure pictures: a picture is a row of ints for each cell; V says 'from this frame, over this picture, it goes well'. -/
abbrev Hp : Type := Nat → Nat → Int32
def st (σ : Hp) (o i : Nat) (v : Int32) : Hp := fun q => if q = o then upd (σ o) i v else σ q
theorem st_at (σ : Hp) (o i : Nat) (v : Int32) : st σ o i v o = upd (σ o) i v := if_pos rfl
theorem st_ne (σ : Hp) {o q : Nat} (i : Nat) (v : Int32) (h : q ≠ o) : st σ o i v q = σ q := if_neg h
/-- a cell's shape: an object (class, fields: an int, or a fixed cell), or an array (kind: 0 ints, 1 booleans, k + 2 objects from k on; length) -/
abbrev Shp : Type := (Nat × List (Nat ⊕ Nat)) ⊕ (Nat × Nat)
/-- addresses, classes of int, boolean and object arrays, the classes' numbers -/
abbrev Wd : Type := (Nat → Nat) × ClassId × ClassId × ClassId × va_G
def fcel (w : Wd) (f : Nat → Int32) : Nat ⊕ Nat → Value
  | .inl j => .int (f j)
  | .inr q => .ref (w.1 q)
def cel (w : Wd) (f : Nat → Int32) : Shp → va_E
  | .inl (ci, fs) => .inr (ci, fs.map (fcel w f))
  | .inr (0, n) => .inl (w.2.1, n, .inl f)
  | .inr (1, n) => .inl (w.2.2.1, n, .inl f)
  | .inr (k + 2, n) => .inl (w.2.2.2.1, n, .inr (.inr (.inr (.inr (fun i => some (w.1 (k + i)))))))
def cels (sh : List Shp) (w : Wd) (σ : Hp) : va_W := sh.mapIdx (fun o x => (w.1 o, cel w (σ o) x))
abbrev Wk : Type := List Shp × (Wd → (Nat → Prop) → State → Heap → Prop)
def AW (μ : Wk) (w : Wd) : Nat → Prop := fun q => ∃ o, o < μ.1.length ∧ q = w.1 o
def tysW (w : Wd) : List (ClassId × FieldType) := [(w.2.1, .int), (w.2.2.1, .boolean), (w.2.2.2.1, .object "SoundPaid$Sheet")]
def Inj (μ : Wk) (w : Wd) : Prop := ∀ i j, i < μ.1.length → j < μ.1.length → w.1 i = w.1 j → i = j
theorem cels_get {sh : List Shp} {w : Wd} {σ : Hp} {o : Nat} {x : Shp} (h : sh[o]? = some x) : (cels sh w σ)[o]? = some (w.1 o, cel w (σ o) x) := by
  simp [cels, List.getElem?_mapIdx, h]
theorem cels_D {μ : Wk} {w : Wd} (σ : Hp) (hi : Inj μ w) : va_D (AW μ w) (cels μ.1 w σ) := by
  have key : ∀ (k : Nat) (q : Nat × va_E), (cels μ.1 w σ)[k]? = some q → k < μ.1.length ∧ q.1 = w.1 k := by
    intro k q h
    simp only [cels, List.getElem?_mapIdx, Option.map_eq_some_iff] at h
    obtain ⟨x, h1, h2⟩ := h
    exact ⟨(List.getElem?_eq_some_iff.mp h1).1, by rw [← h2]⟩
  refine ⟨fun i j p q hp hq e => ?_, fun k q h => ?_⟩
  · obtain ⟨a1, a2⟩ := key i p hp
    obtain ⟨b1, b2⟩ := key j q hq
    exact hi i j a1 b1 (by rw [← a2, ← b2, e])
  · obtain ⟨a1, a2⟩ := key k q h
    exact ⟨k, a1, a2⟩
theorem cels_set {sh : List Shp} {w : Wd} {σ : Hp} {o : Nat} {x : Shp} {τ : Hp} (h : sh[o]? = some x) (hne : ∀ q, q ≠ o → τ q = σ q) : (cels sh w σ).set o (w.1 o, cel w (τ o) x) = cels sh w τ := by
  apply List.ext_getElem?
  intro i
  rw [List.getElem?_set]
  by_cases hi : o = i
  · subst hi
    have hl : o < (cels sh w σ).length := by simp [cels]; exact (List.getElem?_eq_some_iff.mp h).1
    rw [if_pos rfl, if_pos hl, cels_get h]
  · rw [if_neg hi]
    simp only [cels, List.getElem?_mapIdx]
    rw [hne i (fun e => hi e.symm)]
-- locals by their places
def asl : Nat → List (Option Value) → List (Nat × Value)
  | _, [] => []
  | i, some v :: r => (i, v) :: asl (i + 1) r
  | i, none :: r => asl (i + 1) r
def lhas (ls : Array Slot) (nL : Nat) (lo : List (Option Value)) : Prop := lv_has ls nL (asl 0 lo)
theorem asl_mem : ∀ (lo : List (Option Value)) (b : Nat) (q : Nat × Value), q ∈ asl b lo ↔ b ≤ q.1 ∧ lo[q.1 - b]? = some (some q.2) := by
  intro lo
  induction lo with
  | nil => intro b q; simp [asl]
  | cons a r ih =>
    intro b q
    have tail : ((b + 1 ≤ q.1 ∧ r[q.1 - (b + 1)]? = some (some q.2)) ↔ (b ≤ q.1 ∧ q.1 ≠ b ∧ (a :: r)[q.1 - b]? = some (some q.2))) := by
      constructor
      · rintro ⟨h1, h2⟩
        refine ⟨by omega, by omega, ?_⟩
        rw [show q.1 - b = (q.1 - (b + 1)) + 1 by omega, List.getElem?_cons_succ]; exact h2
      · rintro ⟨h1, h2, h3⟩
        refine ⟨by omega, ?_⟩
        rw [show q.1 - b = (q.1 - (b + 1)) + 1 by omega, List.getElem?_cons_succ] at h3; exact h3
    cases a with
    | none =>
      simp only [asl]
      rw [ih (b + 1) q, tail]
      constructor
      · rintro ⟨h1, -, h3⟩; exact ⟨h1, h3⟩
      · rintro ⟨h1, h3⟩
        refine ⟨h1, fun e => ?_, h3⟩
        rw [e] at h3; simp at h3
    | some v =>
      simp only [asl, List.mem_cons]
      rw [ih (b + 1) q, tail]
      constructor
      · rintro (h | ⟨h1, -, h3⟩)
        · rw [h]; simp
        · exact ⟨h1, h3⟩
      · rintro ⟨h1, h3⟩
        by_cases e : q.1 = b
        · left
          rw [e] at h3
          simp at h3
          exact Prod.ext e h3.symm
        · exact Or.inr ⟨h1, e, h3⟩
theorem lhas_at {ls : Array Slot} {nL : Nat} {lo : List (Option Value)} (h : lhas ls nL lo) {i : Nat} {v : Value} (hi : lo[i]? = some (some v)) : ls[i]? = some (.val v) :=
  h.2.2 (i, v) ((asl_mem lo 0 (i, v)).mpr ⟨Nat.zero_le _, by simpa using hi⟩)
theorem lhas_of {ls : Array Slot} {nL : Nat} {l : List (Nat × Value)} {lo : List (Option Value)} (h : lv_has ls nL l) (hs : ∀ i v, lo[i]? = some (some v) → (i, v) ∈ l) : lhas ls nL lo := by
  refine ⟨h.1, h.2.1, fun q hq => h.2.2 q ?_⟩
  obtain ⟨-, h2⟩ := (asl_mem lo 0 q).mp hq
  exact hs q.1 q.2 (by simpa using h2)
def msk : List Bool → List (Option Value) → List (Option Value)
  | true :: b, a :: r => a :: msk b r
  | false :: b, _ :: r => none :: msk b r
  | _, _ => []
theorem msk_get : ∀ (b : List Bool) (lo : List (Option Value)) (i : Nat) (v : Value), (msk b lo)[i]? = some (some v) → lo[i]? = some (some v) := by
  intro b
  induction b with
  | nil => intro lo i v h; simp [msk] at h
  | cons c b ih =>
    intro lo i v h
    cases lo with
    | nil => cases c <;> simp [msk] at h
    | cons a r =>
      cases c <;> cases i with
      | zero => simp [msk] at h ⊢ <;> exact h
      | succ i => simp [msk] at h ⊢; exact ih r i v h
theorem lhas_msk {ls : Array Slot} {nL : Nat} {lo : List (Option Value)} (h : lhas ls nL lo) (b : List Bool) : lhas ls nL (msk b lo) :=
  lhas_of h (fun i v hi => (asl_mem lo 0 (i, v)).mpr ⟨Nat.zero_le _, by simpa using msk_get b lo i v hi⟩)
/-- behind a store of one slot: a long that stood one place ahead is gone -/
def kil : Option Value → Option Value
  | some (.long _) => none
  | some (.double _) => none
  | a => a
theorem kil_some {a : Option Value} {v : Value} (h : kil a = some v) : a = some v ∧ v.category = 1 := by
  cases a with
  | none => cases h
  | some u => cases u <;> simp [kil] at h <;> subst h <;> exact ⟨rfl, rfl⟩
def sto1 : List (Option Value) → Nat → Value → List (Option Value)
  | [], _, _ => []
  | _ :: r, 0, v => some v :: r
  | a :: r, 1, v => kil a :: sto1 r 0 v
  | a :: r, i + 2, v => a :: sto1 r (i + 1) v
def sto2 : List (Option Value) → Nat → Value → List (Option Value)
  | _ :: _ :: r, 0, v => some v :: none :: r
  | a :: r, 1, v => kil a :: sto2 r 0 v
  | a :: r, i + 2, v => a :: sto2 r (i + 1) v
  | _, _, _ => []
theorem sto1_get : ∀ (lo : List (Option Value)) (i : Nat) (v : Value) (j : Nat) (u : Value), (sto1 lo i v)[j]? = some (some u) → (j = i ∧ u = v) ∨ (j ≠ i ∧ lo[j]? = some (some u) ∧ ¬ (j + 1 = i ∧ u.category = 2)) := by
  intro lo
  induction lo with
  | nil => intro i v j u h; simp [sto1] at h
  | cons a r ih =>
    intro i v j u h
    match i, j with
    | 0, 0 => simp [sto1] at h; exact Or.inl ⟨rfl, h.symm⟩
    | 0, j + 1 => simp [sto1] at h; exact Or.inr ⟨by omega, by simpa using h, by omega⟩
    | 1, 0 =>
      simp [sto1] at h
      obtain ⟨h1, h2⟩ := kil_some h
      exact Or.inr ⟨by omega, by simpa using h1, by omega⟩
    | 1, j + 1 =>
      simp [sto1] at h
      rcases ih 0 v j u h with ⟨h1, h2⟩ | ⟨h1, h2, h3⟩
      · exact Or.inl ⟨by omega, h2⟩
      · exact Or.inr ⟨by omega, by simpa using h2, by omega⟩
    | i + 2, 0 => simp [sto1] at h; exact Or.inr ⟨by omega, by simpa using h, by omega⟩
    | i + 2, j + 1 =>
      simp [sto1] at h
      rcases ih (i + 1) v j u h with ⟨h1, h2⟩ | ⟨h1, h2, h3⟩
      · exact Or.inl ⟨by omega, h2⟩
      · exact Or.inr ⟨by omega, by simpa using h2, fun z => h3 ⟨by omega, z.2⟩⟩
theorem sto2_get : ∀ (lo : List (Option Value)) (i : Nat) (v : Value) (j : Nat) (u : Value), (sto2 lo i v)[j]? = some (some u) → (j = i ∧ u = v) ∨ (j ≠ i ∧ j ≠ i + 1 ∧ lo[j]? = some (some u) ∧ ¬ (j + 1 = i ∧ u.category = 2)) := by
  intro lo
  induction lo with
  | nil => intro i v j u h; cases i <;> simp [sto2] at h
  | cons a r ih =>
    intro i v j u h
    match i, j with
    | 0, 0 =>
      cases r with
      | nil => simp [sto2] at h
      | cons b r => simp [sto2] at h; exact Or.inl ⟨rfl, h.symm⟩
    | 0, j + 1 =>
      cases r with
      | nil => simp [sto2] at h
      | cons b r =>
        cases j with
        | zero => simp [sto2] at h
        | succ j => simp [sto2] at h; exact Or.inr ⟨by omega, by omega, by simpa using h, by omega⟩
    | 1, 0 =>
      simp [sto2] at h
      obtain ⟨h1, h2⟩ := kil_some h
      exact Or.inr ⟨by omega, by omega, by simpa using h1, by omega⟩
    | 1, j + 1 =>
      simp [sto2] at h
      rcases ih 0 v j u h with ⟨h1, h2⟩ | ⟨h1, h1', h2, h3⟩
      · exact Or.inl ⟨by omega, h2⟩
      · exact Or.inr ⟨by omega, by omega, by simpa using h2, by omega⟩
    | i + 2, 0 => simp [sto2] at h; exact Or.inr ⟨by omega, by omega, by simpa using h, by omega⟩
    | i + 2, j + 1 =>
      simp [sto2] at h
      rcases ih (i + 1) v j u h with ⟨h1, h2⟩ | ⟨h1, h1', h2, h3⟩
      · exact Or.inl ⟨by omega, h2⟩
      · exact Or.inr ⟨by omega, by omega, by simpa using h2, fun z => h3 ⟨by omega, z.2⟩⟩
theorem lhas_sto1 {ls : Array Slot} {nL i : Nat} {v : Value} {lo : List (Option Value)} (h : lv_has ls nL ((i, v) :: (asl 0 lo).filter (fun q => !(q.1 == i) && !(q.1 + 1 == i && q.2.category == 2)))) : lhas ls nL (sto1 lo i v) := by
  refine lhas_of h (fun j u hj => ?_)
  rcases sto1_get lo i v j u hj with ⟨h1, h2⟩ | ⟨h1, h2, h3⟩
  · rw [h1, h2]; exact List.mem_cons_self
  · refine List.mem_cons_of_mem _ (List.mem_filter.mpr ⟨(asl_mem lo 0 (j, u)).mpr ⟨Nat.zero_le _, by simpa using h2⟩, ?_⟩)
    simp only [Bool.and_eq_true, Bool.not_eq_true', beq_eq_false_iff_ne, ne_eq, Bool.and_eq_false_iff]
    refine ⟨h1, ?_⟩
    by_cases e : j + 1 = i
    · exact Or.inr (fun z => h3 ⟨e, z⟩)
    · exact Or.inl e
theorem lhas_sto2 {ls : Array Slot} {nL i : Nat} {v : Value} {lo : List (Option Value)} (h : lv_has ls nL ((i, v) :: (asl 0 lo).filter (fun q => !(q.1 == i) && (!(q.1 == i + 1) && !(q.1 + 1 == i && q.2.category == 2))))) : lhas ls nL (sto2 lo i v) := by
  refine lhas_of h (fun j u hj => ?_)
  rcases sto2_get lo i v j u hj with ⟨h1, h2⟩ | ⟨h1, h1', h2, h3⟩
  · rw [h1, h2]; exact List.mem_cons_self
  · refine List.mem_cons_of_mem _ (List.mem_filter.mpr ⟨(asl_mem lo 0 (j, u)).mpr ⟨Nat.zero_le _, by simpa using h2⟩, ?_⟩)
    simp only [Bool.and_eq_true, Bool.not_eq_true', beq_eq_false_iff_ne, ne_eq, Bool.and_eq_false_iff]
    refine ⟨h1, h1', ?_⟩
    by_cases e : j + 1 = i
    · exact Or.inr (fun z => h3 ⟨e, z⟩)
    · exact Or.inl e
end
