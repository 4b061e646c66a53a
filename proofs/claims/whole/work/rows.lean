section
-- ===== PART A: goes FIRST, ahead of the names: the tables' words, and 'selects' of the private methods out of them =====
/-- a private method of a class that the tables say can be made, by its rows of tables_1 -/
def lw_okq (q : MethodName × Nat) : Prop := (q.1.cls ≠ "java/lang/invoke/MethodHandle" ∧ q.1.cls ≠ "java/lang/invoke/VarHandle") ∧ Cond.instantiable q.1.cls q.2 ∈ tables_1 ∧ Cond.privateMethod q.1 ∈ tables_1 ∧ Cond.instanceMethod q.1 ∈ tables_1
theorem lw_p0 : lw_okq (⟨"HallAnswers$TextReader", "lineBegun", "()I"⟩, 4) := ⟨⟨by decide +kernel, by decide +kernel⟩, List.mem_of_getElem? (i := 165) (by decide +kernel), List.mem_of_getElem? (i := 392) (by decide +kernel), List.mem_of_getElem? (i := 393) (by decide +kernel)⟩
theorem lw_p1 : lw_okq (⟨"HallAnswers$TextReader", "readLine", "(I)V"⟩, 4) := ⟨⟨by decide +kernel, by decide +kernel⟩, List.mem_of_getElem? (i := 165) (by decide +kernel), List.mem_of_getElem? (i := 462) (by decide +kernel), List.mem_of_getElem? (i := 463) (by decide +kernel)⟩
theorem lw_p2 : lw_okq (⟨"HallAnswers$TextReader", "readRule", "(I)V"⟩, 4) := ⟨⟨by decide +kernel, by decide +kernel⟩, List.mem_of_getElem? (i := 165) (by decide +kernel), List.mem_of_getElem? (i := 466) (by decide +kernel), List.mem_of_getElem? (i := 467) (by decide +kernel)⟩
theorem lw_p3 : lw_okq (⟨"HallAnswers$TextReader", "failHere", "(I)V"⟩, 4) := ⟨⟨by decide +kernel, by decide +kernel⟩, List.mem_of_getElem? (i := 165) (by decide +kernel), List.mem_of_getElem? (i := 473) (by decide +kernel), List.mem_of_getElem? (i := 474) (by decide +kernel)⟩
theorem lw_p4 : lw_okq (⟨"HallAnswers$TextReader", "readNumber", "(II)I"⟩, 4) := ⟨⟨by decide +kernel, by decide +kernel⟩, List.mem_of_getElem? (i := 165) (by decide +kernel), List.mem_of_getElem? (i := 478) (by decide +kernel), List.mem_of_getElem? (i := 479) (by decide +kernel)⟩
theorem lw_p5 : lw_okq (⟨"HallAnswers$TextReader", "readSign", "()V"⟩, 4) := ⟨⟨by decide +kernel, by decide +kernel⟩, List.mem_of_getElem? (i := 165) (by decide +kernel), List.mem_of_getElem? (i := 483) (by decide +kernel), List.mem_of_getElem? (i := 484) (by decide +kernel)⟩
theorem lw_p6 : lw_okq (⟨"HallAnswers$TextReader", "requireSign", "()V"⟩, 4) := ⟨⟨by decide +kernel, by decide +kernel⟩, List.mem_of_getElem? (i := 165) (by decide +kernel), List.mem_of_getElem? (i := 487) (by decide +kernel), List.mem_of_getElem? (i := 488) (by decide +kernel)⟩
theorem lw_p7 : lw_okq (⟨"HallAnswers$TextReader", "readBench", "()V"⟩, 4) := ⟨⟨by decide +kernel, by decide +kernel⟩, List.mem_of_getElem? (i := 165) (by decide +kernel), List.mem_of_getElem? (i := 491) (by decide +kernel), List.mem_of_getElem? (i := 492) (by decide +kernel)⟩
theorem lw_p8 : lw_okq (⟨"HallAnswers$TextReader", "readKind", "()I"⟩, 4) := ⟨⟨by decide +kernel, by decide +kernel⟩, List.mem_of_getElem? (i := 165) (by decide +kernel), List.mem_of_getElem? (i := 495) (by decide +kernel), List.mem_of_getElem? (i := 496) (by decide +kernel)⟩
theorem lw_p9 : lw_okq (⟨"HallAnswers$TextReader", "readDeafCell", "(I)V"⟩, 4) := ⟨⟨by decide +kernel, by decide +kernel⟩, List.mem_of_getElem? (i := 165) (by decide +kernel), List.mem_of_getElem? (i := 511) (by decide +kernel), List.mem_of_getElem? (i := 512) (by decide +kernel)⟩
theorem lw_p10 : lw_okq (⟨"HallAnswers$TextReader", "readWant", "(I)V"⟩, 4) := ⟨⟨by decide +kernel, by decide +kernel⟩, List.mem_of_getElem? (i := 165) (by decide +kernel), List.mem_of_getElem? (i := 523) (by decide +kernel), List.mem_of_getElem? (i := 524) (by decide +kernel)⟩
theorem lw_p11 : lw_okq (⟨"HallAnswers$TextReader", "readWhisper", "()V"⟩, 4) := ⟨⟨by decide +kernel, by decide +kernel⟩, List.mem_of_getElem? (i := 165) (by decide +kernel), List.mem_of_getElem? (i := 531) (by decide +kernel), List.mem_of_getElem? (i := 532) (by decide +kernel)⟩
theorem lw_p12 : lw_okq (⟨"HallAnswers$TextReader", "checkAll", "()V"⟩, 4) := ⟨⟨by decide +kernel, by decide +kernel⟩, List.mem_of_getElem? (i := 165) (by decide +kernel), List.mem_of_getElem? (i := 546) (by decide +kernel), List.mem_of_getElem? (i := 547) (by decide +kernel)⟩
theorem lw_p13 : lw_okq (⟨"HallAnswers$TextReader", "anyCellMissing", "()Z"⟩, 4) := ⟨⟨by decide +kernel, by decide +kernel⟩, List.mem_of_getElem? (i := 165) (by decide +kernel), List.mem_of_getElem? (i := 550) (by decide +kernel), List.mem_of_getElem? (i := 551) (by decide +kernel)⟩
theorem lw_p14 : lw_okq (⟨"HallAnswers$TextReader", "anyOneMissing", "()Z"⟩, 4) := ⟨⟨by decide +kernel, by decide +kernel⟩, List.mem_of_getElem? (i := 165) (by decide +kernel), List.mem_of_getElem? (i := 562) (by decide +kernel), List.mem_of_getElem? (i := 563) (by decide +kernel)⟩
theorem lw_p15 : lw_okq (⟨"HallAnswers", "isBench", "(I)Z"⟩, 10) := ⟨⟨by decide +kernel, by decide +kernel⟩, List.mem_of_getElem? (i := 22) (by decide +kernel), List.mem_of_getElem? (i := 606) (by decide +kernel), List.mem_of_getElem? (i := 607) (by decide +kernel)⟩
def lw_privs_1 : List (MethodName × Nat) := [(⟨"HallAnswers$TextReader", "lineBegun", "()I"⟩, 4), (⟨"HallAnswers$TextReader", "readLine", "(I)V"⟩, 4), (⟨"HallAnswers$TextReader", "readRule", "(I)V"⟩, 4), (⟨"HallAnswers$TextReader", "failHere", "(I)V"⟩, 4), (⟨"HallAnswers$TextReader", "readNumber", "(II)I"⟩, 4), (⟨"HallAnswers$TextReader", "readSign", "()V"⟩, 4), (⟨"HallAnswers$TextReader", "requireSign", "()V"⟩, 4), (⟨"HallAnswers$TextReader", "readBench", "()V"⟩, 4), (⟨"HallAnswers$TextReader", "readKind", "()I"⟩, 4), (⟨"HallAnswers$TextReader", "readDeafCell", "(I)V"⟩, 4), (⟨"HallAnswers$TextReader", "readWant", "(I)V"⟩, 4), (⟨"HallAnswers$TextReader", "readWhisper", "()V"⟩, 4), (⟨"HallAnswers$TextReader", "checkAll", "()V"⟩, 4), (⟨"HallAnswers$TextReader", "anyCellMissing", "()Z"⟩, 4), (⟨"HallAnswers$TextReader", "anyOneMissing", "()Z"⟩, 4), (⟨"HallAnswers", "isBench", "(I)Z"⟩, 10)]
theorem lw_r1 : ∀ q ∈ lw_privs_1, lw_okq q := List.forall_mem_cons.mpr ⟨lw_p0, List.forall_mem_cons.mpr ⟨lw_p1, List.forall_mem_cons.mpr ⟨lw_p2, List.forall_mem_cons.mpr ⟨lw_p3, List.forall_mem_cons.mpr ⟨lw_p4, List.forall_mem_cons.mpr ⟨lw_p5, List.forall_mem_cons.mpr ⟨lw_p6, List.forall_mem_cons.mpr ⟨lw_p7, List.forall_mem_cons.mpr ⟨lw_p8, List.forall_mem_cons.mpr ⟨lw_p9, List.forall_mem_cons.mpr ⟨lw_p10, List.forall_mem_cons.mpr ⟨lw_p11, List.forall_mem_cons.mpr ⟨lw_p12, List.forall_mem_cons.mpr ⟨lw_p13, List.forall_mem_cons.mpr ⟨lw_p14, List.forall_mem_cons.mpr ⟨lw_p15, fun _ h => absurd h List.not_mem_nil⟩⟩⟩⟩⟩⟩⟩⟩⟩⟩⟩⟩⟩⟩⟩⟩
theorem lw_p16 : lw_okq (⟨"HallAnswers$Benches", "exists", "(I)Z"⟩, 6) := ⟨⟨by decide +kernel, by decide +kernel⟩, List.mem_of_getElem? (i := 36) (by decide +kernel), List.mem_of_getElem? (i := 617) (by decide +kernel), List.mem_of_getElem? (i := 618) (by decide +kernel)⟩
theorem lw_p17 : lw_okq (⟨"HallAnswers", "isOne", "(I)Z"⟩, 10) := ⟨⟨by decide +kernel, by decide +kernel⟩, List.mem_of_getElem? (i := 22) (by decide +kernel), List.mem_of_getElem? (i := 663) (by decide +kernel), List.mem_of_getElem? (i := 664) (by decide +kernel)⟩
theorem lw_p18 : lw_okq (⟨"HallAnswers$Course", "reaches", "(I)Z"⟩, 4) := ⟨⟨by decide +kernel, by decide +kernel⟩, List.mem_of_getElem? (i := 234) (by decide +kernel), List.mem_of_getElem? (i := 699) (by decide +kernel), List.mem_of_getElem? (i := 700) (by decide +kernel)⟩
theorem lw_p19 : lw_okq (⟨"HallAnswers$Seatings", "takeSeating", "(I)V"⟩, 5) := ⟨⟨by decide +kernel, by decide +kernel⟩, List.mem_of_getElem? (i := 277) (by decide +kernel), List.mem_of_getElem? (i := 787) (by decide +kernel), List.mem_of_getElem? (i := 788) (by decide +kernel)⟩
theorem lw_p20 : lw_okq (⟨"HallAnswers$Seatings", "brokenBy", "(LHallAnswers$Told;I)I"⟩, 5) := ⟨⟨by decide +kernel, by decide +kernel⟩, List.mem_of_getElem? (i := 277) (by decide +kernel), List.mem_of_getElem? (i := 793) (by decide +kernel), List.mem_of_getElem? (i := 794) (by decide +kernel)⟩
theorem lw_p21 : lw_okq (⟨"HallAnswers$Seatings", "benchTried", "(I)I"⟩, 5) := ⟨⟨by decide +kernel, by decide +kernel⟩, List.mem_of_getElem? (i := 277) (by decide +kernel), List.mem_of_getElem? (i := 799) (by decide +kernel), List.mem_of_getElem? (i := 800) (by decide +kernel)⟩
theorem lw_p22 : lw_okq (⟨"HallAnswers", "bestChange", "(III)I"⟩, 10) := ⟨⟨by decide +kernel, by decide +kernel⟩, List.mem_of_getElem? (i := 22) (by decide +kernel), List.mem_of_getElem? (i := 813) (by decide +kernel), List.mem_of_getElem? (i := 814) (by decide +kernel)⟩
theorem lw_p23 : lw_okq (⟨"HallAnswers", "mayBecome", "(III)Z"⟩, 10) := ⟨⟨by decide +kernel, by decide +kernel⟩, List.mem_of_getElem? (i := 22) (by decide +kernel), List.mem_of_getElem? (i := 823) (by decide +kernel), List.mem_of_getElem? (i := 824) (by decide +kernel)⟩
theorem lw_p24 : lw_okq (⟨"HallAnswers", "hearersOnDay", "(III)I"⟩, 10) := ⟨⟨by decide +kernel, by decide +kernel⟩, List.mem_of_getElem? (i := 22) (by decide +kernel), List.mem_of_getElem? (i := 850) (by decide +kernel), List.mem_of_getElem? (i := 851) (by decide +kernel)⟩
theorem lw_p25 : lw_okq (⟨"HallAnswers", "brokenOnDay", "(II)I"⟩, 10) := ⟨⟨by decide +kernel, by decide +kernel⟩, List.mem_of_getElem? (i := 22) (by decide +kernel), List.mem_of_getElem? (i := 858) (by decide +kernel), List.mem_of_getElem? (i := 859) (by decide +kernel)⟩
theorem lw_p26 : lw_okq (⟨"HallAnswers", "whisperMore", "(III)I"⟩, 10) := ⟨⟨by decide +kernel, by decide +kernel⟩, List.mem_of_getElem? (i := 22) (by decide +kernel), List.mem_of_getElem? (i := 866) (by decide +kernel), List.mem_of_getElem? (i := 867) (by decide +kernel)⟩
theorem lw_p27 : lw_okq (⟨"HallAnswers", "isWhisper", "(I)Z"⟩, 10) := ⟨⟨by decide +kernel, by decide +kernel⟩, List.mem_of_getElem? (i := 22) (by decide +kernel), List.mem_of_getElem? (i := 883) (by decide +kernel), List.mem_of_getElem? (i := 884) (by decide +kernel)⟩
theorem lw_p28 : lw_okq (⟨"HallAnswers", "firstDirectionHeardBy", "(III)I"⟩, 10) := ⟨⟨by decide +kernel, by decide +kernel⟩, List.mem_of_getElem? (i := 22) (by decide +kernel), List.mem_of_getElem? (i := 957) (by decide +kernel), List.mem_of_getElem? (i := 958) (by decide +kernel)⟩
theorem lw_p29 : lw_okq (⟨"HallAnswers", "imageOf", "(I)LHallAnswers$Told;"⟩, 10) := ⟨⟨by decide +kernel, by decide +kernel⟩, List.mem_of_getElem? (i := 22) (by decide +kernel), List.mem_of_getElem? (i := 967) (by decide +kernel), List.mem_of_getElem? (i := 968) (by decide +kernel)⟩
theorem lw_p30 : lw_okq (⟨"HallAnswers", "whisperOfSheet", "(II)I"⟩, 10) := ⟨⟨by decide +kernel, by decide +kernel⟩, List.mem_of_getElem? (i := 22) (by decide +kernel), List.mem_of_getElem? (i := 1009) (by decide +kernel), List.mem_of_getElem? (i := 1010) (by decide +kernel)⟩
theorem lw_p31 : lw_okq (⟨"HallAnswersModel", "firstDraft", "()V"⟩, 44) := ⟨⟨by decide +kernel, by decide +kernel⟩, List.mem_of_getElem? (i := 1033) (by decide +kernel), List.mem_of_getElem? (i := 1039) (by decide +kernel), List.mem_of_getElem? (i := 1040) (by decide +kernel)⟩
def lw_privs_2 : List (MethodName × Nat) := [(⟨"HallAnswers$Benches", "exists", "(I)Z"⟩, 6), (⟨"HallAnswers", "isOne", "(I)Z"⟩, 10), (⟨"HallAnswers$Course", "reaches", "(I)Z"⟩, 4), (⟨"HallAnswers$Seatings", "takeSeating", "(I)V"⟩, 5), (⟨"HallAnswers$Seatings", "brokenBy", "(LHallAnswers$Told;I)I"⟩, 5), (⟨"HallAnswers$Seatings", "benchTried", "(I)I"⟩, 5), (⟨"HallAnswers", "bestChange", "(III)I"⟩, 10), (⟨"HallAnswers", "mayBecome", "(III)Z"⟩, 10), (⟨"HallAnswers", "hearersOnDay", "(III)I"⟩, 10), (⟨"HallAnswers", "brokenOnDay", "(II)I"⟩, 10), (⟨"HallAnswers", "whisperMore", "(III)I"⟩, 10), (⟨"HallAnswers", "isWhisper", "(I)Z"⟩, 10), (⟨"HallAnswers", "firstDirectionHeardBy", "(III)I"⟩, 10), (⟨"HallAnswers", "imageOf", "(I)LHallAnswers$Told;"⟩, 10), (⟨"HallAnswers", "whisperOfSheet", "(II)I"⟩, 10), (⟨"HallAnswersModel", "firstDraft", "()V"⟩, 44)]
theorem lw_r2 : ∀ q ∈ lw_privs_2, lw_okq q := List.forall_mem_cons.mpr ⟨lw_p16, List.forall_mem_cons.mpr ⟨lw_p17, List.forall_mem_cons.mpr ⟨lw_p18, List.forall_mem_cons.mpr ⟨lw_p19, List.forall_mem_cons.mpr ⟨lw_p20, List.forall_mem_cons.mpr ⟨lw_p21, List.forall_mem_cons.mpr ⟨lw_p22, List.forall_mem_cons.mpr ⟨lw_p23, List.forall_mem_cons.mpr ⟨lw_p24, List.forall_mem_cons.mpr ⟨lw_p25, List.forall_mem_cons.mpr ⟨lw_p26, List.forall_mem_cons.mpr ⟨lw_p27, List.forall_mem_cons.mpr ⟨lw_p28, List.forall_mem_cons.mpr ⟨lw_p29, List.forall_mem_cons.mpr ⟨lw_p30, List.forall_mem_cons.mpr ⟨lw_p31, fun _ h => absurd h List.not_mem_nil⟩⟩⟩⟩⟩⟩⟩⟩⟩⟩⟩⟩⟩⟩⟩⟩
theorem lw_p32 : lw_okq (⟨"HallAnswersModel", "keepDraft", "()V"⟩, 44) := ⟨⟨by decide +kernel, by decide +kernel⟩, List.mem_of_getElem? (i := 1033) (by decide +kernel), List.mem_of_getElem? (i := 1043) (by decide +kernel), List.mem_of_getElem? (i := 1044) (by decide +kernel)⟩
theorem lw_p33 : lw_okq (⟨"HallAnswersModel", "dPeople", "()I"⟩, 44) := ⟨⟨by decide +kernel, by decide +kernel⟩, List.mem_of_getElem? (i := 1033) (by decide +kernel), List.mem_of_getElem? (i := 1047) (by decide +kernel), List.mem_of_getElem? (i := 1048) (by decide +kernel)⟩
theorem lw_p34 : lw_okq (⟨"HallAnswersModel", "next", "()V"⟩, 44) := ⟨⟨by decide +kernel, by decide +kernel⟩, List.mem_of_getElem? (i := 1033) (by decide +kernel), List.mem_of_getElem? (i := 1201) (by decide +kernel), List.mem_of_getElem? (i := 1202) (by decide +kernel)⟩
theorem lw_p35 : lw_okq (⟨"HallAnswersModel", "look", "(I)I"⟩, 44) := ⟨⟨by decide +kernel, by decide +kernel⟩, List.mem_of_getElem? (i := 1033) (by decide +kernel), List.mem_of_getElem? (i := 1205) (by decide +kernel), List.mem_of_getElem? (i := 1206) (by decide +kernel)⟩
theorem lw_p36 : lw_okq (⟨"HallAnswersModel", "needs", "(ZI)V"⟩, 44) := ⟨⟨by decide +kernel, by decide +kernel⟩, List.mem_of_getElem? (i := 1033) (by decide +kernel), List.mem_of_getElem? (i := 1213) (by decide +kernel), List.mem_of_getElem? (i := 1214) (by decide +kernel)⟩
theorem lw_p37 : lw_okq (⟨"HallAnswersModel", "readLine", "()V"⟩, 44) := ⟨⟨by decide +kernel, by decide +kernel⟩, List.mem_of_getElem? (i := 1033) (by decide +kernel), List.mem_of_getElem? (i := 1217) (by decide +kernel), List.mem_of_getElem? (i := 1218) (by decide +kernel)⟩
theorem lw_p38 : lw_okq (⟨"HallAnswersModel", "nameNow", "()I"⟩, 44) := ⟨⟨by decide +kernel, by decide +kernel⟩, List.mem_of_getElem? (i := 1033) (by decide +kernel), List.mem_of_getElem? (i := 1221) (by decide +kernel), List.mem_of_getElem? (i := 1222) (by decide +kernel)⟩
theorem lw_p39 : lw_okq (⟨"HallAnswersModel", "is", "(IIIII)Z"⟩, 44) := ⟨⟨by decide +kernel, by decide +kernel⟩, List.mem_of_getElem? (i := 1033) (by decide +kernel), List.mem_of_getElem? (i := 1225) (by decide +kernel), List.mem_of_getElem? (i := 1226) (by decide +kernel)⟩
theorem lw_p40 : lw_okq (⟨"HallAnswersModel", "ends", "(IIII)Z"⟩, 44) := ⟨⟨by decide +kernel, by decide +kernel⟩, List.mem_of_getElem? (i := 1033) (by decide +kernel), List.mem_of_getElem? (i := 1229) (by decide +kernel), List.mem_of_getElem? (i := 1230) (by decide +kernel)⟩
theorem lw_p41 : lw_okq (⟨"HallAnswersModel", "ruleNow", "()I"⟩, 44) := ⟨⟨by decide +kernel, by decide +kernel⟩, List.mem_of_getElem? (i := 1033) (by decide +kernel), List.mem_of_getElem? (i := 1233) (by decide +kernel), List.mem_of_getElem? (i := 1234) (by decide +kernel)⟩
theorem lw_p42 : lw_okq (⟨"HallAnswersModel", "readLineOf", "(I)V"⟩, 44) := ⟨⟨by decide +kernel, by decide +kernel⟩, List.mem_of_getElem? (i := 1033) (by decide +kernel), List.mem_of_getElem? (i := 1237) (by decide +kernel), List.mem_of_getElem? (i := 1238) (by decide +kernel)⟩
theorem lw_p43 : lw_okq (⟨"HallAnswersModel", "readNumber", "(II)I"⟩, 44) := ⟨⟨by decide +kernel, by decide +kernel⟩, List.mem_of_getElem? (i := 1033) (by decide +kernel), List.mem_of_getElem? (i := 1241) (by decide +kernel), List.mem_of_getElem? (i := 1242) (by decide +kernel)⟩
theorem lw_p44 : lw_okq (⟨"HallAnswersModel", "looked", "(II)I"⟩, 44) := ⟨⟨by decide +kernel, by decide +kernel⟩, List.mem_of_getElem? (i := 1033) (by decide +kernel), List.mem_of_getElem? (i := 1245) (by decide +kernel), List.mem_of_getElem? (i := 1246) (by decide +kernel)⟩
theorem lw_p45 : lw_okq (⟨"HallAnswersModel", "readBench", "()V"⟩, 44) := ⟨⟨by decide +kernel, by decide +kernel⟩, List.mem_of_getElem? (i := 1033) (by decide +kernel), List.mem_of_getElem? (i := 1249) (by decide +kernel), List.mem_of_getElem? (i := 1250) (by decide +kernel)⟩
theorem lw_p46 : lw_okq (⟨"HallAnswersModel", "readCell", "(Z)I"⟩, 44) := ⟨⟨by decide +kernel, by decide +kernel⟩, List.mem_of_getElem? (i := 1033) (by decide +kernel), List.mem_of_getElem? (i := 1253) (by decide +kernel), List.mem_of_getElem? (i := 1254) (by decide +kernel)⟩
theorem lw_p47 : lw_okq (⟨"HallAnswersModel", "kindNow", "()I"⟩, 44) := ⟨⟨by decide +kernel, by decide +kernel⟩, List.mem_of_getElem? (i := 1033) (by decide +kernel), List.mem_of_getElem? (i := 1257) (by decide +kernel), List.mem_of_getElem? (i := 1258) (by decide +kernel)⟩
def lw_privs_3 : List (MethodName × Nat) := [(⟨"HallAnswersModel", "keepDraft", "()V"⟩, 44), (⟨"HallAnswersModel", "dPeople", "()I"⟩, 44), (⟨"HallAnswersModel", "next", "()V"⟩, 44), (⟨"HallAnswersModel", "look", "(I)I"⟩, 44), (⟨"HallAnswersModel", "needs", "(ZI)V"⟩, 44), (⟨"HallAnswersModel", "readLine", "()V"⟩, 44), (⟨"HallAnswersModel", "nameNow", "()I"⟩, 44), (⟨"HallAnswersModel", "is", "(IIIII)Z"⟩, 44), (⟨"HallAnswersModel", "ends", "(IIII)Z"⟩, 44), (⟨"HallAnswersModel", "ruleNow", "()I"⟩, 44), (⟨"HallAnswersModel", "readLineOf", "(I)V"⟩, 44), (⟨"HallAnswersModel", "readNumber", "(II)I"⟩, 44), (⟨"HallAnswersModel", "looked", "(II)I"⟩, 44), (⟨"HallAnswersModel", "readBench", "()V"⟩, 44), (⟨"HallAnswersModel", "readCell", "(Z)I"⟩, 44), (⟨"HallAnswersModel", "kindNow", "()I"⟩, 44)]
theorem lw_r3 : ∀ q ∈ lw_privs_3, lw_okq q := List.forall_mem_cons.mpr ⟨lw_p32, List.forall_mem_cons.mpr ⟨lw_p33, List.forall_mem_cons.mpr ⟨lw_p34, List.forall_mem_cons.mpr ⟨lw_p35, List.forall_mem_cons.mpr ⟨lw_p36, List.forall_mem_cons.mpr ⟨lw_p37, List.forall_mem_cons.mpr ⟨lw_p38, List.forall_mem_cons.mpr ⟨lw_p39, List.forall_mem_cons.mpr ⟨lw_p40, List.forall_mem_cons.mpr ⟨lw_p41, List.forall_mem_cons.mpr ⟨lw_p42, List.forall_mem_cons.mpr ⟨lw_p43, List.forall_mem_cons.mpr ⟨lw_p44, List.forall_mem_cons.mpr ⟨lw_p45, List.forall_mem_cons.mpr ⟨lw_p46, List.forall_mem_cons.mpr ⟨lw_p47, fun _ h => absurd h List.not_mem_nil⟩⟩⟩⟩⟩⟩⟩⟩⟩⟩⟩⟩⟩⟩⟩⟩
theorem lw_p48 : lw_okq (⟨"HallAnswersModel", "readWhisper", "()V"⟩, 44) := ⟨⟨by decide +kernel, by decide +kernel⟩, List.mem_of_getElem? (i := 1033) (by decide +kernel), List.mem_of_getElem? (i := 1261) (by decide +kernel), List.mem_of_getElem? (i := 1262) (by decide +kernel)⟩
theorem lw_p49 : lw_okq (⟨"HallAnswersModel", "readOne", "(I)I"⟩, 44) := ⟨⟨by decide +kernel, by decide +kernel⟩, List.mem_of_getElem? (i := 1033) (by decide +kernel), List.mem_of_getElem? (i := 1265) (by decide +kernel), List.mem_of_getElem? (i := 1266) (by decide +kernel)⟩
theorem lw_p50 : lw_okq (⟨"HallAnswersModel", "readWant", "(I)V"⟩, 44) := ⟨⟨by decide +kernel, by decide +kernel⟩, List.mem_of_getElem? (i := 1033) (by decide +kernel), List.mem_of_getElem? (i := 1272) (by decide +kernel), List.mem_of_getElem? (i := 1273) (by decide +kernel)⟩
theorem lw_p51 : lw_okq (⟨"HallAnswersModel", "areFree", "()Z"⟩, 44) := ⟨⟨by decide +kernel, by decide +kernel⟩, List.mem_of_getElem? (i := 1033) (by decide +kernel), List.mem_of_getElem? (i := 1276) (by decide +kernel), List.mem_of_getElem? (i := 1277) (by decide +kernel)⟩
theorem lw_p52 : lw_okq (⟨"HallAnswersModel", "isCell", "(I)Z"⟩, 44) := ⟨⟨by decide +kernel, by decide +kernel⟩, List.mem_of_getElem? (i := 1033) (by decide +kernel), List.mem_of_getElem? (i := 1292) (by decide +kernel), List.mem_of_getElem? (i := 1293) (by decide +kernel)⟩
theorem lw_p53 : lw_okq (⟨"HallAnswersModel", "isBench", "(I)Z"⟩, 44) := ⟨⟨by decide +kernel, by decide +kernel⟩, List.mem_of_getElem? (i := 1033) (by decide +kernel), List.mem_of_getElem? (i := 1301) (by decide +kernel), List.mem_of_getElem? (i := 1302) (by decide +kernel)⟩
theorem lw_p54 : lw_okq (⟨"HallAnswersModel", "cellOf", "(II)I"⟩, 44) := ⟨⟨by decide +kernel, by decide +kernel⟩, List.mem_of_getElem? (i := 1033) (by decide +kernel), List.mem_of_getElem? (i := 1309) (by decide +kernel), List.mem_of_getElem? (i := 1310) (by decide +kernel)⟩
theorem lw_p55 : lw_okq (⟨"HallAnswersModel", "kindOf", "(I)I"⟩, 44) := ⟨⟨by decide +kernel, by decide +kernel⟩, List.mem_of_getElem? (i := 1033) (by decide +kernel), List.mem_of_getElem? (i := 1313) (by decide +kernel), List.mem_of_getElem? (i := 1314) (by decide +kernel)⟩
theorem lw_p56 : lw_okq (⟨"HallAnswersModel", "facingOf", "(II)I"⟩, 44) := ⟨⟨by decide +kernel, by decide +kernel⟩, List.mem_of_getElem? (i := 1033) (by decide +kernel), List.mem_of_getElem? (i := 1317) (by decide +kernel), List.mem_of_getElem? (i := 1318) (by decide +kernel)⟩
theorem lw_p57 : lw_okq (⟨"HallAnswersModel", "earOf", "(I)I"⟩, 44) := ⟨⟨by decide +kernel, by decide +kernel⟩, List.mem_of_getElem? (i := 1033) (by decide +kernel), List.mem_of_getElem? (i := 1322) (by decide +kernel), List.mem_of_getElem? (i := 1323) (by decide +kernel)⟩
theorem lw_p58 : lw_okq (⟨"HallAnswersModel", "whoOn", "(I)I"⟩, 44) := ⟨⟨by decide +kernel, by decide +kernel⟩, List.mem_of_getElem? (i := 1033) (by decide +kernel), List.mem_of_getElem? (i := 1326) (by decide +kernel), List.mem_of_getElem? (i := 1327) (by decide +kernel)⟩
theorem lw_p59 : lw_okq (⟨"HallAnswersModel", "isOne", "(I)Z"⟩, 44) := ⟨⟨by decide +kernel, by decide +kernel⟩, List.mem_of_getElem? (i := 1033) (by decide +kernel), List.mem_of_getElem? (i := 1347) (by decide +kernel), List.mem_of_getElem? (i := 1348) (by decide +kernel)⟩
theorem lw_p60 : lw_okq (⟨"HallAnswersModel", "layPathOf", "(II)V"⟩, 44) := ⟨⟨by decide +kernel, by decide +kernel⟩, List.mem_of_getElem? (i := 1033) (by decide +kernel), List.mem_of_getElem? (i := 1356) (by decide +kernel), List.mem_of_getElem? (i := 1357) (by decide +kernel)⟩
theorem lw_p61 : lw_okq (⟨"HallAnswersModel", "layPath", "(IIZ)V"⟩, 44) := ⟨⟨by decide +kernel, by decide +kernel⟩, List.mem_of_getElem? (i := 1033) (by decide +kernel), List.mem_of_getElem? (i := 1360) (by decide +kernel), List.mem_of_getElem? (i := 1361) (by decide +kernel)⟩
theorem lw_p62 : lw_okq (⟨"HallAnswersModel", "stepTo", "(II)I"⟩, 44) := ⟨⟨by decide +kernel, by decide +kernel⟩, List.mem_of_getElem? (i := 1033) (by decide +kernel), List.mem_of_getElem? (i := 1381) (by decide +kernel), List.mem_of_getElem? (i := 1382) (by decide +kernel)⟩
theorem lw_p63 : lw_okq (⟨"HallAnswersModel", "loudAt", "(I)I"⟩, 44) := ⟨⟨by decide +kernel, by decide +kernel⟩, List.mem_of_getElem? (i := 1033) (by decide +kernel), List.mem_of_getElem? (i := 1385) (by decide +kernel), List.mem_of_getElem? (i := 1386) (by decide +kernel)⟩
def lw_privs_4 : List (MethodName × Nat) := [(⟨"HallAnswersModel", "readWhisper", "()V"⟩, 44), (⟨"HallAnswersModel", "readOne", "(I)I"⟩, 44), (⟨"HallAnswersModel", "readWant", "(I)V"⟩, 44), (⟨"HallAnswersModel", "areFree", "()Z"⟩, 44), (⟨"HallAnswersModel", "isCell", "(I)Z"⟩, 44), (⟨"HallAnswersModel", "isBench", "(I)Z"⟩, 44), (⟨"HallAnswersModel", "cellOf", "(II)I"⟩, 44), (⟨"HallAnswersModel", "kindOf", "(I)I"⟩, 44), (⟨"HallAnswersModel", "facingOf", "(II)I"⟩, 44), (⟨"HallAnswersModel", "earOf", "(I)I"⟩, 44), (⟨"HallAnswersModel", "whoOn", "(I)I"⟩, 44), (⟨"HallAnswersModel", "isOne", "(I)Z"⟩, 44), (⟨"HallAnswersModel", "layPathOf", "(II)V"⟩, 44), (⟨"HallAnswersModel", "layPath", "(IIZ)V"⟩, 44), (⟨"HallAnswersModel", "stepTo", "(II)I"⟩, 44), (⟨"HallAnswersModel", "loudAt", "(I)I"⟩, 44)]
theorem lw_r4 : ∀ q ∈ lw_privs_4, lw_okq q := List.forall_mem_cons.mpr ⟨lw_p48, List.forall_mem_cons.mpr ⟨lw_p49, List.forall_mem_cons.mpr ⟨lw_p50, List.forall_mem_cons.mpr ⟨lw_p51, List.forall_mem_cons.mpr ⟨lw_p52, List.forall_mem_cons.mpr ⟨lw_p53, List.forall_mem_cons.mpr ⟨lw_p54, List.forall_mem_cons.mpr ⟨lw_p55, List.forall_mem_cons.mpr ⟨lw_p56, List.forall_mem_cons.mpr ⟨lw_p57, List.forall_mem_cons.mpr ⟨lw_p58, List.forall_mem_cons.mpr ⟨lw_p59, List.forall_mem_cons.mpr ⟨lw_p60, List.forall_mem_cons.mpr ⟨lw_p61, List.forall_mem_cons.mpr ⟨lw_p62, List.forall_mem_cons.mpr ⟨lw_p63, fun _ h => absurd h List.not_mem_nil⟩⟩⟩⟩⟩⟩⟩⟩⟩⟩⟩⟩⟩⟩⟩⟩
theorem lw_p64 : lw_okq (⟨"HallAnswersModel", "heardOf", "(II)I"⟩, 44) := ⟨⟨by decide +kernel, by decide +kernel⟩, List.mem_of_getElem? (i := 1033) (by decide +kernel), List.mem_of_getElem? (i := 1393) (by decide +kernel), List.mem_of_getElem? (i := 1394) (by decide +kernel)⟩
theorem lw_p65 : lw_okq (⟨"HallAnswersModel", "allTo", "(II)I"⟩, 44) := ⟨⟨by decide +kernel, by decide +kernel⟩, List.mem_of_getElem? (i := 1033) (by decide +kernel), List.mem_of_getElem? (i := 1397) (by decide +kernel), List.mem_of_getElem? (i := 1398) (by decide +kernel)⟩
theorem lw_p66 : lw_okq (⟨"HallAnswersModel", "brokenIn", "(I)I"⟩, 44) := ⟨⟨by decide +kernel, by decide +kernel⟩, List.mem_of_getElem? (i := 1033) (by decide +kernel), List.mem_of_getElem? (i := 1413) (by decide +kernel), List.mem_of_getElem? (i := 1414) (by decide +kernel)⟩
theorem lw_p67 : lw_okq (⟨"HallAnswersModel", "findHeards", "(I)V"⟩, 44) := ⟨⟨by decide +kernel, by decide +kernel⟩, List.mem_of_getElem? (i := 1033) (by decide +kernel), List.mem_of_getElem? (i := 1417) (by decide +kernel), List.mem_of_getElem? (i := 1418) (by decide +kernel)⟩
theorem lw_p68 : lw_okq (⟨"HallAnswersModel", "sitsAsNow", "()V"⟩, 44) := ⟨⟨by decide +kernel, by decide +kernel⟩, List.mem_of_getElem? (i := 1033) (by decide +kernel), List.mem_of_getElem? (i := 1421) (by decide +kernel), List.mem_of_getElem? (i := 1422) (by decide +kernel)⟩
theorem lw_p69 : lw_okq (⟨"HallAnswersModel", "brokenBy", "()I"⟩, 44) := ⟨⟨by decide +kernel, by decide +kernel⟩, List.mem_of_getElem? (i := 1033) (by decide +kernel), List.mem_of_getElem? (i := 1425) (by decide +kernel), List.mem_of_getElem? (i := 1426) (by decide +kernel)⟩
theorem lw_p70 : lw_okq (⟨"HallAnswersModel", "findSeating", "(I)V"⟩, 44) := ⟨⟨by decide +kernel, by decide +kernel⟩, List.mem_of_getElem? (i := 1033) (by decide +kernel), List.mem_of_getElem? (i := 1433) (by decide +kernel), List.mem_of_getElem? (i := 1434) (by decide +kernel)⟩
theorem lw_p71 : lw_okq (⟨"HallAnswersModel", "areUnlike", "()Z"⟩, 44) := ⟨⟨by decide +kernel, by decide +kernel⟩, List.mem_of_getElem? (i := 1033) (by decide +kernel), List.mem_of_getElem? (i := 1437) (by decide +kernel), List.mem_of_getElem? (i := 1438) (by decide +kernel)⟩
theorem lw_p72 : lw_okq (⟨"HallAnswersModel", "nextSeats", "()Z"⟩, 44) := ⟨⟨by decide +kernel, by decide +kernel⟩, List.mem_of_getElem? (i := 1033) (by decide +kernel), List.mem_of_getElem? (i := 1444) (by decide +kernel), List.mem_of_getElem? (i := 1445) (by decide +kernel)⟩
theorem lw_p73 : lw_okq (⟨"HallAnswersModel", "findBetter", "(IZ)V"⟩, 44) := ⟨⟨by decide +kernel, by decide +kernel⟩, List.mem_of_getElem? (i := 1033) (by decide +kernel), List.mem_of_getElem? (i := 1452) (by decide +kernel), List.mem_of_getElem? (i := 1453) (by decide +kernel)⟩
theorem lw_p74 : lw_okq (⟨"HallAnswersModel", "hasBench", "(II)Z"⟩, 44) := ⟨⟨by decide +kernel, by decide +kernel⟩, List.mem_of_getElem? (i := 1033) (by decide +kernel), List.mem_of_getElem? (i := 1456) (by decide +kernel), List.mem_of_getElem? (i := 1457) (by decide +kernel)⟩
theorem lw_p75 : lw_okq (⟨"HallAnswersModel", "lastHour", "()I"⟩, 44) := ⟨⟨by decide +kernel, by decide +kernel⟩, List.mem_of_getElem? (i := 1033) (by decide +kernel), List.mem_of_getElem? (i := 1480) (by decide +kernel), List.mem_of_getElem? (i := 1481) (by decide +kernel)⟩
theorem lw_p76 : lw_okq (⟨"HallAnswersModel", "sayOf", "(II)I"⟩, 44) := ⟨⟨by decide +kernel, by decide +kernel⟩, List.mem_of_getElem? (i := 1033) (by decide +kernel), List.mem_of_getElem? (i := 1484) (by decide +kernel), List.mem_of_getElem? (i := 1485) (by decide +kernel)⟩
theorem lw_p77 : lw_okq (⟨"HallAnswersModel", "isSay", "(I)Z"⟩, 44) := ⟨⟨by decide +kernel, by decide +kernel⟩, List.mem_of_getElem? (i := 1033) (by decide +kernel), List.mem_of_getElem? (i := 1499) (by decide +kernel), List.mem_of_getElem? (i := 1500) (by decide +kernel)⟩
theorem lw_p78 : lw_okq (⟨"HallAnswersModel", "whispers", "(II)I"⟩, 44) := ⟨⟨by decide +kernel, by decide +kernel⟩, List.mem_of_getElem? (i := 1033) (by decide +kernel), List.mem_of_getElem? (i := 1503) (by decide +kernel), List.mem_of_getElem? (i := 1504) (by decide +kernel)⟩
theorem lw_p79 : lw_okq (⟨"HallAnswersModel", "nobodyKnows", "()V"⟩, 44) := ⟨⟨by decide +kernel, by decide +kernel⟩, List.mem_of_getElem? (i := 1033) (by decide +kernel), List.mem_of_getElem? (i := 1507) (by decide +kernel), List.mem_of_getElem? (i := 1508) (by decide +kernel)⟩
def lw_privs_5 : List (MethodName × Nat) := [(⟨"HallAnswersModel", "heardOf", "(II)I"⟩, 44), (⟨"HallAnswersModel", "allTo", "(II)I"⟩, 44), (⟨"HallAnswersModel", "brokenIn", "(I)I"⟩, 44), (⟨"HallAnswersModel", "findHeards", "(I)V"⟩, 44), (⟨"HallAnswersModel", "sitsAsNow", "()V"⟩, 44), (⟨"HallAnswersModel", "brokenBy", "()I"⟩, 44), (⟨"HallAnswersModel", "findSeating", "(I)V"⟩, 44), (⟨"HallAnswersModel", "areUnlike", "()Z"⟩, 44), (⟨"HallAnswersModel", "nextSeats", "()Z"⟩, 44), (⟨"HallAnswersModel", "findBetter", "(IZ)V"⟩, 44), (⟨"HallAnswersModel", "hasBench", "(II)Z"⟩, 44), (⟨"HallAnswersModel", "lastHour", "()I"⟩, 44), (⟨"HallAnswersModel", "sayOf", "(II)I"⟩, 44), (⟨"HallAnswersModel", "isSay", "(I)Z"⟩, 44), (⟨"HallAnswersModel", "whispers", "(II)I"⟩, 44), (⟨"HallAnswersModel", "nobodyKnows", "()V"⟩, 44)]
theorem lw_r5 : ∀ q ∈ lw_privs_5, lw_okq q := List.forall_mem_cons.mpr ⟨lw_p64, List.forall_mem_cons.mpr ⟨lw_p65, List.forall_mem_cons.mpr ⟨lw_p66, List.forall_mem_cons.mpr ⟨lw_p67, List.forall_mem_cons.mpr ⟨lw_p68, List.forall_mem_cons.mpr ⟨lw_p69, List.forall_mem_cons.mpr ⟨lw_p70, List.forall_mem_cons.mpr ⟨lw_p71, List.forall_mem_cons.mpr ⟨lw_p72, List.forall_mem_cons.mpr ⟨lw_p73, List.forall_mem_cons.mpr ⟨lw_p74, List.forall_mem_cons.mpr ⟨lw_p75, List.forall_mem_cons.mpr ⟨lw_p76, List.forall_mem_cons.mpr ⟨lw_p77, List.forall_mem_cons.mpr ⟨lw_p78, List.forall_mem_cons.mpr ⟨lw_p79, fun _ h => absurd h List.not_mem_nil⟩⟩⟩⟩⟩⟩⟩⟩⟩⟩⟩⟩⟩⟩⟩⟩
theorem lw_p80 : lw_okq (⟨"HallAnswersModel", "isSaid", "(I)Z"⟩, 44) := ⟨⟨by decide +kernel, by decide +kernel⟩, List.mem_of_getElem? (i := 1033) (by decide +kernel), List.mem_of_getElem? (i := 1511) (by decide +kernel), List.mem_of_getElem? (i := 1512) (by decide +kernel)⟩
theorem lw_p81 : lw_okq (⟨"HallAnswersModel", "says", "(I)V"⟩, 44) := ⟨⟨by decide +kernel, by decide +kernel⟩, List.mem_of_getElem? (i := 1033) (by decide +kernel), List.mem_of_getElem? (i := 1515) (by decide +kernel), List.mem_of_getElem? (i := 1516) (by decide +kernel)⟩
theorem lw_p82 : lw_okq (⟨"HallAnswersModel", "areBenches", "(I)Z"⟩, 44) := ⟨⟨by decide +kernel, by decide +kernel⟩, List.mem_of_getElem? (i := 1033) (by decide +kernel), List.mem_of_getElem? (i := 1545) (by decide +kernel), List.mem_of_getElem? (i := 1546) (by decide +kernel)⟩
theorem lw_p83 : lw_okq (⟨"HallAnswersModel", "copies", "(II)V"⟩, 44) := ⟨⟨by decide +kernel, by decide +kernel⟩, List.mem_of_getElem? (i := 1033) (by decide +kernel), List.mem_of_getElem? (i := 1557) (by decide +kernel), List.mem_of_getElem? (i := 1558) (by decide +kernel)⟩
def lw_privs_6 : List (MethodName × Nat) := [(⟨"HallAnswersModel", "isSaid", "(I)Z"⟩, 44), (⟨"HallAnswersModel", "says", "(I)V"⟩, 44), (⟨"HallAnswersModel", "areBenches", "(I)Z"⟩, 44), (⟨"HallAnswersModel", "copies", "(II)V"⟩, 44)]
theorem lw_r6 : ∀ q ∈ lw_privs_6, lw_okq q := List.forall_mem_cons.mpr ⟨lw_p80, List.forall_mem_cons.mpr ⟨lw_p81, List.forall_mem_cons.mpr ⟨lw_p82, List.forall_mem_cons.mpr ⟨lw_p83, fun _ h => absurd h List.not_mem_nil⟩⟩⟩⟩
def lw_privs : List (MethodName × Nat) := lw_privs_1 ++ (lw_privs_2 ++ (lw_privs_3 ++ (lw_privs_4 ++ (lw_privs_5 ++ (lw_privs_6)))))
def lw_tbl : List Cond := k2_sels lw_privs ++ tables_1
theorem lw_privs_ok : ∀ q ∈ lw_privs, lw_okq q := by
  show ∀ q ∈ lw_privs_1 ++ (lw_privs_2 ++ (lw_privs_3 ++ (lw_privs_4 ++ (lw_privs_5 ++ (lw_privs_6))))), lw_okq q
  exact List.forall_mem_append.mpr ⟨lw_r1, List.forall_mem_append.mpr ⟨lw_r2, List.forall_mem_append.mpr ⟨lw_r3, List.forall_mem_append.mpr ⟨lw_r4, List.forall_mem_append.mpr ⟨lw_r5, lw_r6⟩⟩⟩⟩⟩
end
section
def RX0 : String := "HallAnswers$Benches"
def TX0 : u_T := fun k => match k with
  | 0 => ("HallAnswers$Benches", "count", "I", false)
  | 1 => ("HallAnswers$Benches", "xs", "[I", true)
  | 2 => ("HallAnswers$Benches", "ys", "[I", true)
  | 3 => ("HallAnswers$Benches", "facings", "[I", true)
  | 4 => ("HallAnswers$Benches", "ears", "[I", true)
  | _ => ("HallAnswers$Benches", "kinds", "[I", true)
def tyX0 : Nat → FieldType := fun k => match k with
  | 0 => .int
  | 1 => .array .int
  | 2 => .array .int
  | 3 => .array .int
  | 4 => .array .int
  | _ => .array .int
abbrev wsX00 : List Cond := u_ws RX0 TX0 6
theorem nmX0 : ∀ a, a < 6 → ∀ b, b < 6 → a ≠ b → (TX0 a).2.1 ≠ (TX0 b).2.1 := by decide +kernel
theorem tyX0_ok : ∀ k, k < 6 → parseFieldDescriptor (TX0 k).2.2.1 = some (tyX0 k) := by decide +kernel
abbrev cX0_init : ByteArray := prog_2_method_1_code
def yX0_init : MethodName := ⟨RX0, "<init>", "()V"⟩
abbrev cX0_add : ByteArray := prog_2_method_2_code
def yX0_add : MethodName := ⟨RX0, "add", "(IIIII)V"⟩
abbrev cX0_copyFrom : ByteArray := prog_2_method_3_code
def yX0_copyFrom : MethodName := ⟨RX0, "copyFrom", "(LHallAnswers$Benches;)V"⟩
abbrev cX0_exists : ByteArray := prog_2_method_4_code
def yX0_exists : MethodName := ⟨RX0, "exists", "(I)Z"⟩
abbrev cX0_anyPutOn : ByteArray := prog_2_method_5_code
def yX0_anyPutOn : MethodName := ⟨RX0, "anyPutOn", "(I)Z"⟩
abbrev cX0_cellIn : ByteArray := prog_2_method_6_code
def yX0_cellIn : MethodName := ⟨RX0, "cellIn", "(III)I"⟩
abbrev cX0_facingIn : ByteArray := prog_2_method_7_code
def yX0_facingIn : MethodName := ⟨RX0, "facingIn", "(II)I"⟩
abbrev cX0_earOf : ByteArray := prog_2_method_8_code
def yX0_earOf : MethodName := ⟨RX0, "earOf", "(I)I"⟩
abbrev cX0_kindOf : ByteArray := prog_2_method_9_code
def yX0_kindOf : MethodName := ⟨RX0, "kindOf", "(I)I"⟩
def RX1 : String := "HallAnswers$Course"
def TX1 : u_T := fun k => match k with
  | 0 => ("HallAnswers$Course", "length", "I", false)
  | 1 => ("HallAnswers$Course", "cells", "[I", true)
  | 2 => ("HallAnswers$Course", "louds", "[I", true)
  | _ => ("HallAnswers$Course", "bounces", "[I", true)
def tyX1 : Nat → FieldType := fun k => match k with
  | 0 => .int
  | 1 => .array .int
  | 2 => .array .int
  | _ => .array .int
abbrev wsX10 : List Cond := u_ws RX1 TX1 4
theorem nmX1 : ∀ a, a < 4 → ∀ b, b < 4 → a ≠ b → (TX1 a).2.1 ≠ (TX1 b).2.1 := by decide +kernel
theorem tyX1_ok : ∀ k, k < 4 → parseFieldDescriptor (TX1 k).2.2.1 = some (tyX1 k) := by decide +kernel
abbrev cX1_init : ByteArray := prog_3_method_1_code
def yX1_init : MethodName := ⟨RX1, "<init>", "()V"⟩
abbrev cX1_run : ByteArray := prog_3_method_2_code
def yX1_run : MethodName := ⟨RX1, "run", "(LHallAnswers$Told;IIZ)V"⟩
abbrev cX1_reaches : ByteArray := prog_3_method_3_code
def yX1_reaches : MethodName := ⟨RX1, "reaches", "(I)Z"⟩
abbrev cX1_cellAt : ByteArray := prog_3_method_4_code
def yX1_cellAt : MethodName := ⟨RX1, "cellAt", "(I)I"⟩
abbrev cX1_loudAt : ByteArray := prog_3_method_5_code
def yX1_loudAt : MethodName := ⟨RX1, "loudAt", "(I)I"⟩
abbrev cX1_bouncesAt : ByteArray := prog_3_method_6_code
def yX1_bouncesAt : MethodName := ⟨RX1, "bouncesAt", "(I)I"⟩
abbrev cX1_stepHeardOn : ByteArray := prog_3_method_7_code
def yX1_stepHeardOn : MethodName := ⟨RX1, "stepHeardOn", "(II)I"⟩
def RX2 : String := "HallAnswers$Gossip"
def TX2 : u_T := fun k => match k with
  | 0 => ("HallAnswers$Gossip", "hearing", "LHallAnswers$Hearing;", true)
  | _ => ("HallAnswers$Gossip", "knowers", "[I", true)
def tyX2 : Nat → FieldType := fun k => match k with
  | 0 => .object "HallAnswers$Hearing"
  | _ => .array .int
abbrev wsX20 : List Cond := u_ws RX2 TX2 2
theorem nmX2 : ∀ a, a < 2 → ∀ b, b < 2 → a ≠ b → (TX2 a).2.1 ≠ (TX2 b).2.1 := by decide +kernel
theorem tyX2_ok : ∀ k, k < 2 → parseFieldDescriptor (TX2 k).2.2.1 = some (tyX2 k) := by decide +kernel
abbrev cX2_init : ByteArray := prog_4_method_1_code
def yX2_init : MethodName := ⟨RX2, "<init>", "()V"⟩
abbrev cX2_tellFirst : ByteArray := prog_4_method_2_code
def yX2_tellFirst : MethodName := ⟨RX2, "tellFirst", "(LHallAnswers$Told;I)I"⟩
abbrev cX2_tellAllBut : ByteArray := prog_4_method_3_code
def yX2_tellAllBut : MethodName := ⟨RX2, "tellAllBut", "(LHallAnswers$Told;I)V"⟩
abbrev cX2_firstKnownOutside : ByteArray := prog_4_method_4_code
def yX2_firstKnownOutside : MethodName := ⟨RX2, "firstKnownOutside", "(LHallAnswers$Told;II)I"⟩
abbrev cX2_knowersOf : ByteArray := prog_4_method_5_code
def yX2_knowersOf : MethodName := ⟨RX2, "knowersOf", "(I)I"⟩
abbrev cX2_secretsOf : ByteArray := prog_4_method_6_code
def yX2_secretsOf : MethodName := ⟨RX2, "secretsOf", "(I)I"⟩
abbrev cX2_tellOne : ByteArray := prog_4_method_7_code
def yX2_tellOne : MethodName := ⟨RX2, "tellOne", "(LHallAnswers$Told;I)I"⟩
def RX3 : String := "HallAnswers$Hearing"
def TX3 : u_T := fun k => match k with
  | 0 => ("HallAnswers$Hearing", "course", "LHallAnswers$Course;", true)
  | _ => ("HallAnswers$Hearing", "hearers", "[I", true)
def tyX3 : Nat → FieldType := fun k => match k with
  | 0 => .object "HallAnswers$Course"
  | _ => .array .int
abbrev wsX30 : List Cond := u_ws RX3 TX3 2
theorem nmX3 : ∀ a, a < 2 → ∀ b, b < 2 → a ≠ b → (TX3 a).2.1 ≠ (TX3 b).2.1 := by decide +kernel
theorem tyX3_ok : ∀ k, k < 2 → parseFieldDescriptor (TX3 k).2.2.1 = some (tyX3 k) := by decide +kernel
abbrev cX3_init : ByteArray := prog_5_method_1_code
def yX3_init : MethodName := ⟨RX3, "<init>", "()V"⟩
abbrev cX3_whisperFromBench : ByteArray := prog_5_method_2_code
def yX3_whisperFromBench : MethodName := ⟨RX3, "whisperFromBench", "(LHallAnswers$Told;II)V"⟩
abbrev cX3_stepOfHearing : ByteArray := prog_5_method_3_code
def yX3_stepOfHearing : MethodName := ⟨RX3, "stepOfHearing", "(LHallAnswers$Told;II)I"⟩
abbrev cX3_hearersOfLatest : ByteArray := prog_5_method_4_code
def yX3_hearersOfLatest : MethodName := ⟨RX3, "hearersOfLatest", "(LHallAnswers$Told;I)I"⟩
abbrev cX3_hearersOf : ByteArray := prog_5_method_5_code
def yX3_hearersOf : MethodName := ⟨RX3, "hearersOf", "(LHallAnswers$Told;II)I"⟩
abbrev cX3_listenToAll : ByteArray := prog_5_method_6_code
def yX3_listenToAll : MethodName := ⟨RX3, "listenToAll", "(LHallAnswers$Told;I)V"⟩
abbrev cX3_isHeardBy : ByteArray := prog_5_method_7_code
def yX3_isHeardBy : MethodName := ⟨RX3, "isHeardBy", "(II)I"⟩
abbrev cX3_brokenWants : ByteArray := prog_5_method_8_code
def yX3_brokenWants : MethodName := ⟨RX3, "brokenWants", "(LHallAnswers$Told;I)I"⟩
abbrev cX3_peopleHearing : ByteArray := prog_5_method_9_code
def yX3_peopleHearing : MethodName := ⟨RX3, "peopleHearing", "(LHallAnswers$Told;II)I"⟩
def RX4 : String := "HallAnswers$Seatings"
def TX4 : u_T := fun k => match k with
  | 0 => ("HallAnswers$Seatings", "fewest", "I", false)
  | 1 => ("HallAnswers$Seatings", "howMany", "I", false)
  | 2 => ("HallAnswers$Seatings", "hearing", "LHallAnswers$Hearing;", true)
  | 3 => ("HallAnswers$Seatings", "first", "[I", true)
  | _ => ("HallAnswers$Seatings", "tried", "[I", true)
def tyX4 : Nat → FieldType := fun k => match k with
  | 0 => .int
  | 1 => .int
  | 2 => .object "HallAnswers$Hearing"
  | 3 => .array .int
  | _ => .array .int
abbrev wsX40 : List Cond := u_ws RX4 TX4 5
theorem nmX4 : ∀ a, a < 5 → ∀ b, b < 5 → a ≠ b → (TX4 a).2.1 ≠ (TX4 b).2.1 := by decide +kernel
theorem tyX4_ok : ∀ k, k < 5 → parseFieldDescriptor (TX4 k).2.2.1 = some (tyX4 k) := by decide +kernel
abbrev cX4_init : ByteArray := prog_6_method_1_code
def yX4_init : MethodName := ⟨RX4, "<init>", "()V"⟩
abbrev cX4_search : ByteArray := prog_6_method_2_code
def yX4_search : MethodName := ⟨RX4, "search", "(LHallAnswers$Told;I)V"⟩
abbrev cX4_benchInFirst : ByteArray := prog_6_method_3_code
def yX4_benchInFirst : MethodName := ⟨RX4, "benchInFirst", "(I)I"⟩
abbrev cX4_seatNext : ByteArray := prog_6_method_4_code
def yX4_seatNext : MethodName := ⟨RX4, "seatNext", "(LHallAnswers$Seatings;LHallAnswers$Told;III)V"⟩
abbrev cX4_takeSeating : ByteArray := prog_6_method_5_code
def yX4_takeSeating : MethodName := ⟨RX4, "takeSeating", "(I)V"⟩
abbrev cX4_brokenBy : ByteArray := prog_6_method_6_code
def yX4_brokenBy : MethodName := ⟨RX4, "brokenBy", "(LHallAnswers$Told;I)I"⟩
abbrev cX4_benchTried : ByteArray := prog_6_method_7_code
def yX4_benchTried : MethodName := ⟨RX4, "benchTried", "(I)I"⟩
def RX5 : String := "HallAnswers$Sheets"
def TX5 : u_T := fun k => match k with
  | 0 => ("HallAnswers$Sheets", "rows", "[[I", true)
  | 1 => ("HallAnswers$Sheets", "lanes", "[I", true)
  | _ => ("HallAnswers$Sheets", "sizes", "[I", true)
def tyX5 : Nat → FieldType := fun k => match k with
  | 0 => .array (.array .int)
  | 1 => .array .int
  | _ => .array .int
abbrev wsX50 : List Cond := u_ws RX5 TX5 3
theorem nmX5 : ∀ a, a < 3 → ∀ b, b < 3 → a ≠ b → (TX5 a).2.1 ≠ (TX5 b).2.1 := by decide +kernel
theorem tyX5_ok : ∀ k, k < 3 → parseFieldDescriptor (TX5 k).2.2.1 = some (tyX5 k) := by decide +kernel
abbrev cX5_init : ByteArray := prog_7_method_1_code
def yX5_init : MethodName := ⟨RX5, "<init>", "()V"⟩
abbrev cX5_isSheet : ByteArray := prog_7_method_2_code
def yX5_isSheet : MethodName := ⟨RX5, "isSheet", "(I)Z"⟩
abbrev cX5_renew : ByteArray := prog_7_method_3_code
def yX5_renew : MethodName := ⟨RX5, "renew", "(III)V"⟩
abbrev cX5_cellsOf : ByteArray := prog_7_method_4_code
def yX5_cellsOf : MethodName := ⟨RX5, "cellsOf", "(I)I"⟩
abbrev cX5_faultOfLane : ByteArray := prog_7_method_5_code
def yX5_faultOfLane : MethodName := ⟨RX5, "faultOfLane", "(II)I"⟩
abbrev cX5_faultOfCells : ByteArray := prog_7_method_6_code
def yX5_faultOfCells : MethodName := ⟨RX5, "faultOfCells", "(III)I"⟩
abbrev cX5_put : ByteArray := prog_7_method_7_code
def yX5_put : MethodName := ⟨RX5, "put", "(III)V"⟩
abbrev cX5_valueAt : ByteArray := prog_7_method_8_code
def yX5_valueAt : MethodName := ⟨RX5, "valueAt", "(II)I"⟩
def RX6 : String := "HallAnswers$Tape"
def TX6 : u_T := fun k => match k with
  | 0 => ("HallAnswers$Tape", "length", "I", false)
  | 1 => ("HallAnswers$Tape", "token", "I", false)
  | 2 => ("HallAnswers$Tape", "tokenStart", "I", false)
  | 3 => ("HallAnswers$Tape", "number", "I", false)
  | 4 => ("HallAnswers$Tape", "fault", "I", false)
  | 5 => ("HallAnswers$Tape", "faultPlace", "I", false)
  | 6 => ("HallAnswers$Tape", "next", "I", false)
  | _ => ("HallAnswers$Tape", "bytes", "[B", true)
def tyX6 : Nat → FieldType := fun k => match k with
  | 0 => .int
  | 1 => .int
  | 2 => .int
  | 3 => .int
  | 4 => .int
  | 5 => .int
  | 6 => .int
  | _ => .array .byte
abbrev wsX60 : List Cond := u_ws RX6 TX6 8
theorem nmX6 : ∀ a, a < 8 → ∀ b, b < 8 → a ≠ b → (TX6 a).2.1 ≠ (TX6 b).2.1 := by decide +kernel
theorem tyX6_ok : ∀ k, k < 8 → parseFieldDescriptor (TX6 k).2.2.1 = some (tyX6 k) := by decide +kernel
abbrev cX6_init : ByteArray := prog_8_method_1_code
def yX6_init : MethodName := ⟨RX6, "<init>", "()V"⟩
abbrev cX6_append : ByteArray := prog_8_method_2_code
def yX6_append : MethodName := ⟨RX6, "append", "(J)I"⟩
abbrev cX6_rewind : ByteArray := prog_8_method_3_code
def yX6_rewind : MethodName := ⟨RX6, "rewind", "()V"⟩
abbrev cX6_fail : ByteArray := prog_8_method_4_code
def yX6_fail : MethodName := ⟨RX6, "fail", "(II)V"⟩
abbrev cX6_nextToken : ByteArray := prog_8_method_5_code
def yX6_nextToken : MethodName := ⟨RX6, "nextToken", "()V"⟩
abbrev cX6_isName : ByteArray := prog_8_method_6_code
def yX6_isName : MethodName := ⟨RX6, "isName", "(Ljava/lang/String;)Z"⟩
abbrev cX6_tokenOf : ByteArray := prog_8_method_7_code
def yX6_tokenOf : MethodName := ⟨RX6, "tokenOf", "(B)I"⟩
def RX7 : String := "HallAnswers$TextReader"
def TX7 : u_T := fun k => match k with
  | 0 => ("HallAnswers$TextReader", "draft", "LHallAnswers$Told;", true)
  | 1 => ("HallAnswers$TextReader", "tape", "LHallAnswers$Tape;", true)
  | 2 => ("HallAnswers$TextReader", "linesTold", "I", false)
  | _ => ("HallAnswers$TextReader", "peopleTold", "I", false)
def tyX7 : Nat → FieldType := fun k => match k with
  | 0 => .object "HallAnswers$Told"
  | 1 => .object "HallAnswers$Tape"
  | 2 => .int
  | _ => .int
abbrev wsX70 : List Cond := u_ws RX7 TX7 4
theorem nmX7 : ∀ a, a < 4 → ∀ b, b < 4 → a ≠ b → (TX7 a).2.1 ≠ (TX7 b).2.1 := by decide +kernel
theorem tyX7_ok : ∀ k, k < 4 → parseFieldDescriptor (TX7 k).2.2.1 = some (tyX7 k) := by decide +kernel
abbrev cX7_init : ByteArray := prog_9_method_1_code
def yX7_init : MethodName := ⟨RX7, "<init>", "()V"⟩
abbrev cX7_readLines : ByteArray := prog_9_method_2_code
def yX7_readLines : MethodName := ⟨RX7, "readLines", "()I"⟩
abbrev cX7_nameOfLine : ByteArray := prog_9_method_3_code
def yX7_nameOfLine : MethodName := ⟨RX7, "nameOfLine", "(I)Ljava/lang/String;"⟩
abbrev cX7_nameOfKind : ByteArray := prog_9_method_4_code
def yX7_nameOfKind : MethodName := ⟨RX7, "nameOfKind", "(I)Ljava/lang/String;"⟩
abbrev cX7_lineBegun : ByteArray := prog_9_method_5_code
def yX7_lineBegun : MethodName := ⟨RX7, "lineBegun", "()I"⟩
abbrev cX7_readLine : ByteArray := prog_9_method_6_code
def yX7_readLine : MethodName := ⟨RX7, "readLine", "(I)V"⟩
abbrev cX7_readRule : ByteArray := prog_9_method_7_code
def yX7_readRule : MethodName := ⟨RX7, "readRule", "(I)V"⟩
abbrev cX7_readBench : ByteArray := prog_9_method_8_code
def yX7_readBench : MethodName := ⟨RX7, "readBench", "()V"⟩
abbrev cX7_readDeafCell : ByteArray := prog_9_method_9_code
def yX7_readDeafCell : MethodName := ⟨RX7, "readDeafCell", "(I)V"⟩
abbrev cX7_readWant : ByteArray := prog_9_method_10_code
def yX7_readWant : MethodName := ⟨RX7, "readWant", "(I)V"⟩
abbrev cX7_readWhisper : ByteArray := prog_9_method_11_code
def yX7_readWhisper : MethodName := ⟨RX7, "readWhisper", "()V"⟩
abbrev cX7_readNumber : ByteArray := prog_9_method_12_code
def yX7_readNumber : MethodName := ⟨RX7, "readNumber", "(II)I"⟩
abbrev cX7_readKind : ByteArray := prog_9_method_13_code
def yX7_readKind : MethodName := ⟨RX7, "readKind", "()I"⟩
abbrev cX7_readSign : ByteArray := prog_9_method_14_code
def yX7_readSign : MethodName := ⟨RX7, "readSign", "()V"⟩
abbrev cX7_requireSign : ByteArray := prog_9_method_15_code
def yX7_requireSign : MethodName := ⟨RX7, "requireSign", "()V"⟩
abbrev cX7_failHere : ByteArray := prog_9_method_16_code
def yX7_failHere : MethodName := ⟨RX7, "failHere", "(I)V"⟩
abbrev cX7_checkAll : ByteArray := prog_9_method_17_code
def yX7_checkAll : MethodName := ⟨RX7, "checkAll", "()V"⟩
abbrev cX7_anyCellMissing : ByteArray := prog_9_method_18_code
def yX7_anyCellMissing : MethodName := ⟨RX7, "anyCellMissing", "()Z"⟩
abbrev cX7_anyOneMissing : ByteArray := prog_9_method_19_code
def yX7_anyOneMissing : MethodName := ⟨RX7, "anyOneMissing", "()Z"⟩
def RX8 : String := "HallAnswers$Told"
def TX8 : u_T := fun k => match k with
  | 0 => ("HallAnswers$Told", "wide", "I", false)
  | 1 => ("HallAnswers$Told", "high", "I", false)
  | 2 => ("HallAnswers$Told", "fade", "I", false)
  | 3 => ("HallAnswers$Told", "bounce", "I", false)
  | 4 => ("HallAnswers$Told", "warm", "I", false)
  | 5 => ("HallAnswers$Told", "people", "I", false)
  | 6 => ("HallAnswers$Told", "cells", "[I", true)
  | 7 => ("HallAnswers$Told", "seats", "[I", true)
  | 8 => ("HallAnswers$Told", "benches", "LHallAnswers$Benches;", true)
  | 9 => ("HallAnswers$Told", "wants", "LHallAnswers$Triples;", true)
  | _ => ("HallAnswers$Told", "whispers", "LHallAnswers$Triples;", true)
def tyX8 : Nat → FieldType := fun k => match k with
  | 0 => .int
  | 1 => .int
  | 2 => .int
  | 3 => .int
  | 4 => .int
  | 5 => .int
  | 6 => .array .int
  | 7 => .array .int
  | 8 => .object "HallAnswers$Benches"
  | 9 => .object "HallAnswers$Triples"
  | _ => .object "HallAnswers$Triples"
abbrev wsX80 : List Cond := u_ws RX8 TX8 11
theorem nmX8 : ∀ a, a < 11 → ∀ b, b < 11 → a ≠ b → (TX8 a).2.1 ≠ (TX8 b).2.1 := by decide +kernel
theorem tyX8_ok : ∀ k, k < 11 → parseFieldDescriptor (TX8 k).2.2.1 = some (tyX8 k) := by decide +kernel
abbrev cX8_init : ByteArray := prog_10_method_1_code
def yX8_init : MethodName := ⟨RX8, "<init>", "()V"⟩
abbrev cX8_startAnew : ByteArray := prog_10_method_2_code
def yX8_startAnew : MethodName := ⟨RX8, "startAnew", "()V"⟩
abbrev cX8_copyAll : ByteArray := prog_10_method_3_code
def yX8_copyAll : MethodName := ⟨RX8, "copyAll", "(LHallAnswers$Told;)V"⟩
abbrev cX8_copyChanging : ByteArray := prog_10_method_4_code
def yX8_copyChanging : MethodName := ⟨RX8, "copyChanging", "(LHallAnswers$Told;)V"⟩
abbrev cX8_isCell : ByteArray := prog_10_method_5_code
def yX8_isCell : MethodName := ⟨RX8, "isCell", "(I)Z"⟩
abbrev cX8_stateOf : ByteArray := prog_10_method_6_code
def yX8_stateOf : MethodName := ⟨RX8, "stateOf", "(I)I"⟩
abbrev cX8_setState : ByteArray := prog_10_method_7_code
def yX8_setState : MethodName := ⟨RX8, "setState", "(II)V"⟩
abbrev cX8_isFree : ByteArray := prog_10_method_8_code
def yX8_isFree : MethodName := ⟨RX8, "isFree", "(I)Z"⟩
abbrev cX8_deafCells : ByteArray := prog_10_method_9_code
def yX8_deafCells : MethodName := ⟨RX8, "deafCells", "()I"⟩
abbrev cX8_anyBenchOn : ByteArray := prog_10_method_10_code
def yX8_anyBenchOn : MethodName := ⟨RX8, "anyBenchOn", "(II)Z"⟩
abbrev cX8_latestHour : ByteArray := prog_10_method_11_code
def yX8_latestHour : MethodName := ⟨RX8, "latestHour", "()I"⟩
abbrev cX8_seatOf : ByteArray := prog_10_method_12_code
def yX8_seatOf : MethodName := ⟨RX8, "seatOf", "(I)I"⟩
abbrev cX8_sitterOn : ByteArray := prog_10_method_13_code
def yX8_sitterOn : MethodName := ⟨RX8, "sitterOn", "(I)I"⟩
abbrev cX8_seatOn : ByteArray := prog_10_method_14_code
def yX8_seatOn : MethodName := ⟨RX8, "seatOn", "(II)I"⟩
def RX9 : String := "HallAnswers$Triples"
def TX9 : u_T := fun k => match k with
  | 0 => ("HallAnswers$Triples", "count", "I", false)
  | 1 => ("HallAnswers$Triples", "firsts", "[I", true)
  | 2 => ("HallAnswers$Triples", "seconds", "[I", true)
  | _ => ("HallAnswers$Triples", "thirds", "[I", true)
def tyX9 : Nat → FieldType := fun k => match k with
  | 0 => .int
  | 1 => .array .int
  | 2 => .array .int
  | _ => .array .int
abbrev wsX90 : List Cond := u_ws RX9 TX9 4
theorem nmX9 : ∀ a, a < 4 → ∀ b, b < 4 → a ≠ b → (TX9 a).2.1 ≠ (TX9 b).2.1 := by decide +kernel
theorem tyX9_ok : ∀ k, k < 4 → parseFieldDescriptor (TX9 k).2.2.1 = some (tyX9 k) := by decide +kernel
abbrev cX9_init : ByteArray := prog_11_method_1_code
def yX9_init : MethodName := ⟨RX9, "<init>", "()V"⟩
abbrev cX9_add : ByteArray := prog_11_method_2_code
def yX9_add : MethodName := ⟨RX9, "add", "(III)V"⟩
abbrev cX9_copyFrom : ByteArray := prog_11_method_3_code
def yX9_copyFrom : MethodName := ⟨RX9, "copyFrom", "(LHallAnswers$Triples;)V"⟩
abbrev cX9_part : ByteArray := prog_11_method_4_code
def yX9_part : MethodName := ⟨RX9, "part", "(II)I"⟩
def RX10 : String := "HallAnswers"
def TX10 : u_T := fun k => match k with
  | 0 => ("HallAnswers", "told", "LHallAnswers$Told;", true)
  | 1 => ("HallAnswers", "firstImage", "LHallAnswers$Told;", true)
  | 2 => ("HallAnswers", "secondImage", "LHallAnswers$Told;", true)
  | 3 => ("HallAnswers", "imagesKept", "I", false)
  | 4 => ("HallAnswers", "reader", "LHallAnswers$TextReader;", true)
  | 5 => ("HallAnswers", "hearing", "LHallAnswers$Hearing;", true)
  | 6 => ("HallAnswers", "gossip", "LHallAnswers$Gossip;", true)
  | 7 => ("HallAnswers", "seatings", "LHallAnswers$Seatings;", true)
  | 8 => ("HallAnswers", "sheets", "LHallAnswers$Sheets;", true)
  | _ => ("HallAnswers", "readFault", "I", false)
def tyX10 : Nat → FieldType := fun k => match k with
  | 0 => .object "HallAnswers$Told"
  | 1 => .object "HallAnswers$Told"
  | 2 => .object "HallAnswers$Told"
  | 3 => .int
  | 4 => .object "HallAnswers$TextReader"
  | 5 => .object "HallAnswers$Hearing"
  | 6 => .object "HallAnswers$Gossip"
  | 7 => .object "HallAnswers$Seatings"
  | 8 => .object "HallAnswers$Sheets"
  | _ => .int
abbrev wsX100 : List Cond := u_ws RX10 TX10 10
theorem nmX10 : ∀ a, a < 10 → ∀ b, b < 10 → a ≠ b → (TX10 a).2.1 ≠ (TX10 b).2.1 := by decide +kernel
theorem tyX10_ok : ∀ k, k < 10 → parseFieldDescriptor (TX10 k).2.2.1 = some (tyX10 k) := by decide +kernel
abbrev cX10_init : ByteArray := prog_1_method_1_code
def yX10_init : MethodName := ⟨RX10, "<init>", "()V"⟩
abbrev cX10_feed : ByteArray := prog_1_method_2_code
def yX10_feed : MethodName := ⟨RX10, "feed", "(J)I"⟩
abbrev cX10_end : ByteArray := prog_1_method_3_code
def yX10_end : MethodName := ⟨RX10, "end", "(I)I"⟩
abbrev cX10_text : ByteArray := prog_1_method_4_code
def yX10_text : MethodName := ⟨RX10, "text", "()I"⟩
abbrev cX10_fault : ByteArray := prog_1_method_5_code
def yX10_fault : MethodName := ⟨RX10, "fault", "()I"⟩
abbrev cX10_rule : ByteArray := prog_1_method_6_code
def yX10_rule : MethodName := ⟨RX10, "rule", "(I)I"⟩
abbrev cX10_cell : ByteArray := prog_1_method_7_code
def yX10_cell : MethodName := ⟨RX10, "cell", "(I)I"⟩
abbrev cX10_bench : ByteArray := prog_1_method_8_code
def yX10_bench : MethodName := ⟨RX10, "bench", "(III)I"⟩
abbrev cX10_want : ByteArray := prog_1_method_9_code
def yX10_want : MethodName := ⟨RX10, "want", "(II)I"⟩
abbrev cX10_hang : ByteArray := prog_1_method_10_code
def yX10_hang : MethodName := ⟨RX10, "hang", "(II)I"⟩
abbrev cX10_warm : ByteArray := prog_1_method_11_code
def yX10_warm : MethodName := ⟨RX10, "warm", "(I)I"⟩
abbrev cX10_sit : ByteArray := prog_1_method_12_code
def yX10_sit : MethodName := ⟨RX10, "sit", "(II)I"⟩
abbrev cX10_way : ByteArray := prog_1_method_13_code
def yX10_way : MethodName := ⟨RX10, "way", "(III)I"⟩
abbrev cX10_steps : ByteArray := prog_1_method_14_code
def yX10_steps : MethodName := ⟨RX10, "steps", "(II)I"⟩
abbrev cX10_hears : ByteArray := prog_1_method_15_code
def yX10_hears : MethodName := ⟨RX10, "hears", "(IIII)I"⟩
abbrev cX10_heard : ByteArray := prog_1_method_16_code
def yX10_heard : MethodName := ⟨RX10, "heard", "(II)I"⟩
abbrev cX10_answer : ByteArray := prog_1_method_17_code
def yX10_answer : MethodName := ⟨RX10, "answer", "(II)I"⟩
abbrev cX10_can : ByteArray := prog_1_method_18_code
def yX10_can : MethodName := ⟨RX10, "can", "(III)I"⟩
abbrev cX10_broken : ByteArray := prog_1_method_19_code
def yX10_broken : MethodName := ⟨RX10, "broken", "(I)I"⟩
abbrev cX10_seating : ByteArray := prog_1_method_20_code
def yX10_seating : MethodName := ⟨RX10, "seating", "(II)I"⟩
abbrev cX10_curtain : ByteArray := prog_1_method_21_code
def yX10_curtain : MethodName := ⟨RX10, "curtain", "(II)I"⟩
abbrev cX10_clear : ByteArray := prog_1_method_22_code
def yX10_clear : MethodName := ⟨RX10, "clear", "(II)I"⟩
abbrev cX10_hours : ByteArray := prog_1_method_23_code
def yX10_hours : MethodName := ⟨RX10, "hours", "()I"⟩
abbrev cX10_days : ByteArray := prog_1_method_24_code
def yX10_days : MethodName := ⟨RX10, "days", "(III)I"⟩
abbrev cX10_best : ByteArray := prog_1_method_25_code
def yX10_best : MethodName := ⟨RX10, "best", "(II)I"⟩
abbrev cX10_say : ByteArray := prog_1_method_26_code
def yX10_say : MethodName := ⟨RX10, "say", "(III)I"⟩
abbrev cX10_unsay : ByteArray := prog_1_method_27_code
def yX10_unsay : MethodName := ⟨RX10, "unsay", "(I)I"⟩
abbrev cX10_said : ByteArray := prog_1_method_28_code
def yX10_said : MethodName := ⟨RX10, "said", "(II)I"⟩
abbrev cX10_knows : ByteArray := prog_1_method_29_code
def yX10_knows : MethodName := ⟨RX10, "knows", "(II)I"⟩
abbrev cX10_since : ByteArray := prog_1_method_30_code
def yX10_since : MethodName := ⟨RX10, "since", "(II)I"⟩
abbrev cX10_leak : ByteArray := prog_1_method_31_code
def yX10_leak : MethodName := ⟨RX10, "leak", "(III)I"⟩
abbrev cX10_without : ByteArray := prog_1_method_32_code
def yX10_without : MethodName := ⟨RX10, "without", "(I)I"⟩
abbrev cX10_murmur : ByteArray := prog_1_method_33_code
def yX10_murmur : MethodName := ⟨RX10, "murmur", "(III)I"⟩
abbrev cX10_from : ByteArray := prog_1_method_34_code
def yX10_from : MethodName := ⟨RX10, "from", "(II)I"⟩
abbrev cX10_where : ByteArray := prog_1_method_35_code
def yX10_where : MethodName := ⟨RX10, "where", "(III)I"⟩
abbrev cX10_keep : ByteArray := prog_1_method_36_code
def yX10_keep : MethodName := ⟨RX10, "keep", "(I)I"⟩
abbrev cX10_back : ByteArray := prog_1_method_37_code
def yX10_back : MethodName := ⟨RX10, "back", "(I)I"⟩
abbrev cX10_sheet : ByteArray := prog_1_method_38_code
def yX10_sheet : MethodName := ⟨RX10, "sheet", "(III)I"⟩
abbrev cX10_lay : ByteArray := prog_1_method_39_code
def yX10_lay : MethodName := ⟨RX10, "lay", "(III)I"⟩
abbrev cX10_read : ByteArray := prog_1_method_40_code
def yX10_read : MethodName := ⟨RX10, "read", "(IIII)I"⟩
abbrev cX10_torn : ByteArray := prog_1_method_41_code
def yX10_torn : MethodName := ⟨RX10, "torn", "()I"⟩
abbrev cX10_count : ByteArray := prog_1_method_42_code
def yX10_count : MethodName := ⟨RX10, "count", "(I)I"⟩
abbrev cX10_within : ByteArray := prog_1_method_43_code
def yX10_within : MethodName := ⟨RX10, "within", "(III)Z"⟩
abbrev cX10_isHour : ByteArray := prog_1_method_44_code
def yX10_isHour : MethodName := ⟨RX10, "isHour", "(I)Z"⟩
abbrev cX10_isSecret : ByteArray := prog_1_method_45_code
def yX10_isSecret : MethodName := ⟨RX10, "isSecret", "(I)Z"⟩
abbrev cX10_isBench : ByteArray := prog_1_method_46_code
def yX10_isBench : MethodName := ⟨RX10, "isBench", "(I)Z"⟩
abbrev cX10_isOne : ByteArray := prog_1_method_47_code
def yX10_isOne : MethodName := ⟨RX10, "isOne", "(I)Z"⟩
abbrev cX10_isWhisper : ByteArray := prog_1_method_48_code
def yX10_isWhisper : MethodName := ⟨RX10, "isWhisper", "(I)Z"⟩
abbrev cX10_areBitsBelow : ByteArray := prog_1_method_49_code
def yX10_areBitsBelow : MethodName := ⟨RX10, "areBitsBelow", "(II)Z"⟩
abbrev cX10_bit : ByteArray := prog_1_method_50_code
def yX10_bit : MethodName := ⟨RX10, "bit", "(II)I"⟩
abbrev cX10_imageOf : ByteArray := prog_1_method_51_code
def yX10_imageOf : MethodName := ⟨RX10, "imageOf", "(I)LHallAnswers$Told;"⟩
abbrev cX10_nextSeed : ByteArray := prog_1_method_52_code
def yX10_nextSeed : MethodName := ⟨RX10, "nextSeed", "(I)I"⟩
abbrev cX10_drawnFrom : ByteArray := prog_1_method_53_code
def yX10_drawnFrom : MethodName := ⟨RX10, "drawnFrom", "(I)I"⟩
abbrev cX10_whisperMore : ByteArray := prog_1_method_54_code
def yX10_whisperMore : MethodName := ⟨RX10, "whisperMore", "(III)I"⟩
abbrev cX10_whisperOfSheet : ByteArray := prog_1_method_55_code
def yX10_whisperOfSheet : MethodName := ⟨RX10, "whisperOfSheet", "(II)I"⟩
abbrev cX10_bestChange : ByteArray := prog_1_method_56_code
def yX10_bestChange : MethodName := ⟨RX10, "bestChange", "(III)I"⟩
abbrev cX10_mayBecome : ByteArray := prog_1_method_57_code
def yX10_mayBecome : MethodName := ⟨RX10, "mayBecome", "(III)Z"⟩
abbrev cX10_brokenOnDay : ByteArray := prog_1_method_58_code
def yX10_brokenOnDay : MethodName := ⟨RX10, "brokenOnDay", "(II)I"⟩
abbrev cX10_hearersOnDay : ByteArray := prog_1_method_59_code
def yX10_hearersOnDay : MethodName := ⟨RX10, "hearersOnDay", "(III)I"⟩
abbrev cX10_firstDirectionHeardBy : ByteArray := prog_1_method_60_code
def yX10_firstDirectionHeardBy : MethodName := ⟨RX10, "firstDirectionHeardBy", "(III)I"⟩
def RX11 : String := "HallAnswersModel"
def TX11 : u_T := fun k => match k with
  | 0 => ("HallAnswersModel", "st", "[I", true)
  | 1 => ("HallAnswersModel", "isKept", "[Z", true)
  | 2 => ("HallAnswersModel", "wide", "I", false)
  | 3 => ("HallAnswersModel", "high", "I", false)
  | 4 => ("HallAnswersModel", "fade", "I", false)
  | 5 => ("HallAnswersModel", "bounce", "I", false)
  | 6 => ("HallAnswersModel", "benches", "I", false)
  | 7 => ("HallAnswersModel", "people", "I", false)
  | 8 => ("HallAnswersModel", "wants", "I", false)
  | 9 => ("HallAnswersModel", "bench", "[I", true)
  | 10 => ("HallAnswersModel", "want", "[I", true)
  | 11 => ("HallAnswersModel", "draft", "[I", true)
  | 12 => ("HallAnswersModel", "dBench", "[I", true)
  | 13 => ("HallAnswersModel", "dWant", "[I", true)
  | 14 => ("HallAnswersModel", "dRule", "[I", true)
  | 15 => ("HallAnswersModel", "dBenches", "I", false)
  | 16 => ("HallAnswersModel", "dWants", "I", false)
  | 17 => ("HallAnswersModel", "highestOne", "I", false)
  | 18 => ("HallAnswersModel", "rightmost", "I", false)
  | 19 => ("HallAnswersModel", "lowest", "I", false)
  | 20 => ("HallAnswersModel", "toldLines", "I", false)
  | 21 => ("HallAnswersModel", "tape", "[I", true)
  | 22 => ("HallAnswersModel", "taped", "I", false)
  | 23 => ("HallAnswersModel", "pos", "I", false)
  | 24 => ("HallAnswersModel", "from", "I", false)
  | 25 => ("HallAnswersModel", "sort", "I", false)
  | 26 => ("HallAnswersModel", "value", "I", false)
  | 27 => ("HallAnswersModel", "fault", "I", false)
  | 28 => ("HallAnswersModel", "wrongAt", "I", false)
  | 29 => ("HallAnswersModel", "path", "[I", true)
  | 30 => ("HallAnswersModel", "bounces", "[I", true)
  | 31 => ("HallAnswersModel", "pathSteps", "I", false)
  | 32 => ("HallAnswersModel", "heards", "[I", true)
  | 33 => ("HallAnswersModel", "seat", "[I", true)
  | 34 => ("HallAnswersModel", "firstSeat", "[I", true)
  | 35 => ("HallAnswersModel", "fewest", "I", false)
  | 36 => ("HallAnswersModel", "fewestMany", "I", false)
  | 37 => ("HallAnswersModel", "betterCell", "I", false)
  | 38 => ("HallAnswersModel", "betterMany", "I", false)
  | 39 => ("HallAnswersModel", "known", "[I", true)
  | 40 => ("HallAnswersModel", "lanes", "[I", true)
  | 41 => ("HallAnswersModel", "sizes", "[I", true)
  | 42 => ("HallAnswersModel", "cells", "[I", true)
  | _ => ("HallAnswersModel", "torn", "I", false)
def tyX11 : Nat → FieldType := fun k => match k with
  | 0 => .array .int
  | 1 => .array .boolean
  | 2 => .int
  | 3 => .int
  | 4 => .int
  | 5 => .int
  | 6 => .int
  | 7 => .int
  | 8 => .int
  | 9 => .array .int
  | 10 => .array .int
  | 11 => .array .int
  | 12 => .array .int
  | 13 => .array .int
  | 14 => .array .int
  | 15 => .int
  | 16 => .int
  | 17 => .int
  | 18 => .int
  | 19 => .int
  | 20 => .int
  | 21 => .array .int
  | 22 => .int
  | 23 => .int
  | 24 => .int
  | 25 => .int
  | 26 => .int
  | 27 => .int
  | 28 => .int
  | 29 => .array .int
  | 30 => .array .int
  | 31 => .int
  | 32 => .array .int
  | 33 => .array .int
  | 34 => .array .int
  | 35 => .int
  | 36 => .int
  | 37 => .int
  | 38 => .int
  | 39 => .array .int
  | 40 => .array .int
  | 41 => .array .int
  | 42 => .array .int
  | _ => .int
abbrev wsX110 : List Cond := u_ws RX11 TX11 44
theorem nmX11 : ∀ a, a < 44 → ∀ b, b < 44 → a ≠ b → (TX11 a).2.1 ≠ (TX11 b).2.1 := by decide +kernel
theorem tyX11_ok : ∀ k, k < 44 → parseFieldDescriptor (TX11 k).2.2.1 = some (tyX11 k) := by decide +kernel
abbrev cX11_init : ByteArray := prog_13_method_1_code
def yX11_init : MethodName := ⟨RX11, "<init>", "()V"⟩
abbrev cX11_in : ByteArray := prog_13_method_3_code
def yX11_in : MethodName := ⟨RX11, "in", "(JJJ)Z"⟩
abbrev cX11_flag : ByteArray := prog_13_method_4_code
def yX11_flag : MethodName := ⟨RX11, "flag", "(Z)I"⟩
abbrev cX11_bitsOf : ByteArray := prog_13_method_5_code
def yX11_bitsOf : MethodName := ⟨RX11, "bitsOf", "(I)I"⟩
abbrev cX11_firstDraft : ByteArray := prog_13_method_6_code
def yX11_firstDraft : MethodName := ⟨RX11, "firstDraft", "()V"⟩
abbrev cX11_dPeople : ByteArray := prog_13_method_7_code
def yX11_dPeople : MethodName := ⟨RX11, "dPeople", "()I"⟩
abbrev cX11_keepDraft : ByteArray := prog_13_method_8_code
def yX11_keepDraft : MethodName := ⟨RX11, "keepDraft", "()V"⟩
abbrev cX11_feed : ByteArray := prog_13_method_9_code
def yX11_feed : MethodName := ⟨RX11, "feed", "(J)I"⟩
abbrev cX11_end : ByteArray := prog_13_method_10_code
def yX11_end : MethodName := ⟨RX11, "end", "(I)I"⟩
abbrev cX11_needs : ByteArray := prog_13_method_11_code
def yX11_needs : MethodName := ⟨RX11, "needs", "(ZI)V"⟩
abbrev cX11_look : ByteArray := prog_13_method_12_code
def yX11_look : MethodName := ⟨RX11, "look", "(I)I"⟩
abbrev cX11_is : ByteArray := prog_13_method_13_code
def yX11_is : MethodName := ⟨RX11, "is", "(IIIII)Z"⟩
abbrev cX11_ends : ByteArray := prog_13_method_14_code
def yX11_ends : MethodName := ⟨RX11, "ends", "(IIII)Z"⟩
abbrev cX11_ruleNow : ByteArray := prog_13_method_15_code
def yX11_ruleNow : MethodName := ⟨RX11, "ruleNow", "()I"⟩
abbrev cX11_nameNow : ByteArray := prog_13_method_16_code
def yX11_nameNow : MethodName := ⟨RX11, "nameNow", "()I"⟩
abbrev cX11_kindNow : ByteArray := prog_13_method_17_code
def yX11_kindNow : MethodName := ⟨RX11, "kindNow", "()I"⟩
abbrev cX11_next : ByteArray := prog_13_method_18_code
def yX11_next : MethodName := ⟨RX11, "next", "()V"⟩
abbrev cX11_looked : ByteArray := prog_13_method_19_code
def yX11_looked : MethodName := ⟨RX11, "looked", "(II)I"⟩
abbrev cX11_readNumber : ByteArray := prog_13_method_20_code
def yX11_readNumber : MethodName := ⟨RX11, "readNumber", "(II)I"⟩
abbrev cX11_readCell : ByteArray := prog_13_method_21_code
def yX11_readCell : MethodName := ⟨RX11, "readCell", "(Z)I"⟩
abbrev cX11_readOne : ByteArray := prog_13_method_22_code
def yX11_readOne : MethodName := ⟨RX11, "readOne", "(I)I"⟩
abbrev cX11_readBench : ByteArray := prog_13_method_23_code
def yX11_readBench : MethodName := ⟨RX11, "readBench", "()V"⟩
abbrev cX11_readWant : ByteArray := prog_13_method_24_code
def yX11_readWant : MethodName := ⟨RX11, "readWant", "(I)V"⟩
abbrev cX11_readWhisper : ByteArray := prog_13_method_25_code
def yX11_readWhisper : MethodName := ⟨RX11, "readWhisper", "()V"⟩
abbrev cX11_readLineOf : ByteArray := prog_13_method_26_code
def yX11_readLineOf : MethodName := ⟨RX11, "readLineOf", "(I)V"⟩
abbrev cX11_readLine : ByteArray := prog_13_method_27_code
def yX11_readLine : MethodName := ⟨RX11, "readLine", "()V"⟩
abbrev cX11_areFree : ByteArray := prog_13_method_28_code
def yX11_areFree : MethodName := ⟨RX11, "areFree", "()Z"⟩
abbrev cX11_text : ByteArray := prog_13_method_29_code
def yX11_text : MethodName := ⟨RX11, "text", "()I"⟩
abbrev cX11_fault : ByteArray := prog_13_method_30_code
def yX11_fault : MethodName := ⟨RX11, "fault", "()I"⟩
abbrev cX11_rule : ByteArray := prog_13_method_31_code
def yX11_rule : MethodName := ⟨RX11, "rule", "(I)I"⟩
abbrev cX11_isCell : ByteArray := prog_13_method_32_code
def yX11_isCell : MethodName := ⟨RX11, "isCell", "(I)Z"⟩
abbrev cX11_isBench : ByteArray := prog_13_method_33_code
def yX11_isBench : MethodName := ⟨RX11, "isBench", "(I)Z"⟩
abbrev cX11_isOne : ByteArray := prog_13_method_34_code
def yX11_isOne : MethodName := ⟨RX11, "isOne", "(I)Z"⟩
abbrev cX11_isHour : ByteArray := prog_13_method_35_code
def yX11_isHour : MethodName := ⟨RX11, "isHour", "(I)Z"⟩
abbrev cX11_cell : ByteArray := prog_13_method_36_code
def yX11_cell : MethodName := ⟨RX11, "cell", "(I)I"⟩
abbrev cX11_kindOf : ByteArray := prog_13_method_37_code
def yX11_kindOf : MethodName := ⟨RX11, "kindOf", "(I)I"⟩
abbrev cX11_cellOf : ByteArray := prog_13_method_38_code
def yX11_cellOf : MethodName := ⟨RX11, "cellOf", "(II)I"⟩
abbrev cX11_facingOf : ByteArray := prog_13_method_39_code
def yX11_facingOf : MethodName := ⟨RX11, "facingOf", "(II)I"⟩
abbrev cX11_earOf : ByteArray := prog_13_method_40_code
def yX11_earOf : MethodName := ⟨RX11, "earOf", "(I)I"⟩
abbrev cX11_whoOn : ByteArray := prog_13_method_41_code
def yX11_whoOn : MethodName := ⟨RX11, "whoOn", "(I)I"⟩
abbrev cX11_bench : ByteArray := prog_13_method_42_code
def yX11_bench : MethodName := ⟨RX11, "bench", "(III)I"⟩
abbrev cX11_want : ByteArray := prog_13_method_43_code
def yX11_want : MethodName := ⟨RX11, "want", "(II)I"⟩
abbrev cX11_hang : ByteArray := prog_13_method_44_code
def yX11_hang : MethodName := ⟨RX11, "hang", "(II)I"⟩
abbrev cX11_warm : ByteArray := prog_13_method_45_code
def yX11_warm : MethodName := ⟨RX11, "warm", "(I)I"⟩
abbrev cX11_sit : ByteArray := prog_13_method_46_code
def yX11_sit : MethodName := ⟨RX11, "sit", "(II)I"⟩
abbrev cX11_rightOf : ByteArray := prog_13_method_47_code
def yX11_rightOf : MethodName := ⟨RX11, "rightOf", "(I)I"⟩
abbrev cX11_downOf : ByteArray := prog_13_method_48_code
def yX11_downOf : MethodName := ⟨RX11, "downOf", "(I)I"⟩
abbrev cX11_layPath : ByteArray := prog_13_method_49_code
def yX11_layPath : MethodName := ⟨RX11, "layPath", "(IIZ)V"⟩
abbrev cX11_loudAt : ByteArray := prog_13_method_50_code
def yX11_loudAt : MethodName := ⟨RX11, "loudAt", "(I)I"⟩
abbrev cX11_layPathOf : ByteArray := prog_13_method_51_code
def yX11_layPathOf : MethodName := ⟨RX11, "layPathOf", "(II)V"⟩
abbrev cX11_stepTo : ByteArray := prog_13_method_52_code
def yX11_stepTo : MethodName := ⟨RX11, "stepTo", "(II)I"⟩
abbrev cX11_way : ByteArray := prog_13_method_53_code
def yX11_way : MethodName := ⟨RX11, "way", "(III)I"⟩
abbrev cX11_steps : ByteArray := prog_13_method_54_code
def yX11_steps : MethodName := ⟨RX11, "steps", "(II)I"⟩
abbrev cX11_hears : ByteArray := prog_13_method_55_code
def yX11_hears : MethodName := ⟨RX11, "hears", "(IIII)I"⟩
abbrev cX11_allTo : ByteArray := prog_13_method_56_code
def yX11_allTo : MethodName := ⟨RX11, "allTo", "(II)I"⟩
abbrev cX11_heardOf : ByteArray := prog_13_method_57_code
def yX11_heardOf : MethodName := ⟨RX11, "heardOf", "(II)I"⟩
abbrev cX11_heard : ByteArray := prog_13_method_58_code
def yX11_heard : MethodName := ⟨RX11, "heard", "(II)I"⟩
abbrev cX11_answer : ByteArray := prog_13_method_59_code
def yX11_answer : MethodName := ⟨RX11, "answer", "(II)I"⟩
abbrev cX11_findHeards : ByteArray := prog_13_method_60_code
def yX11_findHeards : MethodName := ⟨RX11, "findHeards", "(I)V"⟩
abbrev cX11_can : ByteArray := prog_13_method_61_code
def yX11_can : MethodName := ⟨RX11, "can", "(III)I"⟩
abbrev cX11_sitsAsNow : ByteArray := prog_13_method_62_code
def yX11_sitsAsNow : MethodName := ⟨RX11, "sitsAsNow", "()V"⟩
abbrev cX11_brokenBy : ByteArray := prog_13_method_63_code
def yX11_brokenBy : MethodName := ⟨RX11, "brokenBy", "()I"⟩
abbrev cX11_brokenIn : ByteArray := prog_13_method_64_code
def yX11_brokenIn : MethodName := ⟨RX11, "brokenIn", "(I)I"⟩
abbrev cX11_broken : ByteArray := prog_13_method_65_code
def yX11_broken : MethodName := ⟨RX11, "broken", "(I)I"⟩
abbrev cX11_areUnlike : ByteArray := prog_13_method_66_code
def yX11_areUnlike : MethodName := ⟨RX11, "areUnlike", "()Z"⟩
abbrev cX11_nextSeats : ByteArray := prog_13_method_67_code
def yX11_nextSeats : MethodName := ⟨RX11, "nextSeats", "()Z"⟩
abbrev cX11_findSeating : ByteArray := prog_13_method_68_code
def yX11_findSeating : MethodName := ⟨RX11, "findSeating", "(I)V"⟩
abbrev cX11_seating : ByteArray := prog_13_method_69_code
def yX11_seating : MethodName := ⟨RX11, "seating", "(II)I"⟩
abbrev cX11_hasBench : ByteArray := prog_13_method_70_code
def yX11_hasBench : MethodName := ⟨RX11, "hasBench", "(II)Z"⟩
abbrev cX11_findBetter : ByteArray := prog_13_method_71_code
def yX11_findBetter : MethodName := ⟨RX11, "findBetter", "(IZ)V"⟩
abbrev cX11_curtain : ByteArray := prog_13_method_72_code
def yX11_curtain : MethodName := ⟨RX11, "curtain", "(II)I"⟩
abbrev cX11_clear : ByteArray := prog_13_method_73_code
def yX11_clear : MethodName := ⟨RX11, "clear", "(II)I"⟩
abbrev cX11_hours : ByteArray := prog_13_method_74_code
def yX11_hours : MethodName := ⟨RX11, "hours", "()I"⟩
abbrev cX11_days : ByteArray := prog_13_method_75_code
def yX11_days : MethodName := ⟨RX11, "days", "(III)I"⟩
abbrev cX11_best : ByteArray := prog_13_method_76_code
def yX11_best : MethodName := ⟨RX11, "best", "(II)I"⟩
abbrev cX11_sayOf : ByteArray := prog_13_method_77_code
def yX11_sayOf : MethodName := ⟨RX11, "sayOf", "(II)I"⟩
abbrev cX11_isSaid : ByteArray := prog_13_method_78_code
def yX11_isSaid : MethodName := ⟨RX11, "isSaid", "(I)Z"⟩
abbrev cX11_says : ByteArray := prog_13_method_79_code
def yX11_says : MethodName := ⟨RX11, "says", "(I)V"⟩
abbrev cX11_nobodyKnows : ByteArray := prog_13_method_80_code
def yX11_nobodyKnows : MethodName := ⟨RX11, "nobodyKnows", "()V"⟩
abbrev cX11_whispers : ByteArray := prog_13_method_81_code
def yX11_whispers : MethodName := ⟨RX11, "whispers", "(II)I"⟩
abbrev cX11_lastHour : ByteArray := prog_13_method_82_code
def yX11_lastHour : MethodName := ⟨RX11, "lastHour", "()I"⟩
abbrev cX11_isSecret : ByteArray := prog_13_method_83_code
def yX11_isSecret : MethodName := ⟨RX11, "isSecret", "(I)Z"⟩
abbrev cX11_say : ByteArray := prog_13_method_84_code
def yX11_say : MethodName := ⟨RX11, "say", "(III)I"⟩
abbrev cX11_unsay : ByteArray := prog_13_method_85_code
def yX11_unsay : MethodName := ⟨RX11, "unsay", "(I)I"⟩
abbrev cX11_isSay : ByteArray := prog_13_method_86_code
def yX11_isSay : MethodName := ⟨RX11, "isSay", "(I)Z"⟩
abbrev cX11_said : ByteArray := prog_13_method_87_code
def yX11_said : MethodName := ⟨RX11, "said", "(II)I"⟩
abbrev cX11_knows : ByteArray := prog_13_method_88_code
def yX11_knows : MethodName := ⟨RX11, "knows", "(II)I"⟩
abbrev cX11_since : ByteArray := prog_13_method_89_code
def yX11_since : MethodName := ⟨RX11, "since", "(II)I"⟩
abbrev cX11_leak : ByteArray := prog_13_method_90_code
def yX11_leak : MethodName := ⟨RX11, "leak", "(III)I"⟩
abbrev cX11_without : ByteArray := prog_13_method_91_code
def yX11_without : MethodName := ⟨RX11, "without", "(I)I"⟩
abbrev cX11_murmur : ByteArray := prog_13_method_92_code
def yX11_murmur : MethodName := ⟨RX11, "murmur", "(III)I"⟩
abbrev cX11_areBenches : ByteArray := prog_13_method_93_code
def yX11_areBenches : MethodName := ⟨RX11, "areBenches", "(I)Z"⟩
abbrev cX11_from : ByteArray := prog_13_method_94_code
def yX11_from : MethodName := ⟨RX11, "from", "(II)I"⟩
abbrev cX11_where : ByteArray := prog_13_method_95_code
def yX11_where : MethodName := ⟨RX11, "where", "(III)I"⟩
abbrev cX11_copies : ByteArray := prog_13_method_96_code
def yX11_copies : MethodName := ⟨RX11, "copies", "(II)V"⟩
abbrev cX11_keep : ByteArray := prog_13_method_97_code
def yX11_keep : MethodName := ⟨RX11, "keep", "(I)I"⟩
abbrev cX11_back : ByteArray := prog_13_method_98_code
def yX11_back : MethodName := ⟨RX11, "back", "(I)I"⟩
abbrev cX11_isSheet : ByteArray := prog_13_method_99_code
def yX11_isSheet : MethodName := ⟨RX11, "isSheet", "(II)Z"⟩
abbrev cX11_sheet : ByteArray := prog_13_method_100_code
def yX11_sheet : MethodName := ⟨RX11, "sheet", "(III)I"⟩
abbrev cX11_lay : ByteArray := prog_13_method_101_code
def yX11_lay : MethodName := ⟨RX11, "lay", "(III)I"⟩
abbrev cX11_read : ByteArray := prog_13_method_102_code
def yX11_read : MethodName := ⟨RX11, "read", "(IIII)I"⟩
abbrev cX11_torn : ByteArray := prog_13_method_103_code
def yX11_torn : MethodName := ⟨RX11, "torn", "()I"⟩
abbrev cX11_count : ByteArray := prog_13_method_104_code
def yX11_count : MethodName := ⟨RX11, "count", "(I)I"⟩
def RJx145de : String := "java/io/Serializable"
def TJx145de : u_T := fun k => match k with
  | _ => ("", "", "", false)
def tyJx145de : Nat → FieldType := fun k => match k with
  | _ => .int
abbrev wsJx145de0 : List Cond := u_ws RJx145de TJx145de 0
theorem nmJx145de : ∀ a, a < 0 → ∀ b, b < 0 → a ≠ b → (TJx145de a).2.1 ≠ (TJx145de b).2.1 := by decide +kernel
theorem tyJx145de_ok : ∀ k, k < 0 → parseFieldDescriptor (TJx145de k).2.2.1 = some (tyJx145de k) := by decide +kernel
def RJx9f9b0 : String := "java/lang/CharSequence"
def TJx9f9b0 : u_T := fun k => match k with
  | _ => ("", "", "", false)
def tyJx9f9b0 : Nat → FieldType := fun k => match k with
  | _ => .int
abbrev wsJx9f9b00 : List Cond := u_ws RJx9f9b0 TJx9f9b0 0
theorem nmJx9f9b0 : ∀ a, a < 0 → ∀ b, b < 0 → a ≠ b → (TJx9f9b0 a).2.1 ≠ (TJx9f9b0 b).2.1 := by decide +kernel
theorem tyJx9f9b0_ok : ∀ k, k < 0 → parseFieldDescriptor (TJx9f9b0 k).2.2.1 = some (tyJx9f9b0 k) := by decide +kernel
def RJxb160c : String := "java/lang/Comparable"
def TJxb160c : u_T := fun k => match k with
  | _ => ("", "", "", false)
def tyJxb160c : Nat → FieldType := fun k => match k with
  | _ => .int
abbrev wsJxb160c0 : List Cond := u_ws RJxb160c TJxb160c 0
theorem nmJxb160c : ∀ a, a < 0 → ∀ b, b < 0 → a ≠ b → (TJxb160c a).2.1 ≠ (TJxb160c b).2.1 := by decide +kernel
theorem tyJxb160c_ok : ∀ k, k < 0 → parseFieldDescriptor (TJxb160c k).2.2.1 = some (tyJxb160c k) := by decide +kernel
def RJ6 : String := "java/lang/Integer"
def TJ6 : u_T := fun k => match k with
  | _ => ("", "", "", false)
def tyJ6 : Nat → FieldType := fun k => match k with
  | _ => .int
abbrev wsJ60 : List Cond := u_ws RJ6 TJ6 0
theorem nmJ6 : ∀ a, a < 0 → ∀ b, b < 0 → a ≠ b → (TJ6 a).2.1 ≠ (TJ6 b).2.1 := by decide +kernel
theorem tyJ6_ok : ∀ k, k < 0 → parseFieldDescriptor (TJ6 k).2.2.1 = some (tyJ6 k) := by decide +kernel
abbrev cJ6_bitCount_0f7a4 : ByteArray := prog_14_method_49_code
def yJ6_bitCount_0f7a4 : MethodName := ⟨RJ6, "bitCount", "(I)I"⟩
def RJ9 : String := "java/lang/Math"
def TJ9 : u_T := fun k => match k with
  | _ => ("", "", "", false)
def tyJ9 : Nat → FieldType := fun k => match k with
  | _ => .int
abbrev wsJ90 : List Cond := u_ws RJ9 TJ9 0
theorem nmJ9 : ∀ a, a < 0 → ∀ b, b < 0 → a ≠ b → (TJ9 a).2.1 ≠ (TJ9 b).2.1 := by decide +kernel
theorem tyJ9_ok : ∀ k, k < 0 → parseFieldDescriptor (TJ9 k).2.2.1 = some (tyJ9 k) := by decide +kernel
abbrev cJ9_max_7cf53 : ByteArray := prog_15_method_65_code
def yJ9_max_7cf53 : MethodName := ⟨RJ9, "max", "(II)I"⟩
abbrev cJ9_min_7cf53 : ByteArray := prog_15_method_69_code
def yJ9_min_7cf53 : MethodName := ⟨RJ9, "min", "(II)I"⟩
def RJ0 : String := "java/lang/String"
def TJ0 : u_T := fun k => match k with
  | _ => ("", "", "", false)
def tyJ0 : Nat → FieldType := fun k => match k with
  | _ => .int
abbrev wsJ00 : List Cond := u_ws RJ0 TJ0 0
theorem nmJ0 : ∀ a, a < 0 → ∀ b, b < 0 → a ≠ b → (TJ0 a).2.1 ≠ (TJ0 b).2.1 := by decide +kernel
theorem tyJ0_ok : ∀ k, k < 0 → parseFieldDescriptor (TJ0 k).2.2.1 = some (tyJ0 k) := by decide +kernel
abbrev cJ0_length_8abf5 : ByteArray := prog_16_method_54_code
def yJ0_length_8abf5 : MethodName := ⟨RJ0, "length", "()I"⟩
abbrev cJ0_charAt_5068e : ByteArray := prog_16_method_56_code
def yJ0_charAt_5068e : MethodName := ⟨RJ0, "charAt", "(I)C"⟩
abbrev cJ0_coder_7d493 : ByteArray := prog_16_method_152_code
def yJ0_coder_7d493 : MethodName := ⟨RJ0, "coder", "()B"⟩
abbrev cJ0_isLatin1_aae02 : ByteArray := prog_16_method_154_code
def yJ0_isLatin1_aae02 : MethodName := ⟨RJ0, "isLatin1", "()Z"⟩
abbrev cJ0_checkIndex_df160 : ByteArray := prog_16_method_155_code
def yJ0_checkIndex_df160 : MethodName := ⟨RJ0, "checkIndex", "(II)V"⟩
def RJ1 : String := "java/lang/StringLatin1"
def TJ1 : u_T := fun k => match k with
  | _ => ("", "", "", false)
def tyJ1 : Nat → FieldType := fun k => match k with
  | _ => .int
abbrev wsJ10 : List Cond := u_ws RJ1 TJ1 0
theorem nmJ1 : ∀ a, a < 0 → ∀ b, b < 0 → a ≠ b → (TJ1 a).2.1 ≠ (TJ1 b).2.1 := by decide +kernel
theorem tyJ1_ok : ∀ k, k < 0 → parseFieldDescriptor (TJ1 k).2.2.1 = some (tyJ1 k) := by decide +kernel
abbrev cJ1_charAt_3b067 : ByteArray := prog_17_method_2_code
def yJ1_charAt_3b067 : MethodName := ⟨RJ1, "charAt", "([BI)C"⟩
def RJ2 : String := "java/lang/StringUTF16"
def TJ2 : u_T := fun k => match k with
  | _ => ("", "", "", false)
def tyJ2 : Nat → FieldType := fun k => match k with
  | _ => .int
abbrev wsJ20 : List Cond := u_ws RJ2 TJ2 0
theorem nmJ2 : ∀ a, a < 0 → ∀ b, b < 0 → a ≠ b → (TJ2 a).2.1 ≠ (TJ2 b).2.1 := by decide +kernel
theorem tyJ2_ok : ∀ k, k < 0 → parseFieldDescriptor (TJ2 k).2.2.1 = some (tyJ2 k) := by decide +kernel
abbrev cJ2_getChar_3b067 : ByteArray := prog_18_method_5_code
def yJ2_getChar_3b067 : MethodName := ⟨RJ2, "getChar", "([BI)C"⟩
abbrev cJ2_length_9d52b : ByteArray := prog_18_method_6_code
def yJ2_length_9d52b : MethodName := ⟨RJ2, "length", "([B)I"⟩
abbrev cJ2_charAt_3b067 : ByteArray := prog_18_method_83_code
def yJ2_charAt_3b067 : MethodName := ⟨RJ2, "charAt", "([BI)C"⟩
abbrev cJ2_checkIndex_2214a : ByteArray := prog_18_method_91_code
def yJ2_checkIndex_2214a : MethodName := ⟨RJ2, "checkIndex", "(I[B)V"⟩
def RJ10 : String := "java/lang/System"
def TJ10 : u_T := fun k => match k with
  | _ => ("", "", "", false)
def tyJ10 : Nat → FieldType := fun k => match k with
  | _ => .int
abbrev wsJ100 : List Cond := u_ws RJ10 TJ10 0
theorem nmJ10 : ∀ a, a < 0 → ∀ b, b < 0 → a ≠ b → (TJ10 a).2.1 ≠ (TJ10 b).2.1 := by decide +kernel
theorem tyJ10_ok : ∀ k, k < 0 → parseFieldDescriptor (TJ10 k).2.2.1 = some (tyJ10 k) := by decide +kernel
def RJxfd54e : String := "java/lang/constant/Constable"
def TJxfd54e : u_T := fun k => match k with
  | _ => ("", "", "", false)
def tyJxfd54e : Nat → FieldType := fun k => match k with
  | _ => .int
abbrev wsJxfd54e0 : List Cond := u_ws RJxfd54e TJxfd54e 0
theorem nmJxfd54e : ∀ a, a < 0 → ∀ b, b < 0 → a ≠ b → (TJxfd54e a).2.1 ≠ (TJxfd54e b).2.1 := by decide +kernel
theorem tyJxfd54e_ok : ∀ k, k < 0 → parseFieldDescriptor (TJxfd54e k).2.2.1 = some (tyJxfd54e k) := by decide +kernel
def RJx3cf43 : String := "java/lang/constant/ConstantDesc"
def TJx3cf43 : u_T := fun k => match k with
  | _ => ("", "", "", false)
def tyJx3cf43 : Nat → FieldType := fun k => match k with
  | _ => .int
abbrev wsJx3cf430 : List Cond := u_ws RJx3cf43 TJx3cf43 0
theorem nmJx3cf43 : ∀ a, a < 0 → ∀ b, b < 0 → a ≠ b → (TJx3cf43 a).2.1 ≠ (TJx3cf43 b).2.1 := by decide +kernel
theorem tyJx3cf43_ok : ∀ k, k < 0 → parseFieldDescriptor (TJx3cf43 k).2.2.1 = some (tyJx3cf43 k) := by decide +kernel
def RJ7 : String := "java/util/Arrays"
def TJ7 : u_T := fun k => match k with
  | _ => ("", "", "", false)
def tyJ7 : Nat → FieldType := fun k => match k with
  | _ => .int
abbrev wsJ70 : List Cond := u_ws RJ7 TJ7 0
theorem nmJ7 : ∀ a, a < 0 → ∀ b, b < 0 → a ≠ b → (TJ7 a).2.1 ≠ (TJ7 b).2.1 := by decide +kernel
theorem tyJ7_ok : ∀ k, k < 0 → parseFieldDescriptor (TJ7 k).2.2.1 = some (tyJ7 k) := by decide +kernel
abbrev cJ7_fill_53178 : ByteArray := prog_20_method_103_code
def yJ7_fill_53178 : MethodName := ⟨RJ7, "fill", "([II)V"⟩
def RJ3 : String := "jdk/internal/util/Preconditions"
def TJ3 : u_T := fun k => match k with
  | _ => ("", "", "", false)
def tyJ3 : Nat → FieldType := fun k => match k with
  | _ => .int
abbrev wsJ30 : List Cond := u_ws RJ3 TJ3 0
theorem nmJ3 : ∀ a, a < 0 → ∀ b, b < 0 → a ≠ b → (TJ3 a).2.1 ≠ (TJ3 b).2.1 := by decide +kernel
theorem tyJ3_ok : ∀ k, k < 0 → parseFieldDescriptor (TJ3 k).2.2.1 = some (tyJ3 k) := by decide +kernel
abbrev cJ3_checkIndex_8e157 : ByteArray := prog_21_method_11_code
def yJ3_checkIndex_8e157 : MethodName := ⟨RJ3, "checkIndex", "(IILjava/util/function/BiFunction;)I"⟩
def RL : String := "HallAnswersLaw"
abbrev cL_law : ByteArray := code
def yL_law : MethodName := ⟨RL, "law", "([I)Z"⟩
end
section
theorem dX0_init_0 : decode cX0_init 0 = .ok (.aload_n 0, 1) := by decide +kernel
theorem dX0_init_1 : decode cX0_init 1 = .ok (.invokespecial 3, 3) := by decide +kernel
theorem dX0_init_4 : decode cX0_init 4 = .ok (.aload_n 0, 1) := by decide +kernel
theorem dX0_init_5 : decode cX0_init 5 = .ok (.iconst 0, 1) := by decide +kernel
theorem dX0_init_6 : decode cX0_init 6 = .ok (.putfield 9, 3) := by decide +kernel
theorem dX0_init_9 : decode cX0_init 9 = .ok (.aload_n 0, 1) := by decide +kernel
theorem dX0_init_10 : decode cX0_init 10 = .ok (.bipush 8, 2) := by decide +kernel
theorem dX0_init_12 : decode cX0_init 12 = .ok (.newarray .int, 2) := by decide +kernel
theorem dX0_init_14 : decode cX0_init 14 = .ok (.putfield 15, 3) := by decide +kernel
theorem dX0_init_17 : decode cX0_init 17 = .ok (.aload_n 0, 1) := by decide +kernel
theorem dX0_init_18 : decode cX0_init 18 = .ok (.bipush 8, 2) := by decide +kernel
theorem dX0_init_20 : decode cX0_init 20 = .ok (.newarray .int, 2) := by decide +kernel
theorem dX0_init_22 : decode cX0_init 22 = .ok (.putfield 19, 3) := by decide +kernel
theorem dX0_init_25 : decode cX0_init 25 = .ok (.aload_n 0, 1) := by decide +kernel
theorem dX0_init_26 : decode cX0_init 26 = .ok (.bipush 8, 2) := by decide +kernel
theorem dX0_init_28 : decode cX0_init 28 = .ok (.newarray .int, 2) := by decide +kernel
theorem dX0_init_30 : decode cX0_init 30 = .ok (.putfield 22, 3) := by decide +kernel
theorem dX0_init_33 : decode cX0_init 33 = .ok (.aload_n 0, 1) := by decide +kernel
theorem dX0_init_34 : decode cX0_init 34 = .ok (.bipush 8, 2) := by decide +kernel
theorem dX0_init_36 : decode cX0_init 36 = .ok (.newarray .int, 2) := by decide +kernel
theorem dX0_init_38 : decode cX0_init 38 = .ok (.putfield 25, 3) := by decide +kernel
theorem dX0_init_41 : decode cX0_init 41 = .ok (.aload_n 0, 1) := by decide +kernel
theorem dX0_init_42 : decode cX0_init 42 = .ok (.bipush 8, 2) := by decide +kernel
theorem dX0_init_44 : decode cX0_init 44 = .ok (.newarray .int, 2) := by decide +kernel
theorem dX0_init_46 : decode cX0_init 46 = .ok (.putfield 28, 3) := by decide +kernel
theorem dX0_init_49 : decode cX0_init 49 = .ok (.return_, 1) := by decide +kernel
theorem dX0_add_0 : decode cX0_add 0 = .ok (.aload_n 0, 1) := by decide +kernel
theorem dX0_add_1 : decode cX0_add 1 = .ok (.getfield 9, 3) := by decide +kernel
theorem dX0_add_4 : decode cX0_add 4 = .ok (.ifCond .lt 12, 3) := by decide +kernel
theorem dX0_add_7 : decode cX0_add 7 = .ok (.aload_n 0, 1) := by decide +kernel
theorem dX0_add_8 : decode cX0_add 8 = .ok (.getfield 9, 3) := by decide +kernel
theorem dX0_add_11 : decode cX0_add 11 = .ok (.bipush 8, 2) := by decide +kernel
theorem dX0_add_13 : decode cX0_add 13 = .ok (.if_icmp .lt 4, 3) := by decide +kernel
theorem dX0_add_16 : decode cX0_add 16 = .ok (.return_, 1) := by decide +kernel
theorem dX0_add_17 : decode cX0_add 17 = .ok (.aload_n 0, 1) := by decide +kernel
theorem dX0_add_18 : decode cX0_add 18 = .ok (.getfield 15, 3) := by decide +kernel
theorem dX0_add_21 : decode cX0_add 21 = .ok (.aload_n 0, 1) := by decide +kernel
theorem dX0_add_22 : decode cX0_add 22 = .ok (.getfield 9, 3) := by decide +kernel
theorem dX0_add_25 : decode cX0_add 25 = .ok (.iload_n 1, 1) := by decide +kernel
theorem dX0_add_26 : decode cX0_add 26 = .ok (.iastore, 1) := by decide +kernel
theorem dX0_add_27 : decode cX0_add 27 = .ok (.aload_n 0, 1) := by decide +kernel
theorem dX0_add_28 : decode cX0_add 28 = .ok (.getfield 19, 3) := by decide +kernel
theorem dX0_add_31 : decode cX0_add 31 = .ok (.aload_n 0, 1) := by decide +kernel
theorem dX0_add_32 : decode cX0_add 32 = .ok (.getfield 9, 3) := by decide +kernel
theorem dX0_add_35 : decode cX0_add 35 = .ok (.iload_n 2, 1) := by decide +kernel
theorem dX0_add_36 : decode cX0_add 36 = .ok (.iastore, 1) := by decide +kernel
theorem dX0_add_37 : decode cX0_add 37 = .ok (.aload_n 0, 1) := by decide +kernel
theorem dX0_add_38 : decode cX0_add 38 = .ok (.getfield 22, 3) := by decide +kernel
theorem dX0_add_41 : decode cX0_add 41 = .ok (.aload_n 0, 1) := by decide +kernel
theorem dX0_add_42 : decode cX0_add 42 = .ok (.getfield 9, 3) := by decide +kernel
theorem dX0_add_45 : decode cX0_add 45 = .ok (.iload_n 3, 1) := by decide +kernel
theorem dX0_add_46 : decode cX0_add 46 = .ok (.iastore, 1) := by decide +kernel
theorem dX0_add_47 : decode cX0_add 47 = .ok (.aload_n 0, 1) := by decide +kernel
theorem dX0_add_48 : decode cX0_add 48 = .ok (.getfield 25, 3) := by decide +kernel
theorem dX0_add_51 : decode cX0_add 51 = .ok (.aload_n 0, 1) := by decide +kernel
theorem dX0_add_52 : decode cX0_add 52 = .ok (.getfield 9, 3) := by decide +kernel
theorem dX0_add_55 : decode cX0_add 55 = .ok (.iload 4, 2) := by decide +kernel
theorem dX0_add_57 : decode cX0_add 57 = .ok (.iastore, 1) := by decide +kernel
theorem dX0_add_58 : decode cX0_add 58 = .ok (.aload_n 0, 1) := by decide +kernel
theorem dX0_add_59 : decode cX0_add 59 = .ok (.getfield 28, 3) := by decide +kernel
theorem dX0_add_62 : decode cX0_add 62 = .ok (.aload_n 0, 1) := by decide +kernel
theorem dX0_add_63 : decode cX0_add 63 = .ok (.getfield 9, 3) := by decide +kernel
theorem dX0_add_66 : decode cX0_add 66 = .ok (.iload 5, 2) := by decide +kernel
theorem dX0_add_68 : decode cX0_add 68 = .ok (.iastore, 1) := by decide +kernel
theorem dX0_add_69 : decode cX0_add 69 = .ok (.aload_n 0, 1) := by decide +kernel
theorem dX0_add_70 : decode cX0_add 70 = .ok (.dup, 1) := by decide +kernel
theorem dX0_add_71 : decode cX0_add 71 = .ok (.getfield 9, 3) := by decide +kernel
theorem dX0_add_74 : decode cX0_add 74 = .ok (.iconst 1, 1) := by decide +kernel
theorem dX0_add_75 : decode cX0_add 75 = .ok (.iadd, 1) := by decide +kernel
theorem dX0_add_76 : decode cX0_add 76 = .ok (.putfield 9, 3) := by decide +kernel
theorem dX0_add_79 : decode cX0_add 79 = .ok (.return_, 1) := by decide +kernel
theorem dX0_copyFrom_0 : decode cX0_copyFrom 0 = .ok (.aload_n 0, 1) := by decide +kernel
theorem dX0_copyFrom_1 : decode cX0_copyFrom 1 = .ok (.aload_n 1, 1) := by decide +kernel
theorem dX0_copyFrom_2 : decode cX0_copyFrom 2 = .ok (.getfield 9, 3) := by decide +kernel
theorem dX0_copyFrom_5 : decode cX0_copyFrom 5 = .ok (.putfield 9, 3) := by decide +kernel
theorem dX0_copyFrom_8 : decode cX0_copyFrom 8 = .ok (.aload_n 1, 1) := by decide +kernel
theorem dX0_copyFrom_9 : decode cX0_copyFrom 9 = .ok (.getfield 15, 3) := by decide +kernel
theorem dX0_copyFrom_12 : decode cX0_copyFrom 12 = .ok (.iconst 0, 1) := by decide +kernel
theorem dX0_copyFrom_13 : decode cX0_copyFrom 13 = .ok (.aload_n 0, 1) := by decide +kernel
theorem dX0_copyFrom_14 : decode cX0_copyFrom 14 = .ok (.getfield 15, 3) := by decide +kernel
theorem dX0_copyFrom_17 : decode cX0_copyFrom 17 = .ok (.iconst 0, 1) := by decide +kernel
theorem dX0_copyFrom_18 : decode cX0_copyFrom 18 = .ok (.bipush 8, 2) := by decide +kernel
theorem dX0_copyFrom_20 : decode cX0_copyFrom 20 = .ok (.invokestatic 31, 3) := by decide +kernel
theorem dX0_copyFrom_23 : decode cX0_copyFrom 23 = .ok (.aload_n 1, 1) := by decide +kernel
theorem dX0_copyFrom_24 : decode cX0_copyFrom 24 = .ok (.getfield 19, 3) := by decide +kernel
theorem dX0_copyFrom_27 : decode cX0_copyFrom 27 = .ok (.iconst 0, 1) := by decide +kernel
theorem dX0_copyFrom_28 : decode cX0_copyFrom 28 = .ok (.aload_n 0, 1) := by decide +kernel
theorem dX0_copyFrom_29 : decode cX0_copyFrom 29 = .ok (.getfield 19, 3) := by decide +kernel
theorem dX0_copyFrom_32 : decode cX0_copyFrom 32 = .ok (.iconst 0, 1) := by decide +kernel
theorem dX0_copyFrom_33 : decode cX0_copyFrom 33 = .ok (.bipush 8, 2) := by decide +kernel
theorem dX0_copyFrom_35 : decode cX0_copyFrom 35 = .ok (.invokestatic 31, 3) := by decide +kernel
theorem dX0_copyFrom_38 : decode cX0_copyFrom 38 = .ok (.aload_n 1, 1) := by decide +kernel
theorem dX0_copyFrom_39 : decode cX0_copyFrom 39 = .ok (.getfield 22, 3) := by decide +kernel
theorem dX0_copyFrom_42 : decode cX0_copyFrom 42 = .ok (.iconst 0, 1) := by decide +kernel
theorem dX0_copyFrom_43 : decode cX0_copyFrom 43 = .ok (.aload_n 0, 1) := by decide +kernel
theorem dX0_copyFrom_44 : decode cX0_copyFrom 44 = .ok (.getfield 22, 3) := by decide +kernel
theorem dX0_copyFrom_47 : decode cX0_copyFrom 47 = .ok (.iconst 0, 1) := by decide +kernel
theorem dX0_copyFrom_48 : decode cX0_copyFrom 48 = .ok (.bipush 8, 2) := by decide +kernel
theorem dX0_copyFrom_50 : decode cX0_copyFrom 50 = .ok (.invokestatic 31, 3) := by decide +kernel
theorem dX0_copyFrom_53 : decode cX0_copyFrom 53 = .ok (.aload_n 1, 1) := by decide +kernel
theorem dX0_copyFrom_54 : decode cX0_copyFrom 54 = .ok (.getfield 25, 3) := by decide +kernel
theorem dX0_copyFrom_57 : decode cX0_copyFrom 57 = .ok (.iconst 0, 1) := by decide +kernel
theorem dX0_copyFrom_58 : decode cX0_copyFrom 58 = .ok (.aload_n 0, 1) := by decide +kernel
theorem dX0_copyFrom_59 : decode cX0_copyFrom 59 = .ok (.getfield 25, 3) := by decide +kernel
theorem dX0_copyFrom_62 : decode cX0_copyFrom 62 = .ok (.iconst 0, 1) := by decide +kernel
theorem dX0_copyFrom_63 : decode cX0_copyFrom 63 = .ok (.bipush 8, 2) := by decide +kernel
theorem dX0_copyFrom_65 : decode cX0_copyFrom 65 = .ok (.invokestatic 31, 3) := by decide +kernel
theorem dX0_copyFrom_68 : decode cX0_copyFrom 68 = .ok (.aload_n 1, 1) := by decide +kernel
theorem dX0_copyFrom_69 : decode cX0_copyFrom 69 = .ok (.getfield 28, 3) := by decide +kernel
theorem dX0_copyFrom_72 : decode cX0_copyFrom 72 = .ok (.iconst 0, 1) := by decide +kernel
theorem dX0_copyFrom_73 : decode cX0_copyFrom 73 = .ok (.aload_n 0, 1) := by decide +kernel
theorem dX0_copyFrom_74 : decode cX0_copyFrom 74 = .ok (.getfield 28, 3) := by decide +kernel
theorem dX0_copyFrom_77 : decode cX0_copyFrom 77 = .ok (.iconst 0, 1) := by decide +kernel
theorem dX0_copyFrom_78 : decode cX0_copyFrom 78 = .ok (.bipush 8, 2) := by decide +kernel
theorem dX0_copyFrom_80 : decode cX0_copyFrom 80 = .ok (.invokestatic 31, 3) := by decide +kernel
theorem dX0_copyFrom_83 : decode cX0_copyFrom 83 = .ok (.return_, 1) := by decide +kernel
theorem dX0_exists_0 : decode cX0_exists 0 = .ok (.iload_n 1, 1) := by decide +kernel
theorem dX0_exists_1 : decode cX0_exists 1 = .ok (.ifCond .lt 21, 3) := by decide +kernel
theorem dX0_exists_4 : decode cX0_exists 4 = .ok (.iload_n 1, 1) := by decide +kernel
theorem dX0_exists_5 : decode cX0_exists 5 = .ok (.aload_n 0, 1) := by decide +kernel
theorem dX0_exists_6 : decode cX0_exists 6 = .ok (.getfield 9, 3) := by decide +kernel
theorem dX0_exists_9 : decode cX0_exists 9 = .ok (.if_icmp .ge 13, 3) := by decide +kernel
theorem dX0_exists_12 : decode cX0_exists 12 = .ok (.iload_n 1, 1) := by decide +kernel
theorem dX0_exists_13 : decode cX0_exists 13 = .ok (.bipush 8, 2) := by decide +kernel
theorem dX0_exists_15 : decode cX0_exists 15 = .ok (.if_icmp .ge 7, 3) := by decide +kernel
theorem dX0_exists_18 : decode cX0_exists 18 = .ok (.iconst 1, 1) := by decide +kernel
theorem dX0_exists_19 : decode cX0_exists 19 = .ok (.goto 4, 3) := by decide +kernel
theorem dX0_exists_22 : decode cX0_exists 22 = .ok (.iconst 0, 1) := by decide +kernel
theorem dX0_exists_23 : decode cX0_exists 23 = .ok (.ireturn, 1) := by decide +kernel
theorem dX0_anyPutOn_0 : decode cX0_anyPutOn 0 = .ok (.iconst 0, 1) := by decide +kernel
theorem dX0_anyPutOn_1 : decode cX0_anyPutOn 1 = .ok (.istore_n 2, 1) := by decide +kernel
theorem dX0_anyPutOn_2 : decode cX0_anyPutOn 2 = .ok (.iload_n 2, 1) := by decide +kernel
theorem dX0_anyPutOn_3 : decode cX0_anyPutOn 3 = .ok (.aload_n 0, 1) := by decide +kernel
theorem dX0_anyPutOn_4 : decode cX0_anyPutOn 4 = .ok (.getfield 9, 3) := by decide +kernel
theorem dX0_anyPutOn_7 : decode cX0_anyPutOn 7 = .ok (.if_icmp .ge 37, 3) := by decide +kernel
theorem dX0_anyPutOn_10 : decode cX0_anyPutOn 10 = .ok (.iload_n 2, 1) := by decide +kernel
theorem dX0_anyPutOn_11 : decode cX0_anyPutOn 11 = .ok (.bipush 8, 2) := by decide +kernel
theorem dX0_anyPutOn_13 : decode cX0_anyPutOn 13 = .ok (.if_icmp .ge 31, 3) := by decide +kernel
theorem dX0_anyPutOn_16 : decode cX0_anyPutOn 16 = .ok (.bipush 9, 2) := by decide +kernel
theorem dX0_anyPutOn_18 : decode cX0_anyPutOn 18 = .ok (.aload_n 0, 1) := by decide +kernel
theorem dX0_anyPutOn_19 : decode cX0_anyPutOn 19 = .ok (.getfield 19, 3) := by decide +kernel
theorem dX0_anyPutOn_22 : decode cX0_anyPutOn 22 = .ok (.iload_n 2, 1) := by decide +kernel
theorem dX0_anyPutOn_23 : decode cX0_anyPutOn 23 = .ok (.iaload, 1) := by decide +kernel
theorem dX0_anyPutOn_24 : decode cX0_anyPutOn 24 = .ok (.imul, 1) := by decide +kernel
theorem dX0_anyPutOn_25 : decode cX0_anyPutOn 25 = .ok (.aload_n 0, 1) := by decide +kernel
theorem dX0_anyPutOn_26 : decode cX0_anyPutOn 26 = .ok (.getfield 15, 3) := by decide +kernel
theorem dX0_anyPutOn_29 : decode cX0_anyPutOn 29 = .ok (.iload_n 2, 1) := by decide +kernel
theorem dX0_anyPutOn_30 : decode cX0_anyPutOn 30 = .ok (.iaload, 1) := by decide +kernel
theorem dX0_anyPutOn_31 : decode cX0_anyPutOn 31 = .ok (.iadd, 1) := by decide +kernel
theorem dX0_anyPutOn_32 : decode cX0_anyPutOn 32 = .ok (.iload_n 1, 1) := by decide +kernel
theorem dX0_anyPutOn_33 : decode cX0_anyPutOn 33 = .ok (.if_icmp .ne 5, 3) := by decide +kernel
theorem dX0_anyPutOn_36 : decode cX0_anyPutOn 36 = .ok (.iconst 1, 1) := by decide +kernel
theorem dX0_anyPutOn_37 : decode cX0_anyPutOn 37 = .ok (.ireturn, 1) := by decide +kernel
theorem dX0_anyPutOn_38 : decode cX0_anyPutOn 38 = .ok (.iinc 2 1, 3) := by decide +kernel
theorem dX0_anyPutOn_41 : decode cX0_anyPutOn 41 = .ok (.goto (-39), 3) := by decide +kernel
theorem dX0_anyPutOn_44 : decode cX0_anyPutOn 44 = .ok (.iconst 0, 1) := by decide +kernel
theorem dX0_anyPutOn_45 : decode cX0_anyPutOn 45 = .ok (.ireturn, 1) := by decide +kernel
theorem dX0_cellIn_0 : decode cX0_cellIn 0 = .ok (.aload_n 0, 1) := by decide +kernel
theorem dX0_cellIn_1 : decode cX0_cellIn 1 = .ok (.iload_n 1, 1) := by decide +kernel
theorem dX0_cellIn_2 : decode cX0_cellIn 2 = .ok (.invokevirtual 37, 3) := by decide +kernel
theorem dX0_cellIn_5 : decode cX0_cellIn 5 = .ok (.ifCond .ne 6, 3) := by decide +kernel
theorem dX0_cellIn_8 : decode cX0_cellIn 8 = .ok (.bipush (-4), 2) := by decide +kernel
theorem dX0_cellIn_10 : decode cX0_cellIn 10 = .ok (.ireturn, 1) := by decide +kernel
theorem dX0_cellIn_11 : decode cX0_cellIn 11 = .ok (.aload_n 0, 1) := by decide +kernel
theorem dX0_cellIn_12 : decode cX0_cellIn 12 = .ok (.getfield 28, 3) := by decide +kernel
theorem dX0_cellIn_15 : decode cX0_cellIn 15 = .ok (.iload_n 1, 1) := by decide +kernel
theorem dX0_cellIn_16 : decode cX0_cellIn 16 = .ok (.iaload, 1) := by decide +kernel
theorem dX0_cellIn_17 : decode cX0_cellIn 17 = .ok (.iconst 2, 1) := by decide +kernel
theorem dX0_cellIn_18 : decode cX0_cellIn 18 = .ok (.if_icmp .ne 20, 3) := by decide +kernel
theorem dX0_cellIn_21 : decode cX0_cellIn 21 = .ok (.iload_n 3, 1) := by decide +kernel
theorem dX0_cellIn_22 : decode cX0_cellIn 22 = .ok (.ifCond .le 16, 3) := by decide +kernel
theorem dX0_cellIn_25 : decode cX0_cellIn 25 = .ok (.aload_n 0, 1) := by decide +kernel
theorem dX0_cellIn_26 : decode cX0_cellIn 26 = .ok (.getfield 15, 3) := by decide +kernel
theorem dX0_cellIn_29 : decode cX0_cellIn 29 = .ok (.iload_n 1, 1) := by decide +kernel
theorem dX0_cellIn_30 : decode cX0_cellIn 30 = .ok (.iaload, 1) := by decide +kernel
theorem dX0_cellIn_31 : decode cX0_cellIn 31 = .ok (.iload_n 2, 1) := by decide +kernel
theorem dX0_cellIn_32 : decode cX0_cellIn 32 = .ok (.iadd, 1) := by decide +kernel
theorem dX0_cellIn_33 : decode cX0_cellIn 33 = .ok (.iload_n 3, 1) := by decide +kernel
theorem dX0_cellIn_34 : decode cX0_cellIn 34 = .ok (.irem, 1) := by decide +kernel
theorem dX0_cellIn_35 : decode cX0_cellIn 35 = .ok (.goto 9, 3) := by decide +kernel
theorem dX0_cellIn_38 : decode cX0_cellIn 38 = .ok (.aload_n 0, 1) := by decide +kernel
theorem dX0_cellIn_39 : decode cX0_cellIn 39 = .ok (.getfield 15, 3) := by decide +kernel
theorem dX0_cellIn_42 : decode cX0_cellIn 42 = .ok (.iload_n 1, 1) := by decide +kernel
theorem dX0_cellIn_43 : decode cX0_cellIn 43 = .ok (.iaload, 1) := by decide +kernel
theorem dX0_cellIn_44 : decode cX0_cellIn 44 = .ok (.istore 4, 2) := by decide +kernel
theorem dX0_cellIn_46 : decode cX0_cellIn 46 = .ok (.bipush 9, 2) := by decide +kernel
theorem dX0_cellIn_48 : decode cX0_cellIn 48 = .ok (.aload_n 0, 1) := by decide +kernel
theorem dX0_cellIn_49 : decode cX0_cellIn 49 = .ok (.getfield 19, 3) := by decide +kernel
theorem dX0_cellIn_52 : decode cX0_cellIn 52 = .ok (.iload_n 1, 1) := by decide +kernel
theorem dX0_cellIn_53 : decode cX0_cellIn 53 = .ok (.iaload, 1) := by decide +kernel
theorem dX0_cellIn_54 : decode cX0_cellIn 54 = .ok (.imul, 1) := by decide +kernel
theorem dX0_cellIn_55 : decode cX0_cellIn 55 = .ok (.iload 4, 2) := by decide +kernel
theorem dX0_cellIn_57 : decode cX0_cellIn 57 = .ok (.iadd, 1) := by decide +kernel
theorem dX0_cellIn_58 : decode cX0_cellIn 58 = .ok (.ireturn, 1) := by decide +kernel
theorem dX0_facingIn_0 : decode cX0_facingIn 0 = .ok (.aload_n 0, 1) := by decide +kernel
theorem dX0_facingIn_1 : decode cX0_facingIn 1 = .ok (.iload_n 1, 1) := by decide +kernel
theorem dX0_facingIn_2 : decode cX0_facingIn 2 = .ok (.invokevirtual 37, 3) := by decide +kernel
theorem dX0_facingIn_5 : decode cX0_facingIn 5 = .ok (.ifCond .ne 6, 3) := by decide +kernel
theorem dX0_facingIn_8 : decode cX0_facingIn 8 = .ok (.bipush (-4), 2) := by decide +kernel
theorem dX0_facingIn_10 : decode cX0_facingIn 10 = .ok (.ireturn, 1) := by decide +kernel
theorem dX0_facingIn_11 : decode cX0_facingIn 11 = .ok (.aload_n 0, 1) := by decide +kernel
theorem dX0_facingIn_12 : decode cX0_facingIn 12 = .ok (.getfield 28, 3) := by decide +kernel
theorem dX0_facingIn_15 : decode cX0_facingIn 15 = .ok (.iload_n 1, 1) := by decide +kernel
theorem dX0_facingIn_16 : decode cX0_facingIn 16 = .ok (.iaload, 1) := by decide +kernel
theorem dX0_facingIn_17 : decode cX0_facingIn 17 = .ok (.iconst 1, 1) := by decide +kernel
theorem dX0_facingIn_18 : decode cX0_facingIn 18 = .ok (.if_icmp .eq 13, 3) := by decide +kernel
theorem dX0_facingIn_21 : decode cX0_facingIn 21 = .ok (.aload_n 0, 1) := by decide +kernel
theorem dX0_facingIn_22 : decode cX0_facingIn 22 = .ok (.getfield 28, 3) := by decide +kernel
theorem dX0_facingIn_25 : decode cX0_facingIn 25 = .ok (.iload_n 1, 1) := by decide +kernel
theorem dX0_facingIn_26 : decode cX0_facingIn 26 = .ok (.iaload, 1) := by decide +kernel
theorem dX0_facingIn_27 : decode cX0_facingIn 27 = .ok (.iconst 2, 1) := by decide +kernel
theorem dX0_facingIn_28 : decode cX0_facingIn 28 = .ok (.if_icmp .ne 7, 3) := by decide +kernel
theorem dX0_facingIn_31 : decode cX0_facingIn 31 = .ok (.iconst 1, 1) := by decide +kernel
theorem dX0_facingIn_32 : decode cX0_facingIn 32 = .ok (.goto 4, 3) := by decide +kernel
theorem dX0_facingIn_35 : decode cX0_facingIn 35 = .ok (.iconst 0, 1) := by decide +kernel
theorem dX0_facingIn_36 : decode cX0_facingIn 36 = .ok (.istore_n 3, 1) := by decide +kernel
theorem dX0_facingIn_37 : decode cX0_facingIn 37 = .ok (.iload_n 3, 1) := by decide +kernel
theorem dX0_facingIn_38 : decode cX0_facingIn 38 = .ok (.ifCond .eq 17, 3) := by decide +kernel
theorem dX0_facingIn_41 : decode cX0_facingIn 41 = .ok (.aload_n 0, 1) := by decide +kernel
theorem dX0_facingIn_42 : decode cX0_facingIn 42 = .ok (.getfield 22, 3) := by decide +kernel
theorem dX0_facingIn_45 : decode cX0_facingIn 45 = .ok (.iload_n 1, 1) := by decide +kernel
theorem dX0_facingIn_46 : decode cX0_facingIn 46 = .ok (.iaload, 1) := by decide +kernel
theorem dX0_facingIn_47 : decode cX0_facingIn 47 = .ok (.iload_n 2, 1) := by decide +kernel
theorem dX0_facingIn_48 : decode cX0_facingIn 48 = .ok (.iadd, 1) := by decide +kernel
theorem dX0_facingIn_49 : decode cX0_facingIn 49 = .ok (.bipush 8, 2) := by decide +kernel
theorem dX0_facingIn_51 : decode cX0_facingIn 51 = .ok (.irem, 1) := by decide +kernel
theorem dX0_facingIn_52 : decode cX0_facingIn 52 = .ok (.goto 9, 3) := by decide +kernel
theorem dX0_facingIn_55 : decode cX0_facingIn 55 = .ok (.aload_n 0, 1) := by decide +kernel
theorem dX0_facingIn_56 : decode cX0_facingIn 56 = .ok (.getfield 22, 3) := by decide +kernel
theorem dX0_facingIn_59 : decode cX0_facingIn 59 = .ok (.iload_n 1, 1) := by decide +kernel
theorem dX0_facingIn_60 : decode cX0_facingIn 60 = .ok (.iaload, 1) := by decide +kernel
theorem dX0_facingIn_61 : decode cX0_facingIn 61 = .ok (.ireturn, 1) := by decide +kernel
theorem dX0_earOf_0 : decode cX0_earOf 0 = .ok (.aload_n 0, 1) := by decide +kernel
theorem dX0_earOf_1 : decode cX0_earOf 1 = .ok (.iload_n 1, 1) := by decide +kernel
theorem dX0_earOf_2 : decode cX0_earOf 2 = .ok (.invokevirtual 37, 3) := by decide +kernel
theorem dX0_earOf_5 : decode cX0_earOf 5 = .ok (.ifCond .ne 6, 3) := by decide +kernel
theorem dX0_earOf_8 : decode cX0_earOf 8 = .ok (.bipush (-4), 2) := by decide +kernel
theorem dX0_earOf_10 : decode cX0_earOf 10 = .ok (.ireturn, 1) := by decide +kernel
theorem dX0_earOf_11 : decode cX0_earOf 11 = .ok (.aload_n 0, 1) := by decide +kernel
theorem dX0_earOf_12 : decode cX0_earOf 12 = .ok (.getfield 28, 3) := by decide +kernel
theorem dX0_earOf_15 : decode cX0_earOf 15 = .ok (.iload_n 1, 1) := by decide +kernel
theorem dX0_earOf_16 : decode cX0_earOf 16 = .ok (.iaload, 1) := by decide +kernel
theorem dX0_earOf_17 : decode cX0_earOf 17 = .ok (.iconst 4, 1) := by decide +kernel
theorem dX0_earOf_18 : decode cX0_earOf 18 = .ok (.if_icmp .ne 18, 3) := by decide +kernel
theorem dX0_earOf_21 : decode cX0_earOf 21 = .ok (.iconst 1, 1) := by decide +kernel
theorem dX0_earOf_22 : decode cX0_earOf 22 = .ok (.aload_n 0, 1) := by decide +kernel
theorem dX0_earOf_23 : decode cX0_earOf 23 = .ok (.getfield 25, 3) := by decide +kernel
theorem dX0_earOf_26 : decode cX0_earOf 26 = .ok (.iload_n 1, 1) := by decide +kernel
theorem dX0_earOf_27 : decode cX0_earOf 27 = .ok (.iaload, 1) := by decide +kernel
theorem dX0_earOf_28 : decode cX0_earOf 28 = .ok (.iconst 2, 1) := by decide +kernel
theorem dX0_earOf_29 : decode cX0_earOf 29 = .ok (.idiv, 1) := by decide +kernel
theorem dX0_earOf_30 : decode cX0_earOf 30 = .ok (.invokestatic 41, 3) := by decide +kernel
theorem dX0_earOf_33 : decode cX0_earOf 33 = .ok (.goto 9, 3) := by decide +kernel
theorem dX0_earOf_36 : decode cX0_earOf 36 = .ok (.aload_n 0, 1) := by decide +kernel
theorem dX0_earOf_37 : decode cX0_earOf 37 = .ok (.getfield 25, 3) := by decide +kernel
theorem dX0_earOf_40 : decode cX0_earOf 40 = .ok (.iload_n 1, 1) := by decide +kernel
theorem dX0_earOf_41 : decode cX0_earOf 41 = .ok (.iaload, 1) := by decide +kernel
theorem dX0_earOf_42 : decode cX0_earOf 42 = .ok (.ireturn, 1) := by decide +kernel
theorem dX0_kindOf_0 : decode cX0_kindOf 0 = .ok (.aload_n 0, 1) := by decide +kernel
theorem dX0_kindOf_1 : decode cX0_kindOf 1 = .ok (.iload_n 1, 1) := by decide +kernel
theorem dX0_kindOf_2 : decode cX0_kindOf 2 = .ok (.invokevirtual 37, 3) := by decide +kernel
theorem dX0_kindOf_5 : decode cX0_kindOf 5 = .ok (.ifCond .eq 12, 3) := by decide +kernel
theorem dX0_kindOf_8 : decode cX0_kindOf 8 = .ok (.aload_n 0, 1) := by decide +kernel
theorem dX0_kindOf_9 : decode cX0_kindOf 9 = .ok (.getfield 28, 3) := by decide +kernel
theorem dX0_kindOf_12 : decode cX0_kindOf 12 = .ok (.iload_n 1, 1) := by decide +kernel
theorem dX0_kindOf_13 : decode cX0_kindOf 13 = .ok (.iaload, 1) := by decide +kernel
theorem dX0_kindOf_14 : decode cX0_kindOf 14 = .ok (.goto 5, 3) := by decide +kernel
theorem dX0_kindOf_17 : decode cX0_kindOf 17 = .ok (.bipush (-4), 2) := by decide +kernel
theorem dX0_kindOf_19 : decode cX0_kindOf 19 = .ok (.ireturn, 1) := by decide +kernel
theorem dX1_init_0 : decode cX1_init 0 = .ok (.aload_n 0, 1) := by decide +kernel
theorem dX1_init_1 : decode cX1_init 1 = .ok (.invokespecial 3, 3) := by decide +kernel
theorem dX1_init_4 : decode cX1_init 4 = .ok (.aload_n 0, 1) := by decide +kernel
theorem dX1_init_5 : decode cX1_init 5 = .ok (.iconst 0, 1) := by decide +kernel
theorem dX1_init_6 : decode cX1_init 6 = .ok (.putfield 9, 3) := by decide +kernel
theorem dX1_init_9 : decode cX1_init 9 = .ok (.aload_n 0, 1) := by decide +kernel
theorem dX1_init_10 : decode cX1_init 10 = .ok (.bipush 41, 2) := by decide +kernel
theorem dX1_init_12 : decode cX1_init 12 = .ok (.newarray .int, 2) := by decide +kernel
theorem dX1_init_14 : decode cX1_init 14 = .ok (.putfield 15, 3) := by decide +kernel
theorem dX1_init_17 : decode cX1_init 17 = .ok (.aload_n 0, 1) := by decide +kernel
theorem dX1_init_18 : decode cX1_init 18 = .ok (.bipush 41, 2) := by decide +kernel
theorem dX1_init_20 : decode cX1_init 20 = .ok (.newarray .int, 2) := by decide +kernel
theorem dX1_init_22 : decode cX1_init 22 = .ok (.putfield 19, 3) := by decide +kernel
theorem dX1_init_25 : decode cX1_init 25 = .ok (.aload_n 0, 1) := by decide +kernel
theorem dX1_init_26 : decode cX1_init 26 = .ok (.bipush 41, 2) := by decide +kernel
theorem dX1_init_28 : decode cX1_init 28 = .ok (.newarray .int, 2) := by decide +kernel
theorem dX1_init_30 : decode cX1_init 30 = .ok (.putfield 22, 3) := by decide +kernel
theorem dX1_init_33 : decode cX1_init 33 = .ok (.return_, 1) := by decide +kernel
theorem dX1_run_0 : decode cX1_run 0 = .ok (.aload_n 0, 1) := by decide +kernel
theorem dX1_run_1 : decode cX1_run 1 = .ok (.iconst 0, 1) := by decide +kernel
theorem dX1_run_2 : decode cX1_run 2 = .ok (.putfield 9, 3) := by decide +kernel
theorem dX1_run_5 : decode cX1_run 5 = .ok (.aload_n 0, 1) := by decide +kernel
theorem dX1_run_6 : decode cX1_run 6 = .ok (.getfield 15, 3) := by decide +kernel
theorem dX1_run_9 : decode cX1_run 9 = .ok (.iconst 0, 1) := by decide +kernel
theorem dX1_run_10 : decode cX1_run 10 = .ok (.iload_n 2, 1) := by decide +kernel
theorem dX1_run_11 : decode cX1_run 11 = .ok (.iastore, 1) := by decide +kernel
theorem dX1_run_12 : decode cX1_run 12 = .ok (.aload_n 1, 1) := by decide +kernel
theorem dX1_run_13 : decode cX1_run 13 = .ok (.iload_n 2, 1) := by decide +kernel
theorem dX1_run_14 : decode cX1_run 14 = .ok (.invokevirtual 25, 3) := by decide +kernel
theorem dX1_run_17 : decode cX1_run 17 = .ok (.ifCond .eq 13, 3) := by decide +kernel
theorem dX1_run_20 : decode cX1_run 20 = .ok (.iload_n 3, 1) := by decide +kernel
theorem dX1_run_21 : decode cX1_run 21 = .ok (.iconst 0, 1) := by decide +kernel
theorem dX1_run_22 : decode cX1_run 22 = .ok (.bipush 7, 2) := by decide +kernel
theorem dX1_run_24 : decode cX1_run 24 = .ok (.invokestatic 31, 3) := by decide +kernel
theorem dX1_run_27 : decode cX1_run 27 = .ok (.ifCond .ne 4, 3) := by decide +kernel
theorem dX1_run_30 : decode cX1_run 30 = .ok (.return_, 1) := by decide +kernel
theorem dX1_run_31 : decode cX1_run 31 = .ok (.iload_n 2, 1) := by decide +kernel
theorem dX1_run_32 : decode cX1_run 32 = .ok (.bipush 9, 2) := by decide +kernel
theorem dX1_run_34 : decode cX1_run 34 = .ok (.irem, 1) := by decide +kernel
theorem dX1_run_35 : decode cX1_run 35 = .ok (.istore 5, 2) := by decide +kernel
theorem dX1_run_37 : decode cX1_run 37 = .ok (.iload_n 2, 1) := by decide +kernel
theorem dX1_run_38 : decode cX1_run 38 = .ok (.bipush 9, 2) := by decide +kernel
theorem dX1_run_40 : decode cX1_run 40 = .ok (.idiv, 1) := by decide +kernel
theorem dX1_run_41 : decode cX1_run 41 = .ok (.istore 6, 2) := by decide +kernel
theorem dX1_run_43 : decode cX1_run 43 = .ok (.getstatic 35, 3) := by decide +kernel
theorem dX1_run_46 : decode cX1_run 46 = .ok (.iload_n 3, 1) := by decide +kernel
theorem dX1_run_47 : decode cX1_run 47 = .ok (.iaload, 1) := by decide +kernel
theorem dX1_run_48 : decode cX1_run 48 = .ok (.istore 7, 2) := by decide +kernel
theorem dX1_run_50 : decode cX1_run 50 = .ok (.getstatic 38, 3) := by decide +kernel
theorem dX1_run_53 : decode cX1_run 53 = .ok (.iload_n 3, 1) := by decide +kernel
theorem dX1_run_54 : decode cX1_run 54 = .ok (.iaload, 1) := by decide +kernel
theorem dX1_run_55 : decode cX1_run 55 = .ok (.istore 8, 2) := by decide +kernel
theorem dX1_run_57 : decode cX1_run 57 = .ok (.iconst 0, 1) := by decide +kernel
theorem dX1_run_58 : decode cX1_run 58 = .ok (.istore 9, 2) := by decide +kernel
theorem dX1_run_60 : decode cX1_run 60 = .ok (.iconst 1, 1) := by decide +kernel
theorem dX1_run_61 : decode cX1_run 61 = .ok (.istore 10, 2) := by decide +kernel
theorem dX1_run_63 : decode cX1_run 63 = .ok (.iload 10, 2) := by decide +kernel
theorem dX1_run_65 : decode cX1_run 65 = .ok (.bipush 40, 2) := by decide +kernel
theorem dX1_run_67 : decode cX1_run 67 = .ok (.if_icmp .gt 206, 3) := by decide +kernel
theorem dX1_run_70 : decode cX1_run 70 = .ok (.iload 5, 2) := by decide +kernel
theorem dX1_run_72 : decode cX1_run 72 = .ok (.iload 7, 2) := by decide +kernel
theorem dX1_run_74 : decode cX1_run 74 = .ok (.iadd, 1) := by decide +kernel
theorem dX1_run_75 : decode cX1_run 75 = .ok (.ifCond .lt 15, 3) := by decide +kernel
theorem dX1_run_78 : decode cX1_run 78 = .ok (.iload 5, 2) := by decide +kernel
theorem dX1_run_80 : decode cX1_run 80 = .ok (.iload 7, 2) := by decide +kernel
theorem dX1_run_82 : decode cX1_run 82 = .ok (.iadd, 1) := by decide +kernel
theorem dX1_run_83 : decode cX1_run 83 = .ok (.aload_n 1, 1) := by decide +kernel
theorem dX1_run_84 : decode cX1_run 84 = .ok (.getfield 41, 3) := by decide +kernel
theorem dX1_run_87 : decode cX1_run 87 = .ok (.if_icmp .lt 11, 3) := by decide +kernel
theorem dX1_run_90 : decode cX1_run 90 = .ok (.iload 7, 2) := by decide +kernel
theorem dX1_run_92 : decode cX1_run 92 = .ok (.ineg, 1) := by decide +kernel
theorem dX1_run_93 : decode cX1_run 93 = .ok (.istore 7, 2) := by decide +kernel
theorem dX1_run_95 : decode cX1_run 95 = .ok (.iinc 9 1, 3) := by decide +kernel
theorem dX1_run_98 : decode cX1_run 98 = .ok (.iload 6, 2) := by decide +kernel
theorem dX1_run_100 : decode cX1_run 100 = .ok (.iload 8, 2) := by decide +kernel
theorem dX1_run_102 : decode cX1_run 102 = .ok (.iadd, 1) := by decide +kernel
theorem dX1_run_103 : decode cX1_run 103 = .ok (.ifCond .lt 15, 3) := by decide +kernel
theorem dX1_run_106 : decode cX1_run 106 = .ok (.iload 6, 2) := by decide +kernel
theorem dX1_run_108 : decode cX1_run 108 = .ok (.iload 8, 2) := by decide +kernel
theorem dX1_run_110 : decode cX1_run 110 = .ok (.iadd, 1) := by decide +kernel
theorem dX1_run_111 : decode cX1_run 111 = .ok (.aload_n 1, 1) := by decide +kernel
theorem dX1_run_112 : decode cX1_run 112 = .ok (.getfield 44, 3) := by decide +kernel
theorem dX1_run_115 : decode cX1_run 115 = .ok (.if_icmp .lt 11, 3) := by decide +kernel
theorem dX1_run_118 : decode cX1_run 118 = .ok (.iload 8, 2) := by decide +kernel
theorem dX1_run_120 : decode cX1_run 120 = .ok (.ineg, 1) := by decide +kernel
theorem dX1_run_121 : decode cX1_run 121 = .ok (.istore 8, 2) := by decide +kernel
theorem dX1_run_123 : decode cX1_run 123 = .ok (.iinc 9 1, 3) := by decide +kernel
theorem dX1_run_126 : decode cX1_run 126 = .ok (.iload 5, 2) := by decide +kernel
theorem dX1_run_128 : decode cX1_run 128 = .ok (.iload 7, 2) := by decide +kernel
theorem dX1_run_130 : decode cX1_run 130 = .ok (.iadd, 1) := by decide +kernel
theorem dX1_run_131 : decode cX1_run 131 = .ok (.istore 5, 2) := by decide +kernel
theorem dX1_run_133 : decode cX1_run 133 = .ok (.iload 6, 2) := by decide +kernel
theorem dX1_run_135 : decode cX1_run 135 = .ok (.iload 8, 2) := by decide +kernel
theorem dX1_run_137 : decode cX1_run 137 = .ok (.iadd, 1) := by decide +kernel
theorem dX1_run_138 : decode cX1_run 138 = .ok (.istore 6, 2) := by decide +kernel
theorem dX1_run_140 : decode cX1_run 140 = .ok (.aload_n 1, 1) := by decide +kernel
theorem dX1_run_141 : decode cX1_run 141 = .ok (.getfield 47, 3) := by decide +kernel
theorem dX1_run_144 : decode cX1_run 144 = .ok (.ifCond .le 27, 3) := by decide +kernel
theorem dX1_run_147 : decode cX1_run 147 = .ok (.iload 10, 2) := by decide +kernel
theorem dX1_run_149 : decode cX1_run 149 = .ok (.aload_n 1, 1) := by decide +kernel
theorem dX1_run_150 : decode cX1_run 150 = .ok (.getfield 47, 3) := by decide +kernel
theorem dX1_run_153 : decode cX1_run 153 = .ok (.irem, 1) := by decide +kernel
theorem dX1_run_154 : decode cX1_run 154 = .ok (.ifCond .ne 17, 3) := by decide +kernel
theorem dX1_run_157 : decode cX1_run 157 = .ok (.iload 6, 2) := by decide +kernel
theorem dX1_run_159 : decode cX1_run 159 = .ok (.iconst 1, 1) := by decide +kernel
theorem dX1_run_160 : decode cX1_run 160 = .ok (.iadd, 1) := by decide +kernel
theorem dX1_run_161 : decode cX1_run 161 = .ok (.aload_n 1, 1) := by decide +kernel
theorem dX1_run_162 : decode cX1_run 162 = .ok (.getfield 44, 3) := by decide +kernel
theorem dX1_run_165 : decode cX1_run 165 = .ok (.if_icmp .ge 6, 3) := by decide +kernel
theorem dX1_run_168 : decode cX1_run 168 = .ok (.iinc 6 1, 3) := by decide +kernel
theorem dX1_run_171 : decode cX1_run 171 = .ok (.aload_n 1, 1) := by decide +kernel
theorem dX1_run_172 : decode cX1_run 172 = .ok (.bipush 9, 2) := by decide +kernel
theorem dX1_run_174 : decode cX1_run 174 = .ok (.iload 6, 2) := by decide +kernel
theorem dX1_run_176 : decode cX1_run 176 = .ok (.imul, 1) := by decide +kernel
theorem dX1_run_177 : decode cX1_run 177 = .ok (.iload 5, 2) := by decide +kernel
theorem dX1_run_179 : decode cX1_run 179 = .ok (.iadd, 1) := by decide +kernel
theorem dX1_run_180 : decode cX1_run 180 = .ok (.invokevirtual 50, 3) := by decide +kernel
theorem dX1_run_183 : decode cX1_run 183 = .ok (.istore 11, 2) := by decide +kernel
theorem dX1_run_185 : decode cX1_run 185 = .ok (.bipush 100, 2) := by decide +kernel
theorem dX1_run_187 : decode cX1_run 187 = .ok (.aload_n 1, 1) := by decide +kernel
theorem dX1_run_188 : decode cX1_run 188 = .ok (.getfield 54, 3) := by decide +kernel
theorem dX1_run_191 : decode cX1_run 191 = .ok (.iload 10, 2) := by decide +kernel
theorem dX1_run_193 : decode cX1_run 193 = .ok (.imul, 1) := by decide +kernel
theorem dX1_run_194 : decode cX1_run 194 = .ok (.isub, 1) := by decide +kernel
theorem dX1_run_195 : decode cX1_run 195 = .ok (.aload_n 1, 1) := by decide +kernel
theorem dX1_run_196 : decode cX1_run 196 = .ok (.getfield 57, 3) := by decide +kernel
theorem dX1_run_199 : decode cX1_run 199 = .ok (.iload 9, 2) := by decide +kernel
theorem dX1_run_201 : decode cX1_run 201 = .ok (.imul, 1) := by decide +kernel
theorem dX1_run_202 : decode cX1_run 202 = .ok (.isub, 1) := by decide +kernel
theorem dX1_run_203 : decode cX1_run 203 = .ok (.istore 12, 2) := by decide +kernel
theorem dX1_run_205 : decode cX1_run 205 = .ok (.iload 12, 2) := by decide +kernel
theorem dX1_run_207 : decode cX1_run 207 = .ok (.ifCond .le 20, 3) := by decide +kernel
theorem dX1_run_210 : decode cX1_run 210 = .ok (.iload 11, 2) := by decide +kernel
theorem dX1_run_212 : decode cX1_run 212 = .ok (.iconst 1, 1) := by decide +kernel
theorem dX1_run_213 : decode cX1_run 213 = .ok (.if_icmp .eq 14, 3) := by decide +kernel
theorem dX1_run_216 : decode cX1_run 216 = .ok (.iload 11, 2) := by decide +kernel
theorem dX1_run_218 : decode cX1_run 218 = .ok (.iconst 2, 1) := by decide +kernel
theorem dX1_run_219 : decode cX1_run 219 = .ok (.if_icmp .ne 9, 3) := by decide +kernel
theorem dX1_run_222 : decode cX1_run 222 = .ok (.iload 4, 2) := by decide +kernel
theorem dX1_run_224 : decode cX1_run 224 = .ok (.ifCond .ne 4, 3) := by decide +kernel
theorem dX1_run_227 : decode cX1_run 227 = .ok (.return_, 1) := by decide +kernel
theorem dX1_run_228 : decode cX1_run 228 = .ok (.aload_n 0, 1) := by decide +kernel
theorem dX1_run_229 : decode cX1_run 229 = .ok (.getfield 15, 3) := by decide +kernel
theorem dX1_run_232 : decode cX1_run 232 = .ok (.iload 10, 2) := by decide +kernel
theorem dX1_run_234 : decode cX1_run 234 = .ok (.bipush 9, 2) := by decide +kernel
theorem dX1_run_236 : decode cX1_run 236 = .ok (.iload 6, 2) := by decide +kernel
theorem dX1_run_238 : decode cX1_run 238 = .ok (.imul, 1) := by decide +kernel
theorem dX1_run_239 : decode cX1_run 239 = .ok (.iload 5, 2) := by decide +kernel
theorem dX1_run_241 : decode cX1_run 241 = .ok (.iadd, 1) := by decide +kernel
theorem dX1_run_242 : decode cX1_run 242 = .ok (.iastore, 1) := by decide +kernel
theorem dX1_run_243 : decode cX1_run 243 = .ok (.aload_n 0, 1) := by decide +kernel
theorem dX1_run_244 : decode cX1_run 244 = .ok (.getfield 19, 3) := by decide +kernel
theorem dX1_run_247 : decode cX1_run 247 = .ok (.iload 10, 2) := by decide +kernel
theorem dX1_run_249 : decode cX1_run 249 = .ok (.iload 12, 2) := by decide +kernel
theorem dX1_run_251 : decode cX1_run 251 = .ok (.iastore, 1) := by decide +kernel
theorem dX1_run_252 : decode cX1_run 252 = .ok (.aload_n 0, 1) := by decide +kernel
theorem dX1_run_253 : decode cX1_run 253 = .ok (.getfield 22, 3) := by decide +kernel
theorem dX1_run_256 : decode cX1_run 256 = .ok (.iload 10, 2) := by decide +kernel
theorem dX1_run_258 : decode cX1_run 258 = .ok (.iload 9, 2) := by decide +kernel
theorem dX1_run_260 : decode cX1_run 260 = .ok (.iastore, 1) := by decide +kernel
theorem dX1_run_261 : decode cX1_run 261 = .ok (.aload_n 0, 1) := by decide +kernel
theorem dX1_run_262 : decode cX1_run 262 = .ok (.iload 10, 2) := by decide +kernel
theorem dX1_run_264 : decode cX1_run 264 = .ok (.putfield 9, 3) := by decide +kernel
theorem dX1_run_267 : decode cX1_run 267 = .ok (.iinc 10 1, 3) := by decide +kernel
theorem dX1_run_270 : decode cX1_run 270 = .ok (.goto (-207), 3) := by decide +kernel
theorem dX1_run_273 : decode cX1_run 273 = .ok (.return_, 1) := by decide +kernel
theorem dX1_reaches_0 : decode cX1_reaches 0 = .ok (.iload_n 1, 1) := by decide +kernel
theorem dX1_reaches_1 : decode cX1_reaches 1 = .ok (.ifCond .lt 21, 3) := by decide +kernel
theorem dX1_reaches_4 : decode cX1_reaches 4 = .ok (.iload_n 1, 1) := by decide +kernel
theorem dX1_reaches_5 : decode cX1_reaches 5 = .ok (.aload_n 0, 1) := by decide +kernel
theorem dX1_reaches_6 : decode cX1_reaches 6 = .ok (.getfield 9, 3) := by decide +kernel
theorem dX1_reaches_9 : decode cX1_reaches 9 = .ok (.if_icmp .gt 13, 3) := by decide +kernel
theorem dX1_reaches_12 : decode cX1_reaches 12 = .ok (.iload_n 1, 1) := by decide +kernel
theorem dX1_reaches_13 : decode cX1_reaches 13 = .ok (.bipush 40, 2) := by decide +kernel
theorem dX1_reaches_15 : decode cX1_reaches 15 = .ok (.if_icmp .gt 7, 3) := by decide +kernel
theorem dX1_reaches_18 : decode cX1_reaches 18 = .ok (.iconst 1, 1) := by decide +kernel
theorem dX1_reaches_19 : decode cX1_reaches 19 = .ok (.goto 4, 3) := by decide +kernel
theorem dX1_reaches_22 : decode cX1_reaches 22 = .ok (.iconst 0, 1) := by decide +kernel
theorem dX1_reaches_23 : decode cX1_reaches 23 = .ok (.ireturn, 1) := by decide +kernel
theorem dX1_cellAt_0 : decode cX1_cellAt 0 = .ok (.aload_n 0, 1) := by decide +kernel
theorem dX1_cellAt_1 : decode cX1_cellAt 1 = .ok (.iload_n 1, 1) := by decide +kernel
theorem dX1_cellAt_2 : decode cX1_cellAt 2 = .ok (.invokevirtual 60, 3) := by decide +kernel
theorem dX1_cellAt_5 : decode cX1_cellAt 5 = .ok (.ifCond .eq 12, 3) := by decide +kernel
theorem dX1_cellAt_8 : decode cX1_cellAt 8 = .ok (.aload_n 0, 1) := by decide +kernel
theorem dX1_cellAt_9 : decode cX1_cellAt 9 = .ok (.getfield 15, 3) := by decide +kernel
theorem dX1_cellAt_12 : decode cX1_cellAt 12 = .ok (.iload_n 1, 1) := by decide +kernel
theorem dX1_cellAt_13 : decode cX1_cellAt 13 = .ok (.iaload, 1) := by decide +kernel
theorem dX1_cellAt_14 : decode cX1_cellAt 14 = .ok (.goto 5, 3) := by decide +kernel
theorem dX1_cellAt_17 : decode cX1_cellAt 17 = .ok (.bipush (-4), 2) := by decide +kernel
theorem dX1_cellAt_19 : decode cX1_cellAt 19 = .ok (.ireturn, 1) := by decide +kernel
theorem dX1_loudAt_0 : decode cX1_loudAt 0 = .ok (.aload_n 0, 1) := by decide +kernel
theorem dX1_loudAt_1 : decode cX1_loudAt 1 = .ok (.iload_n 1, 1) := by decide +kernel
theorem dX1_loudAt_2 : decode cX1_loudAt 2 = .ok (.invokevirtual 60, 3) := by decide +kernel
theorem dX1_loudAt_5 : decode cX1_loudAt 5 = .ok (.ifCond .eq 12, 3) := by decide +kernel
theorem dX1_loudAt_8 : decode cX1_loudAt 8 = .ok (.aload_n 0, 1) := by decide +kernel
theorem dX1_loudAt_9 : decode cX1_loudAt 9 = .ok (.getfield 19, 3) := by decide +kernel
theorem dX1_loudAt_12 : decode cX1_loudAt 12 = .ok (.iload_n 1, 1) := by decide +kernel
theorem dX1_loudAt_13 : decode cX1_loudAt 13 = .ok (.iaload, 1) := by decide +kernel
theorem dX1_loudAt_14 : decode cX1_loudAt 14 = .ok (.goto 5, 3) := by decide +kernel
theorem dX1_loudAt_17 : decode cX1_loudAt 17 = .ok (.bipush (-4), 2) := by decide +kernel
theorem dX1_loudAt_19 : decode cX1_loudAt 19 = .ok (.ireturn, 1) := by decide +kernel
theorem dX1_bouncesAt_0 : decode cX1_bouncesAt 0 = .ok (.aload_n 0, 1) := by decide +kernel
theorem dX1_bouncesAt_1 : decode cX1_bouncesAt 1 = .ok (.iload_n 1, 1) := by decide +kernel
theorem dX1_bouncesAt_2 : decode cX1_bouncesAt 2 = .ok (.invokevirtual 60, 3) := by decide +kernel
theorem dX1_bouncesAt_5 : decode cX1_bouncesAt 5 = .ok (.ifCond .eq 12, 3) := by decide +kernel
theorem dX1_bouncesAt_8 : decode cX1_bouncesAt 8 = .ok (.aload_n 0, 1) := by decide +kernel
theorem dX1_bouncesAt_9 : decode cX1_bouncesAt 9 = .ok (.getfield 22, 3) := by decide +kernel
theorem dX1_bouncesAt_12 : decode cX1_bouncesAt 12 = .ok (.iload_n 1, 1) := by decide +kernel
theorem dX1_bouncesAt_13 : decode cX1_bouncesAt 13 = .ok (.iaload, 1) := by decide +kernel
theorem dX1_bouncesAt_14 : decode cX1_bouncesAt 14 = .ok (.goto 5, 3) := by decide +kernel
theorem dX1_bouncesAt_17 : decode cX1_bouncesAt 17 = .ok (.bipush (-4), 2) := by decide +kernel
theorem dX1_bouncesAt_19 : decode cX1_bouncesAt 19 = .ok (.ireturn, 1) := by decide +kernel
theorem dX1_stepHeardOn_0 : decode cX1_stepHeardOn 0 = .ok (.iconst 1, 1) := by decide +kernel
theorem dX1_stepHeardOn_1 : decode cX1_stepHeardOn 1 = .ok (.istore_n 3, 1) := by decide +kernel
theorem dX1_stepHeardOn_2 : decode cX1_stepHeardOn 2 = .ok (.iload_n 3, 1) := by decide +kernel
theorem dX1_stepHeardOn_3 : decode cX1_stepHeardOn 3 = .ok (.aload_n 0, 1) := by decide +kernel
theorem dX1_stepHeardOn_4 : decode cX1_stepHeardOn 4 = .ok (.getfield 9, 3) := by decide +kernel
theorem dX1_stepHeardOn_7 : decode cX1_stepHeardOn 7 = .ok (.if_icmp .gt 41, 3) := by decide +kernel
theorem dX1_stepHeardOn_10 : decode cX1_stepHeardOn 10 = .ok (.iload_n 3, 1) := by decide +kernel
theorem dX1_stepHeardOn_11 : decode cX1_stepHeardOn 11 = .ok (.bipush 40, 2) := by decide +kernel
theorem dX1_stepHeardOn_13 : decode cX1_stepHeardOn 13 = .ok (.if_icmp .gt 35, 3) := by decide +kernel
theorem dX1_stepHeardOn_16 : decode cX1_stepHeardOn 16 = .ok (.aload_n 0, 1) := by decide +kernel
theorem dX1_stepHeardOn_17 : decode cX1_stepHeardOn 17 = .ok (.getfield 15, 3) := by decide +kernel
theorem dX1_stepHeardOn_20 : decode cX1_stepHeardOn 20 = .ok (.iload_n 3, 1) := by decide +kernel
theorem dX1_stepHeardOn_21 : decode cX1_stepHeardOn 21 = .ok (.iaload, 1) := by decide +kernel
theorem dX1_stepHeardOn_22 : decode cX1_stepHeardOn 22 = .ok (.iload_n 1, 1) := by decide +kernel
theorem dX1_stepHeardOn_23 : decode cX1_stepHeardOn 23 = .ok (.if_icmp .ne 19, 3) := by decide +kernel
theorem dX1_stepHeardOn_26 : decode cX1_stepHeardOn 26 = .ok (.aload_n 0, 1) := by decide +kernel
theorem dX1_stepHeardOn_27 : decode cX1_stepHeardOn 27 = .ok (.getfield 19, 3) := by decide +kernel
theorem dX1_stepHeardOn_30 : decode cX1_stepHeardOn 30 = .ok (.iload_n 3, 1) := by decide +kernel
theorem dX1_stepHeardOn_31 : decode cX1_stepHeardOn 31 = .ok (.iaload, 1) := by decide +kernel
theorem dX1_stepHeardOn_32 : decode cX1_stepHeardOn 32 = .ok (.iload_n 2, 1) := by decide +kernel
theorem dX1_stepHeardOn_33 : decode cX1_stepHeardOn 33 = .ok (.if_icmp .lt 7, 3) := by decide +kernel
theorem dX1_stepHeardOn_36 : decode cX1_stepHeardOn 36 = .ok (.iload_n 3, 1) := by decide +kernel
theorem dX1_stepHeardOn_37 : decode cX1_stepHeardOn 37 = .ok (.goto 4, 3) := by decide +kernel
theorem dX1_stepHeardOn_40 : decode cX1_stepHeardOn 40 = .ok (.iconst 0, 1) := by decide +kernel
theorem dX1_stepHeardOn_41 : decode cX1_stepHeardOn 41 = .ok (.ireturn, 1) := by decide +kernel
theorem dX1_stepHeardOn_42 : decode cX1_stepHeardOn 42 = .ok (.iinc 3 1, 3) := by decide +kernel
theorem dX1_stepHeardOn_45 : decode cX1_stepHeardOn 45 = .ok (.goto (-43), 3) := by decide +kernel
theorem dX1_stepHeardOn_48 : decode cX1_stepHeardOn 48 = .ok (.iconst 0, 1) := by decide +kernel
theorem dX1_stepHeardOn_49 : decode cX1_stepHeardOn 49 = .ok (.ireturn, 1) := by decide +kernel
theorem dX2_init_0 : decode cX2_init 0 = .ok (.aload_n 0, 1) := by decide +kernel
theorem dX2_init_1 : decode cX2_init 1 = .ok (.invokespecial 3, 3) := by decide +kernel
theorem dX2_init_4 : decode cX2_init 4 = .ok (.aload_n 0, 1) := by decide +kernel
theorem dX2_init_5 : decode cX2_init 5 = .ok (.new 9, 3) := by decide +kernel
theorem dX2_init_8 : decode cX2_init 8 = .ok (.dup, 1) := by decide +kernel
theorem dX2_init_9 : decode cX2_init 9 = .ok (.invokespecial 11, 3) := by decide +kernel
theorem dX2_init_12 : decode cX2_init 12 = .ok (.putfield 12, 3) := by decide +kernel
theorem dX2_init_15 : decode cX2_init 15 = .ok (.aload_n 0, 1) := by decide +kernel
theorem dX2_init_16 : decode cX2_init 16 = .ok (.bipush 8, 2) := by decide +kernel
theorem dX2_init_18 : decode cX2_init 18 = .ok (.newarray .int, 2) := by decide +kernel
theorem dX2_init_20 : decode cX2_init 20 = .ok (.putfield 18, 3) := by decide +kernel
theorem dX2_init_23 : decode cX2_init 23 = .ok (.return_, 1) := by decide +kernel
theorem dX2_tellFirst_0 : decode cX2_tellFirst 0 = .ok (.aload_n 0, 1) := by decide +kernel
theorem dX2_tellFirst_1 : decode cX2_tellFirst 1 = .ok (.getfield 18, 3) := by decide +kernel
theorem dX2_tellFirst_4 : decode cX2_tellFirst 4 = .ok (.iconst 0, 1) := by decide +kernel
theorem dX2_tellFirst_5 : decode cX2_tellFirst 5 = .ok (.invokestatic 22, 3) := by decide +kernel
theorem dX2_tellFirst_8 : decode cX2_tellFirst 8 = .ok (.iconst 0, 1) := by decide +kernel
theorem dX2_tellFirst_9 : decode cX2_tellFirst 9 = .ok (.istore_n 3, 1) := by decide +kernel
theorem dX2_tellFirst_10 : decode cX2_tellFirst 10 = .ok (.iconst 0, 1) := by decide +kernel
theorem dX2_tellFirst_11 : decode cX2_tellFirst 11 = .ok (.istore 4, 2) := by decide +kernel
theorem dX2_tellFirst_13 : decode cX2_tellFirst 13 = .ok (.iload 4, 2) := by decide +kernel
theorem dX2_tellFirst_15 : decode cX2_tellFirst 15 = .ok (.iload_n 2, 1) := by decide +kernel
theorem dX2_tellFirst_16 : decode cX2_tellFirst 16 = .ok (.if_icmp .ge 19, 3) := by decide +kernel
theorem dX2_tellFirst_19 : decode cX2_tellFirst 19 = .ok (.iload_n 3, 1) := by decide +kernel
theorem dX2_tellFirst_20 : decode cX2_tellFirst 20 = .ok (.aload_n 0, 1) := by decide +kernel
theorem dX2_tellFirst_21 : decode cX2_tellFirst 21 = .ok (.aload_n 1, 1) := by decide +kernel
theorem dX2_tellFirst_22 : decode cX2_tellFirst 22 = .ok (.iload 4, 2) := by decide +kernel
theorem dX2_tellFirst_24 : decode cX2_tellFirst 24 = .ok (.invokevirtual 28, 3) := by decide +kernel
theorem dX2_tellFirst_27 : decode cX2_tellFirst 27 = .ok (.iadd, 1) := by decide +kernel
theorem dX2_tellFirst_28 : decode cX2_tellFirst 28 = .ok (.istore_n 3, 1) := by decide +kernel
theorem dX2_tellFirst_29 : decode cX2_tellFirst 29 = .ok (.iinc 4 1, 3) := by decide +kernel
theorem dX2_tellFirst_32 : decode cX2_tellFirst 32 = .ok (.goto (-19), 3) := by decide +kernel
theorem dX2_tellFirst_35 : decode cX2_tellFirst 35 = .ok (.iload_n 3, 1) := by decide +kernel
theorem dX2_tellFirst_36 : decode cX2_tellFirst 36 = .ok (.ireturn, 1) := by decide +kernel
theorem dX2_tellAllBut_0 : decode cX2_tellAllBut 0 = .ok (.aload_n 0, 1) := by decide +kernel
theorem dX2_tellAllBut_1 : decode cX2_tellAllBut 1 = .ok (.getfield 18, 3) := by decide +kernel
theorem dX2_tellAllBut_4 : decode cX2_tellAllBut 4 = .ok (.iconst 0, 1) := by decide +kernel
theorem dX2_tellAllBut_5 : decode cX2_tellAllBut 5 = .ok (.invokestatic 22, 3) := by decide +kernel
theorem dX2_tellAllBut_8 : decode cX2_tellAllBut 8 = .ok (.iconst 0, 1) := by decide +kernel
theorem dX2_tellAllBut_9 : decode cX2_tellAllBut 9 = .ok (.istore_n 3, 1) := by decide +kernel
theorem dX2_tellAllBut_10 : decode cX2_tellAllBut 10 = .ok (.iload_n 3, 1) := by decide +kernel
theorem dX2_tellAllBut_11 : decode cX2_tellAllBut 11 = .ok (.aload_n 1, 1) := by decide +kernel
theorem dX2_tellAllBut_12 : decode cX2_tellAllBut 12 = .ok (.getfield 32, 3) := by decide +kernel
theorem dX2_tellAllBut_15 : decode cX2_tellAllBut 15 = .ok (.getfield 38, 3) := by decide +kernel
theorem dX2_tellAllBut_18 : decode cX2_tellAllBut 18 = .ok (.if_icmp .ge 21, 3) := by decide +kernel
theorem dX2_tellAllBut_21 : decode cX2_tellAllBut 21 = .ok (.iload_n 3, 1) := by decide +kernel
theorem dX2_tellAllBut_22 : decode cX2_tellAllBut 22 = .ok (.iload_n 2, 1) := by decide +kernel
theorem dX2_tellAllBut_23 : decode cX2_tellAllBut 23 = .ok (.if_icmp .eq 10, 3) := by decide +kernel
theorem dX2_tellAllBut_26 : decode cX2_tellAllBut 26 = .ok (.aload_n 0, 1) := by decide +kernel
theorem dX2_tellAllBut_27 : decode cX2_tellAllBut 27 = .ok (.aload_n 1, 1) := by decide +kernel
theorem dX2_tellAllBut_28 : decode cX2_tellAllBut 28 = .ok (.iload_n 3, 1) := by decide +kernel
theorem dX2_tellAllBut_29 : decode cX2_tellAllBut 29 = .ok (.invokevirtual 28, 3) := by decide +kernel
theorem dX2_tellAllBut_32 : decode cX2_tellAllBut 32 = .ok (.pop, 1) := by decide +kernel
theorem dX2_tellAllBut_33 : decode cX2_tellAllBut 33 = .ok (.iinc 3 1, 3) := by decide +kernel
theorem dX2_tellAllBut_36 : decode cX2_tellAllBut 36 = .ok (.goto (-26), 3) := by decide +kernel
theorem dX2_tellAllBut_39 : decode cX2_tellAllBut 39 = .ok (.return_, 1) := by decide +kernel
theorem dX2_firstKnownOutside_0 : decode cX2_firstKnownOutside 0 = .ok (.aload_n 0, 1) := by decide +kernel
theorem dX2_firstKnownOutside_1 : decode cX2_firstKnownOutside 1 = .ok (.getfield 18, 3) := by decide +kernel
theorem dX2_firstKnownOutside_4 : decode cX2_firstKnownOutside 4 = .ok (.iconst 0, 1) := by decide +kernel
theorem dX2_firstKnownOutside_5 : decode cX2_firstKnownOutside 5 = .ok (.invokestatic 22, 3) := by decide +kernel
theorem dX2_firstKnownOutside_8 : decode cX2_firstKnownOutside 8 = .ok (.iconst 0, 1) := by decide +kernel
theorem dX2_firstKnownOutside_9 : decode cX2_firstKnownOutside 9 = .ok (.istore 4, 2) := by decide +kernel
theorem dX2_firstKnownOutside_11 : decode cX2_firstKnownOutside 11 = .ok (.iload 4, 2) := by decide +kernel
theorem dX2_firstKnownOutside_13 : decode cX2_firstKnownOutside 13 = .ok (.aload_n 1, 1) := by decide +kernel
theorem dX2_firstKnownOutside_14 : decode cX2_firstKnownOutside 14 = .ok (.getfield 32, 3) := by decide +kernel
theorem dX2_firstKnownOutside_17 : decode cX2_firstKnownOutside 17 = .ok (.getfield 38, 3) := by decide +kernel
theorem dX2_firstKnownOutside_20 : decode cX2_firstKnownOutside 20 = .ok (.if_icmp .ge 32, 3) := by decide +kernel
theorem dX2_firstKnownOutside_23 : decode cX2_firstKnownOutside 23 = .ok (.aload_n 0, 1) := by decide +kernel
theorem dX2_firstKnownOutside_24 : decode cX2_firstKnownOutside 24 = .ok (.aload_n 1, 1) := by decide +kernel
theorem dX2_firstKnownOutside_25 : decode cX2_firstKnownOutside 25 = .ok (.iload 4, 2) := by decide +kernel
theorem dX2_firstKnownOutside_27 : decode cX2_firstKnownOutside 27 = .ok (.invokevirtual 28, 3) := by decide +kernel
theorem dX2_firstKnownOutside_30 : decode cX2_firstKnownOutside 30 = .ok (.pop, 1) := by decide +kernel
theorem dX2_firstKnownOutside_31 : decode cX2_firstKnownOutside 31 = .ok (.aload_n 0, 1) := by decide +kernel
theorem dX2_firstKnownOutside_32 : decode cX2_firstKnownOutside 32 = .ok (.iload_n 2, 1) := by decide +kernel
theorem dX2_firstKnownOutside_33 : decode cX2_firstKnownOutside 33 = .ok (.invokevirtual 44, 3) := by decide +kernel
theorem dX2_firstKnownOutside_36 : decode cX2_firstKnownOutside 36 = .ok (.iload_n 3, 1) := by decide +kernel
theorem dX2_firstKnownOutside_37 : decode cX2_firstKnownOutside 37 = .ok (.iconst (-1), 1) := by decide +kernel
theorem dX2_firstKnownOutside_38 : decode cX2_firstKnownOutside 38 = .ok (.ixor, 1) := by decide +kernel
theorem dX2_firstKnownOutside_39 : decode cX2_firstKnownOutside 39 = .ok (.iand, 1) := by decide +kernel
theorem dX2_firstKnownOutside_40 : decode cX2_firstKnownOutside 40 = .ok (.ifCond .eq 6, 3) := by decide +kernel
theorem dX2_firstKnownOutside_43 : decode cX2_firstKnownOutside 43 = .ok (.iload 4, 2) := by decide +kernel
theorem dX2_firstKnownOutside_45 : decode cX2_firstKnownOutside 45 = .ok (.ireturn, 1) := by decide +kernel
theorem dX2_firstKnownOutside_46 : decode cX2_firstKnownOutside 46 = .ok (.iinc 4 1, 3) := by decide +kernel
theorem dX2_firstKnownOutside_49 : decode cX2_firstKnownOutside 49 = .ok (.goto (-38), 3) := by decide +kernel
theorem dX2_firstKnownOutside_52 : decode cX2_firstKnownOutside 52 = .ok (.bipush (-4), 2) := by decide +kernel
theorem dX2_firstKnownOutside_54 : decode cX2_firstKnownOutside 54 = .ok (.ireturn, 1) := by decide +kernel
theorem dX2_knowersOf_0 : decode cX2_knowersOf 0 = .ok (.iload_n 1, 1) := by decide +kernel
theorem dX2_knowersOf_1 : decode cX2_knowersOf 1 = .ok (.invokestatic 48, 3) := by decide +kernel
theorem dX2_knowersOf_4 : decode cX2_knowersOf 4 = .ok (.ifCond .eq 12, 3) := by decide +kernel
theorem dX2_knowersOf_7 : decode cX2_knowersOf 7 = .ok (.aload_n 0, 1) := by decide +kernel
theorem dX2_knowersOf_8 : decode cX2_knowersOf 8 = .ok (.getfield 18, 3) := by decide +kernel
theorem dX2_knowersOf_11 : decode cX2_knowersOf 11 = .ok (.iload_n 1, 1) := by decide +kernel
theorem dX2_knowersOf_12 : decode cX2_knowersOf 12 = .ok (.iaload, 1) := by decide +kernel
theorem dX2_knowersOf_13 : decode cX2_knowersOf 13 = .ok (.goto 4, 3) := by decide +kernel
theorem dX2_knowersOf_16 : decode cX2_knowersOf 16 = .ok (.iconst 0, 1) := by decide +kernel
theorem dX2_knowersOf_17 : decode cX2_knowersOf 17 = .ok (.ireturn, 1) := by decide +kernel
theorem dX2_secretsOf_0 : decode cX2_secretsOf 0 = .ok (.iconst 0, 1) := by decide +kernel
theorem dX2_secretsOf_1 : decode cX2_secretsOf 1 = .ok (.istore_n 2, 1) := by decide +kernel
theorem dX2_secretsOf_2 : decode cX2_secretsOf 2 = .ok (.iconst 0, 1) := by decide +kernel
theorem dX2_secretsOf_3 : decode cX2_secretsOf 3 = .ok (.istore_n 3, 1) := by decide +kernel
theorem dX2_secretsOf_4 : decode cX2_secretsOf 4 = .ok (.iload_n 3, 1) := by decide +kernel
theorem dX2_secretsOf_5 : decode cX2_secretsOf 5 = .ok (.bipush 8, 2) := by decide +kernel
theorem dX2_secretsOf_7 : decode cX2_secretsOf 7 = .ok (.if_icmp .ge 23, 3) := by decide +kernel
theorem dX2_secretsOf_10 : decode cX2_secretsOf 10 = .ok (.iload_n 2, 1) := by decide +kernel
theorem dX2_secretsOf_11 : decode cX2_secretsOf 11 = .ok (.aload_n 0, 1) := by decide +kernel
theorem dX2_secretsOf_12 : decode cX2_secretsOf 12 = .ok (.iload_n 3, 1) := by decide +kernel
theorem dX2_secretsOf_13 : decode cX2_secretsOf 13 = .ok (.invokevirtual 44, 3) := by decide +kernel
theorem dX2_secretsOf_16 : decode cX2_secretsOf 16 = .ok (.iload_n 1, 1) := by decide +kernel
theorem dX2_secretsOf_17 : decode cX2_secretsOf 17 = .ok (.invokestatic 52, 3) := by decide +kernel
theorem dX2_secretsOf_20 : decode cX2_secretsOf 20 = .ok (.iload_n 3, 1) := by decide +kernel
theorem dX2_secretsOf_21 : decode cX2_secretsOf 21 = .ok (.ishl, 1) := by decide +kernel
theorem dX2_secretsOf_22 : decode cX2_secretsOf 22 = .ok (.ior, 1) := by decide +kernel
theorem dX2_secretsOf_23 : decode cX2_secretsOf 23 = .ok (.istore_n 2, 1) := by decide +kernel
theorem dX2_secretsOf_24 : decode cX2_secretsOf 24 = .ok (.iinc 3 1, 3) := by decide +kernel
theorem dX2_secretsOf_27 : decode cX2_secretsOf 27 = .ok (.goto (-23), 3) := by decide +kernel
theorem dX2_secretsOf_30 : decode cX2_secretsOf 30 = .ok (.iload_n 2, 1) := by decide +kernel
theorem dX2_secretsOf_31 : decode cX2_secretsOf 31 = .ok (.ireturn, 1) := by decide +kernel
theorem dX2_tellOne_0 : decode cX2_tellOne 0 = .ok (.aload_n 1, 1) := by decide +kernel
theorem dX2_tellOne_1 : decode cX2_tellOne 1 = .ok (.getfield 32, 3) := by decide +kernel
theorem dX2_tellOne_4 : decode cX2_tellOne 4 = .ok (.iload_n 2, 1) := by decide +kernel
theorem dX2_tellOne_5 : decode cX2_tellOne 5 = .ok (.iconst 1, 1) := by decide +kernel
theorem dX2_tellOne_6 : decode cX2_tellOne 6 = .ok (.invokevirtual 56, 3) := by decide +kernel
theorem dX2_tellOne_9 : decode cX2_tellOne 9 = .ok (.istore_n 3, 1) := by decide +kernel
theorem dX2_tellOne_10 : decode cX2_tellOne 10 = .ok (.aload_n 1, 1) := by decide +kernel
theorem dX2_tellOne_11 : decode cX2_tellOne 11 = .ok (.getfield 32, 3) := by decide +kernel
theorem dX2_tellOne_14 : decode cX2_tellOne 14 = .ok (.iload_n 2, 1) := by decide +kernel
theorem dX2_tellOne_15 : decode cX2_tellOne 15 = .ok (.iconst 2, 1) := by decide +kernel
theorem dX2_tellOne_16 : decode cX2_tellOne 16 = .ok (.invokevirtual 56, 3) := by decide +kernel
theorem dX2_tellOne_19 : decode cX2_tellOne 19 = .ok (.istore 4, 2) := by decide +kernel
theorem dX2_tellOne_21 : decode cX2_tellOne 21 = .ok (.aload_n 0, 1) := by decide +kernel
theorem dX2_tellOne_22 : decode cX2_tellOne 22 = .ok (.iload 4, 2) := by decide +kernel
theorem dX2_tellOne_24 : decode cX2_tellOne 24 = .ok (.invokevirtual 44, 3) := by decide +kernel
theorem dX2_tellOne_27 : decode cX2_tellOne 27 = .ok (.istore 5, 2) := by decide +kernel
theorem dX2_tellOne_29 : decode cX2_tellOne 29 = .ok (.iload_n 3, 1) := by decide +kernel
theorem dX2_tellOne_30 : decode cX2_tellOne 30 = .ok (.iconst 0, 1) := by decide +kernel
theorem dX2_tellOne_31 : decode cX2_tellOne 31 = .ok (.aload_n 1, 1) := by decide +kernel
theorem dX2_tellOne_32 : decode cX2_tellOne 32 = .ok (.getfield 59, 3) := by decide +kernel
theorem dX2_tellOne_35 : decode cX2_tellOne 35 = .ok (.iconst 1, 1) := by decide +kernel
theorem dX2_tellOne_36 : decode cX2_tellOne 36 = .ok (.isub, 1) := by decide +kernel
theorem dX2_tellOne_37 : decode cX2_tellOne 37 = .ok (.invokestatic 62, 3) := by decide +kernel
theorem dX2_tellOne_40 : decode cX2_tellOne 40 = .ok (.ifCond .eq 25, 3) := by decide +kernel
theorem dX2_tellOne_43 : decode cX2_tellOne 43 = .ok (.iload 4, 2) := by decide +kernel
theorem dX2_tellOne_45 : decode cX2_tellOne 45 = .ok (.invokestatic 48, 3) := by decide +kernel
theorem dX2_tellOne_48 : decode cX2_tellOne 48 = .ok (.ifCond .eq 17, 3) := by decide +kernel
theorem dX2_tellOne_51 : decode cX2_tellOne 51 = .ok (.iload 5, 2) := by decide +kernel
theorem dX2_tellOne_53 : decode cX2_tellOne 53 = .ok (.ifCond .eq 14, 3) := by decide +kernel
theorem dX2_tellOne_56 : decode cX2_tellOne 56 = .ok (.iload 5, 2) := by decide +kernel
theorem dX2_tellOne_58 : decode cX2_tellOne 58 = .ok (.iload_n 3, 1) := by decide +kernel
theorem dX2_tellOne_59 : decode cX2_tellOne 59 = .ok (.invokestatic 52, 3) := by decide +kernel
theorem dX2_tellOne_62 : decode cX2_tellOne 62 = .ok (.ifCond .ne 5, 3) := by decide +kernel
theorem dX2_tellOne_65 : decode cX2_tellOne 65 = .ok (.iconst 0, 1) := by decide +kernel
theorem dX2_tellOne_66 : decode cX2_tellOne 66 = .ok (.ireturn, 1) := by decide +kernel
theorem dX2_tellOne_67 : decode cX2_tellOne 67 = .ok (.aload_n 0, 1) := by decide +kernel
theorem dX2_tellOne_68 : decode cX2_tellOne 68 = .ok (.getfield 18, 3) := by decide +kernel
theorem dX2_tellOne_71 : decode cX2_tellOne 71 = .ok (.iload 4, 2) := by decide +kernel
theorem dX2_tellOne_73 : decode cX2_tellOne 73 = .ok (.iload 5, 2) := by decide +kernel
theorem dX2_tellOne_75 : decode cX2_tellOne 75 = .ok (.iconst 1, 1) := by decide +kernel
theorem dX2_tellOne_76 : decode cX2_tellOne 76 = .ok (.iload_n 3, 1) := by decide +kernel
theorem dX2_tellOne_77 : decode cX2_tellOne 77 = .ok (.ishl, 1) := by decide +kernel
theorem dX2_tellOne_78 : decode cX2_tellOne 78 = .ok (.ior, 1) := by decide +kernel
theorem dX2_tellOne_79 : decode cX2_tellOne 79 = .ok (.aload_n 0, 1) := by decide +kernel
theorem dX2_tellOne_80 : decode cX2_tellOne 80 = .ok (.getfield 12, 3) := by decide +kernel
theorem dX2_tellOne_83 : decode cX2_tellOne 83 = .ok (.aload_n 1, 1) := by decide +kernel
theorem dX2_tellOne_84 : decode cX2_tellOne 84 = .ok (.iload_n 3, 1) := by decide +kernel
theorem dX2_tellOne_85 : decode cX2_tellOne 85 = .ok (.aload_n 1, 1) := by decide +kernel
theorem dX2_tellOne_86 : decode cX2_tellOne 86 = .ok (.getfield 32, 3) := by decide +kernel
theorem dX2_tellOne_89 : decode cX2_tellOne 89 = .ok (.iload_n 2, 1) := by decide +kernel
theorem dX2_tellOne_90 : decode cX2_tellOne 90 = .ok (.iconst 0, 1) := by decide +kernel
theorem dX2_tellOne_91 : decode cX2_tellOne 91 = .ok (.invokevirtual 56, 3) := by decide +kernel
theorem dX2_tellOne_94 : decode cX2_tellOne 94 = .ok (.invokevirtual 66, 3) := by decide +kernel
theorem dX2_tellOne_97 : decode cX2_tellOne 97 = .ok (.ior, 1) := by decide +kernel
theorem dX2_tellOne_98 : decode cX2_tellOne 98 = .ok (.iastore, 1) := by decide +kernel
theorem dX2_tellOne_99 : decode cX2_tellOne 99 = .ok (.iconst 1, 1) := by decide +kernel
theorem dX2_tellOne_100 : decode cX2_tellOne 100 = .ok (.ireturn, 1) := by decide +kernel
theorem dX3_init_0 : decode cX3_init 0 = .ok (.aload_n 0, 1) := by decide +kernel
theorem dX3_init_1 : decode cX3_init 1 = .ok (.invokespecial 3, 3) := by decide +kernel
theorem dX3_init_4 : decode cX3_init 4 = .ok (.aload_n 0, 1) := by decide +kernel
theorem dX3_init_5 : decode cX3_init 5 = .ok (.new 9, 3) := by decide +kernel
theorem dX3_init_8 : decode cX3_init 8 = .ok (.dup, 1) := by decide +kernel
theorem dX3_init_9 : decode cX3_init 9 = .ok (.invokespecial 11, 3) := by decide +kernel
theorem dX3_init_12 : decode cX3_init 12 = .ok (.putfield 12, 3) := by decide +kernel
theorem dX3_init_15 : decode cX3_init 15 = .ok (.aload_n 0, 1) := by decide +kernel
theorem dX3_init_16 : decode cX3_init 16 = .ok (.bipush 8, 2) := by decide +kernel
theorem dX3_init_18 : decode cX3_init 18 = .ok (.newarray .int, 2) := by decide +kernel
theorem dX3_init_20 : decode cX3_init 20 = .ok (.putfield 18, 3) := by decide +kernel
theorem dX3_init_23 : decode cX3_init 23 = .ok (.return_, 1) := by decide +kernel
theorem dX3_whisperFromBench_0 : decode cX3_whisperFromBench 0 = .ok (.aload_n 1, 1) := by decide +kernel
theorem dX3_whisperFromBench_1 : decode cX3_whisperFromBench 1 = .ok (.getfield 22, 3) := by decide +kernel
theorem dX3_whisperFromBench_4 : decode cX3_whisperFromBench 4 = .ok (.iload_n 2, 1) := by decide +kernel
theorem dX3_whisperFromBench_5 : decode cX3_whisperFromBench 5 = .ok (.invokevirtual 28, 3) := by decide +kernel
theorem dX3_whisperFromBench_8 : decode cX3_whisperFromBench 8 = .ok (.iconst 3, 1) := by decide +kernel
theorem dX3_whisperFromBench_9 : decode cX3_whisperFromBench 9 = .ok (.if_icmp .ne 7, 3) := by decide +kernel
theorem dX3_whisperFromBench_12 : decode cX3_whisperFromBench 12 = .ok (.iconst 1, 1) := by decide +kernel
theorem dX3_whisperFromBench_13 : decode cX3_whisperFromBench 13 = .ok (.goto 4, 3) := by decide +kernel
theorem dX3_whisperFromBench_16 : decode cX3_whisperFromBench 16 = .ok (.iconst 0, 1) := by decide +kernel
theorem dX3_whisperFromBench_17 : decode cX3_whisperFromBench 17 = .ok (.istore 4, 2) := by decide +kernel
theorem dX3_whisperFromBench_19 : decode cX3_whisperFromBench 19 = .ok (.aload_n 0, 1) := by decide +kernel
theorem dX3_whisperFromBench_20 : decode cX3_whisperFromBench 20 = .ok (.getfield 12, 3) := by decide +kernel
theorem dX3_whisperFromBench_23 : decode cX3_whisperFromBench 23 = .ok (.aload_n 1, 1) := by decide +kernel
theorem dX3_whisperFromBench_24 : decode cX3_whisperFromBench 24 = .ok (.aload_n 1, 1) := by decide +kernel
theorem dX3_whisperFromBench_25 : decode cX3_whisperFromBench 25 = .ok (.getfield 22, 3) := by decide +kernel
theorem dX3_whisperFromBench_28 : decode cX3_whisperFromBench 28 = .ok (.iload_n 2, 1) := by decide +kernel
theorem dX3_whisperFromBench_29 : decode cX3_whisperFromBench 29 = .ok (.iload_n 3, 1) := by decide +kernel
theorem dX3_whisperFromBench_30 : decode cX3_whisperFromBench 30 = .ok (.aload_n 1, 1) := by decide +kernel
theorem dX3_whisperFromBench_31 : decode cX3_whisperFromBench 31 = .ok (.getfield 34, 3) := by decide +kernel
theorem dX3_whisperFromBench_34 : decode cX3_whisperFromBench 34 = .ok (.invokevirtual 38, 3) := by decide +kernel
theorem dX3_whisperFromBench_37 : decode cX3_whisperFromBench 37 = .ok (.aload_n 1, 1) := by decide +kernel
theorem dX3_whisperFromBench_38 : decode cX3_whisperFromBench 38 = .ok (.getfield 22, 3) := by decide +kernel
theorem dX3_whisperFromBench_41 : decode cX3_whisperFromBench 41 = .ok (.iload_n 2, 1) := by decide +kernel
theorem dX3_whisperFromBench_42 : decode cX3_whisperFromBench 42 = .ok (.iload_n 3, 1) := by decide +kernel
theorem dX3_whisperFromBench_43 : decode cX3_whisperFromBench 43 = .ok (.invokevirtual 42, 3) := by decide +kernel
theorem dX3_whisperFromBench_46 : decode cX3_whisperFromBench 46 = .ok (.iload 4, 2) := by decide +kernel
theorem dX3_whisperFromBench_48 : decode cX3_whisperFromBench 48 = .ok (.invokevirtual 46, 3) := by decide +kernel
theorem dX3_whisperFromBench_51 : decode cX3_whisperFromBench 51 = .ok (.return_, 1) := by decide +kernel
theorem dX3_stepOfHearing_0 : decode cX3_stepOfHearing 0 = .ok (.aload_n 0, 1) := by decide +kernel
theorem dX3_stepOfHearing_1 : decode cX3_stepOfHearing 1 = .ok (.getfield 12, 3) := by decide +kernel
theorem dX3_stepOfHearing_4 : decode cX3_stepOfHearing 4 = .ok (.aload_n 1, 1) := by decide +kernel
theorem dX3_stepOfHearing_5 : decode cX3_stepOfHearing 5 = .ok (.getfield 22, 3) := by decide +kernel
theorem dX3_stepOfHearing_8 : decode cX3_stepOfHearing 8 = .ok (.iload_n 2, 1) := by decide +kernel
theorem dX3_stepOfHearing_9 : decode cX3_stepOfHearing 9 = .ok (.iload_n 3, 1) := by decide +kernel
theorem dX3_stepOfHearing_10 : decode cX3_stepOfHearing 10 = .ok (.aload_n 1, 1) := by decide +kernel
theorem dX3_stepOfHearing_11 : decode cX3_stepOfHearing 11 = .ok (.getfield 34, 3) := by decide +kernel
theorem dX3_stepOfHearing_14 : decode cX3_stepOfHearing 14 = .ok (.invokevirtual 38, 3) := by decide +kernel
theorem dX3_stepOfHearing_17 : decode cX3_stepOfHearing 17 = .ok (.aload_n 1, 1) := by decide +kernel
theorem dX3_stepOfHearing_18 : decode cX3_stepOfHearing 18 = .ok (.getfield 22, 3) := by decide +kernel
theorem dX3_stepOfHearing_21 : decode cX3_stepOfHearing 21 = .ok (.iload_n 2, 1) := by decide +kernel
theorem dX3_stepOfHearing_22 : decode cX3_stepOfHearing 22 = .ok (.invokevirtual 50, 3) := by decide +kernel
theorem dX3_stepOfHearing_25 : decode cX3_stepOfHearing 25 = .ok (.invokevirtual 53, 3) := by decide +kernel
theorem dX3_stepOfHearing_28 : decode cX3_stepOfHearing 28 = .ok (.ireturn, 1) := by decide +kernel
theorem dX3_hearersOfLatest_0 : decode cX3_hearersOfLatest 0 = .ok (.iconst 0, 1) := by decide +kernel
theorem dX3_hearersOfLatest_1 : decode cX3_hearersOfLatest 1 = .ok (.istore_n 3, 1) := by decide +kernel
theorem dX3_hearersOfLatest_2 : decode cX3_hearersOfLatest 2 = .ok (.iconst 0, 1) := by decide +kernel
theorem dX3_hearersOfLatest_3 : decode cX3_hearersOfLatest 3 = .ok (.istore 4, 2) := by decide +kernel
theorem dX3_hearersOfLatest_5 : decode cX3_hearersOfLatest 5 = .ok (.iload 4, 2) := by decide +kernel
theorem dX3_hearersOfLatest_7 : decode cX3_hearersOfLatest 7 = .ok (.aload_n 1, 1) := by decide +kernel
theorem dX3_hearersOfLatest_8 : decode cX3_hearersOfLatest 8 = .ok (.getfield 22, 3) := by decide +kernel
theorem dX3_hearersOfLatest_11 : decode cX3_hearersOfLatest 11 = .ok (.getfield 56, 3) := by decide +kernel
theorem dX3_hearersOfLatest_14 : decode cX3_hearersOfLatest 14 = .ok (.if_icmp .ge 53, 3) := by decide +kernel
theorem dX3_hearersOfLatest_17 : decode cX3_hearersOfLatest 17 = .ok (.aload_n 1, 1) := by decide +kernel
theorem dX3_hearersOfLatest_18 : decode cX3_hearersOfLatest 18 = .ok (.getfield 22, 3) := by decide +kernel
theorem dX3_hearersOfLatest_21 : decode cX3_hearersOfLatest 21 = .ok (.iload 4, 2) := by decide +kernel
theorem dX3_hearersOfLatest_23 : decode cX3_hearersOfLatest 23 = .ok (.iload_n 2, 1) := by decide +kernel
theorem dX3_hearersOfLatest_24 : decode cX3_hearersOfLatest 24 = .ok (.aload_n 1, 1) := by decide +kernel
theorem dX3_hearersOfLatest_25 : decode cX3_hearersOfLatest 25 = .ok (.getfield 34, 3) := by decide +kernel
theorem dX3_hearersOfLatest_28 : decode cX3_hearersOfLatest 28 = .ok (.invokevirtual 38, 3) := by decide +kernel
theorem dX3_hearersOfLatest_31 : decode cX3_hearersOfLatest 31 = .ok (.istore 5, 2) := by decide +kernel
theorem dX3_hearersOfLatest_33 : decode cX3_hearersOfLatest 33 = .ok (.aload_n 0, 1) := by decide +kernel
theorem dX3_hearersOfLatest_34 : decode cX3_hearersOfLatest 34 = .ok (.getfield 12, 3) := by decide +kernel
theorem dX3_hearersOfLatest_37 : decode cX3_hearersOfLatest 37 = .ok (.iload 5, 2) := by decide +kernel
theorem dX3_hearersOfLatest_39 : decode cX3_hearersOfLatest 39 = .ok (.aload_n 1, 1) := by decide +kernel
theorem dX3_hearersOfLatest_40 : decode cX3_hearersOfLatest 40 = .ok (.getfield 22, 3) := by decide +kernel
theorem dX3_hearersOfLatest_43 : decode cX3_hearersOfLatest 43 = .ok (.iload 4, 2) := by decide +kernel
theorem dX3_hearersOfLatest_45 : decode cX3_hearersOfLatest 45 = .ok (.invokevirtual 50, 3) := by decide +kernel
theorem dX3_hearersOfLatest_48 : decode cX3_hearersOfLatest 48 = .ok (.invokevirtual 53, 3) := by decide +kernel
theorem dX3_hearersOfLatest_51 : decode cX3_hearersOfLatest 51 = .ok (.ifCond .le 10, 3) := by decide +kernel
theorem dX3_hearersOfLatest_54 : decode cX3_hearersOfLatest 54 = .ok (.iload_n 3, 1) := by decide +kernel
theorem dX3_hearersOfLatest_55 : decode cX3_hearersOfLatest 55 = .ok (.iconst 1, 1) := by decide +kernel
theorem dX3_hearersOfLatest_56 : decode cX3_hearersOfLatest 56 = .ok (.iload 4, 2) := by decide +kernel
theorem dX3_hearersOfLatest_58 : decode cX3_hearersOfLatest 58 = .ok (.ishl, 1) := by decide +kernel
theorem dX3_hearersOfLatest_59 : decode cX3_hearersOfLatest 59 = .ok (.ior, 1) := by decide +kernel
theorem dX3_hearersOfLatest_60 : decode cX3_hearersOfLatest 60 = .ok (.istore_n 3, 1) := by decide +kernel
theorem dX3_hearersOfLatest_61 : decode cX3_hearersOfLatest 61 = .ok (.iinc 4 1, 3) := by decide +kernel
theorem dX3_hearersOfLatest_64 : decode cX3_hearersOfLatest 64 = .ok (.goto (-59), 3) := by decide +kernel
theorem dX3_hearersOfLatest_67 : decode cX3_hearersOfLatest 67 = .ok (.iload_n 3, 1) := by decide +kernel
theorem dX3_hearersOfLatest_68 : decode cX3_hearersOfLatest 68 = .ok (.ireturn, 1) := by decide +kernel
theorem dX3_hearersOf_0 : decode cX3_hearersOf 0 = .ok (.aload_n 0, 1) := by decide +kernel
theorem dX3_hearersOf_1 : decode cX3_hearersOf 1 = .ok (.aload_n 1, 1) := by decide +kernel
theorem dX3_hearersOf_2 : decode cX3_hearersOf 2 = .ok (.iload_n 2, 1) := by decide +kernel
theorem dX3_hearersOf_3 : decode cX3_hearersOf 3 = .ok (.iload_n 3, 1) := by decide +kernel
theorem dX3_hearersOf_4 : decode cX3_hearersOf 4 = .ok (.invokevirtual 59, 3) := by decide +kernel
theorem dX3_hearersOf_7 : decode cX3_hearersOf 7 = .ok (.aload_n 0, 1) := by decide +kernel
theorem dX3_hearersOf_8 : decode cX3_hearersOf 8 = .ok (.aload_n 1, 1) := by decide +kernel
theorem dX3_hearersOf_9 : decode cX3_hearersOf 9 = .ok (.iload_n 3, 1) := by decide +kernel
theorem dX3_hearersOf_10 : decode cX3_hearersOf 10 = .ok (.invokevirtual 63, 3) := by decide +kernel
theorem dX3_hearersOf_13 : decode cX3_hearersOf 13 = .ok (.iconst 1, 1) := by decide +kernel
theorem dX3_hearersOf_14 : decode cX3_hearersOf 14 = .ok (.iload_n 2, 1) := by decide +kernel
theorem dX3_hearersOf_15 : decode cX3_hearersOf 15 = .ok (.ishl, 1) := by decide +kernel
theorem dX3_hearersOf_16 : decode cX3_hearersOf 16 = .ok (.iconst (-1), 1) := by decide +kernel
theorem dX3_hearersOf_17 : decode cX3_hearersOf 17 = .ok (.ixor, 1) := by decide +kernel
theorem dX3_hearersOf_18 : decode cX3_hearersOf 18 = .ok (.iand, 1) := by decide +kernel
theorem dX3_hearersOf_19 : decode cX3_hearersOf 19 = .ok (.ireturn, 1) := by decide +kernel
theorem dX3_listenToAll_0 : decode cX3_listenToAll 0 = .ok (.iconst 0, 1) := by decide +kernel
theorem dX3_listenToAll_1 : decode cX3_listenToAll 1 = .ok (.istore_n 3, 1) := by decide +kernel
theorem dX3_listenToAll_2 : decode cX3_listenToAll 2 = .ok (.iload_n 3, 1) := by decide +kernel
theorem dX3_listenToAll_3 : decode cX3_listenToAll 3 = .ok (.aload_n 1, 1) := by decide +kernel
theorem dX3_listenToAll_4 : decode cX3_listenToAll 4 = .ok (.getfield 22, 3) := by decide +kernel
theorem dX3_listenToAll_7 : decode cX3_listenToAll 7 = .ok (.getfield 56, 3) := by decide +kernel
theorem dX3_listenToAll_10 : decode cX3_listenToAll 10 = .ok (.if_icmp .ge 28, 3) := by decide +kernel
theorem dX3_listenToAll_13 : decode cX3_listenToAll 13 = .ok (.iload_n 3, 1) := by decide +kernel
theorem dX3_listenToAll_14 : decode cX3_listenToAll 14 = .ok (.bipush 8, 2) := by decide +kernel
theorem dX3_listenToAll_16 : decode cX3_listenToAll 16 = .ok (.if_icmp .ge 22, 3) := by decide +kernel
theorem dX3_listenToAll_19 : decode cX3_listenToAll 19 = .ok (.aload_n 0, 1) := by decide +kernel
theorem dX3_listenToAll_20 : decode cX3_listenToAll 20 = .ok (.getfield 18, 3) := by decide +kernel
theorem dX3_listenToAll_23 : decode cX3_listenToAll 23 = .ok (.iload_n 3, 1) := by decide +kernel
theorem dX3_listenToAll_24 : decode cX3_listenToAll 24 = .ok (.aload_n 0, 1) := by decide +kernel
theorem dX3_listenToAll_25 : decode cX3_listenToAll 25 = .ok (.aload_n 1, 1) := by decide +kernel
theorem dX3_listenToAll_26 : decode cX3_listenToAll 26 = .ok (.iload_n 3, 1) := by decide +kernel
theorem dX3_listenToAll_27 : decode cX3_listenToAll 27 = .ok (.iload_n 2, 1) := by decide +kernel
theorem dX3_listenToAll_28 : decode cX3_listenToAll 28 = .ok (.invokevirtual 67, 3) := by decide +kernel
theorem dX3_listenToAll_31 : decode cX3_listenToAll 31 = .ok (.iastore, 1) := by decide +kernel
theorem dX3_listenToAll_32 : decode cX3_listenToAll 32 = .ok (.iinc 3 1, 3) := by decide +kernel
theorem dX3_listenToAll_35 : decode cX3_listenToAll 35 = .ok (.goto (-33), 3) := by decide +kernel
theorem dX3_listenToAll_38 : decode cX3_listenToAll 38 = .ok (.return_, 1) := by decide +kernel
theorem dX3_isHeardBy_0 : decode cX3_isHeardBy 0 = .ok (.iload_n 1, 1) := by decide +kernel
theorem dX3_isHeardBy_1 : decode cX3_isHeardBy 1 = .ok (.iconst 0, 1) := by decide +kernel
theorem dX3_isHeardBy_2 : decode cX3_isHeardBy 2 = .ok (.bipush 7, 2) := by decide +kernel
theorem dX3_isHeardBy_4 : decode cX3_isHeardBy 4 = .ok (.invokestatic 71, 3) := by decide +kernel
theorem dX3_isHeardBy_7 : decode cX3_isHeardBy 7 = .ok (.ifCond .eq 26, 3) := by decide +kernel
theorem dX3_isHeardBy_10 : decode cX3_isHeardBy 10 = .ok (.iload_n 2, 1) := by decide +kernel
theorem dX3_isHeardBy_11 : decode cX3_isHeardBy 11 = .ok (.iconst 0, 1) := by decide +kernel
theorem dX3_isHeardBy_12 : decode cX3_isHeardBy 12 = .ok (.bipush 7, 2) := by decide +kernel
theorem dX3_isHeardBy_14 : decode cX3_isHeardBy 14 = .ok (.invokestatic 71, 3) := by decide +kernel
theorem dX3_isHeardBy_17 : decode cX3_isHeardBy 17 = .ok (.ifCond .eq 16, 3) := by decide +kernel
theorem dX3_isHeardBy_20 : decode cX3_isHeardBy 20 = .ok (.aload_n 0, 1) := by decide +kernel
theorem dX3_isHeardBy_21 : decode cX3_isHeardBy 21 = .ok (.getfield 18, 3) := by decide +kernel
theorem dX3_isHeardBy_24 : decode cX3_isHeardBy 24 = .ok (.iload_n 1, 1) := by decide +kernel
theorem dX3_isHeardBy_25 : decode cX3_isHeardBy 25 = .ok (.iaload, 1) := by decide +kernel
theorem dX3_isHeardBy_26 : decode cX3_isHeardBy 26 = .ok (.iload_n 2, 1) := by decide +kernel
theorem dX3_isHeardBy_27 : decode cX3_isHeardBy 27 = .ok (.invokestatic 75, 3) := by decide +kernel
theorem dX3_isHeardBy_30 : decode cX3_isHeardBy 30 = .ok (.goto 4, 3) := by decide +kernel
theorem dX3_isHeardBy_33 : decode cX3_isHeardBy 33 = .ok (.iconst 0, 1) := by decide +kernel
theorem dX3_isHeardBy_34 : decode cX3_isHeardBy 34 = .ok (.ireturn, 1) := by decide +kernel
theorem dX3_brokenWants_0 : decode cX3_brokenWants 0 = .ok (.aload_n 0, 1) := by decide +kernel
theorem dX3_brokenWants_1 : decode cX3_brokenWants 1 = .ok (.aload_n 1, 1) := by decide +kernel
theorem dX3_brokenWants_2 : decode cX3_brokenWants 2 = .ok (.iload_n 2, 1) := by decide +kernel
theorem dX3_brokenWants_3 : decode cX3_brokenWants 3 = .ok (.invokevirtual 78, 3) := by decide +kernel
theorem dX3_brokenWants_6 : decode cX3_brokenWants 6 = .ok (.iconst 0, 1) := by decide +kernel
theorem dX3_brokenWants_7 : decode cX3_brokenWants 7 = .ok (.istore_n 3, 1) := by decide +kernel
theorem dX3_brokenWants_8 : decode cX3_brokenWants 8 = .ok (.iconst 0, 1) := by decide +kernel
theorem dX3_brokenWants_9 : decode cX3_brokenWants 9 = .ok (.istore 4, 2) := by decide +kernel
theorem dX3_brokenWants_11 : decode cX3_brokenWants 11 = .ok (.iload 4, 2) := by decide +kernel
theorem dX3_brokenWants_13 : decode cX3_brokenWants 13 = .ok (.aload_n 1, 1) := by decide +kernel
theorem dX3_brokenWants_14 : decode cX3_brokenWants 14 = .ok (.getfield 82, 3) := by decide +kernel
theorem dX3_brokenWants_17 : decode cX3_brokenWants 17 = .ok (.getfield 86, 3) := by decide +kernel
theorem dX3_brokenWants_20 : decode cX3_brokenWants 20 = .ok (.if_icmp .ge 69, 3) := by decide +kernel
theorem dX3_brokenWants_23 : decode cX3_brokenWants 23 = .ok (.aload_n 1, 1) := by decide +kernel
theorem dX3_brokenWants_24 : decode cX3_brokenWants 24 = .ok (.aload_n 1, 1) := by decide +kernel
theorem dX3_brokenWants_25 : decode cX3_brokenWants 25 = .ok (.getfield 82, 3) := by decide +kernel
theorem dX3_brokenWants_28 : decode cX3_brokenWants 28 = .ok (.iload 4, 2) := by decide +kernel
theorem dX3_brokenWants_30 : decode cX3_brokenWants 30 = .ok (.iconst 0, 1) := by decide +kernel
theorem dX3_brokenWants_31 : decode cX3_brokenWants 31 = .ok (.invokevirtual 89, 3) := by decide +kernel
theorem dX3_brokenWants_34 : decode cX3_brokenWants 34 = .ok (.invokevirtual 92, 3) := by decide +kernel
theorem dX3_brokenWants_37 : decode cX3_brokenWants 37 = .ok (.istore 5, 2) := by decide +kernel
theorem dX3_brokenWants_39 : decode cX3_brokenWants 39 = .ok (.aload_n 1, 1) := by decide +kernel
theorem dX3_brokenWants_40 : decode cX3_brokenWants 40 = .ok (.aload_n 1, 1) := by decide +kernel
theorem dX3_brokenWants_41 : decode cX3_brokenWants 41 = .ok (.getfield 82, 3) := by decide +kernel
theorem dX3_brokenWants_44 : decode cX3_brokenWants 44 = .ok (.iload 4, 2) := by decide +kernel
theorem dX3_brokenWants_46 : decode cX3_brokenWants 46 = .ok (.iconst 1, 1) := by decide +kernel
theorem dX3_brokenWants_47 : decode cX3_brokenWants 47 = .ok (.invokevirtual 89, 3) := by decide +kernel
theorem dX3_brokenWants_50 : decode cX3_brokenWants 50 = .ok (.invokevirtual 92, 3) := by decide +kernel
theorem dX3_brokenWants_53 : decode cX3_brokenWants 53 = .ok (.istore 6, 2) := by decide +kernel
theorem dX3_brokenWants_55 : decode cX3_brokenWants 55 = .ok (.aload_n 0, 1) := by decide +kernel
theorem dX3_brokenWants_56 : decode cX3_brokenWants 56 = .ok (.iload 5, 2) := by decide +kernel
theorem dX3_brokenWants_58 : decode cX3_brokenWants 58 = .ok (.iload 6, 2) := by decide +kernel
theorem dX3_brokenWants_60 : decode cX3_brokenWants 60 = .ok (.invokevirtual 95, 3) := by decide +kernel
theorem dX3_brokenWants_63 : decode cX3_brokenWants 63 = .ok (.aload_n 1, 1) := by decide +kernel
theorem dX3_brokenWants_64 : decode cX3_brokenWants 64 = .ok (.getfield 82, 3) := by decide +kernel
theorem dX3_brokenWants_67 : decode cX3_brokenWants 67 = .ok (.iload 4, 2) := by decide +kernel
theorem dX3_brokenWants_69 : decode cX3_brokenWants 69 = .ok (.iconst 2, 1) := by decide +kernel
theorem dX3_brokenWants_70 : decode cX3_brokenWants 70 = .ok (.invokevirtual 89, 3) := by decide +kernel
theorem dX3_brokenWants_73 : decode cX3_brokenWants 73 = .ok (.if_icmp .eq 10, 3) := by decide +kernel
theorem dX3_brokenWants_76 : decode cX3_brokenWants 76 = .ok (.iload_n 3, 1) := by decide +kernel
theorem dX3_brokenWants_77 : decode cX3_brokenWants 77 = .ok (.iconst 1, 1) := by decide +kernel
theorem dX3_brokenWants_78 : decode cX3_brokenWants 78 = .ok (.iload 4, 2) := by decide +kernel
theorem dX3_brokenWants_80 : decode cX3_brokenWants 80 = .ok (.ishl, 1) := by decide +kernel
theorem dX3_brokenWants_81 : decode cX3_brokenWants 81 = .ok (.ior, 1) := by decide +kernel
theorem dX3_brokenWants_82 : decode cX3_brokenWants 82 = .ok (.istore_n 3, 1) := by decide +kernel
theorem dX3_brokenWants_83 : decode cX3_brokenWants 83 = .ok (.iinc 4 1, 3) := by decide +kernel
theorem dX3_brokenWants_86 : decode cX3_brokenWants 86 = .ok (.goto (-75), 3) := by decide +kernel
theorem dX3_brokenWants_89 : decode cX3_brokenWants 89 = .ok (.iload_n 3, 1) := by decide +kernel
theorem dX3_brokenWants_90 : decode cX3_brokenWants 90 = .ok (.ireturn, 1) := by decide +kernel
theorem dX3_peopleHearing_0 : decode cX3_peopleHearing 0 = .ok (.aload_n 1, 1) := by decide +kernel
theorem dX3_peopleHearing_1 : decode cX3_peopleHearing 1 = .ok (.iload_n 2, 1) := by decide +kernel
theorem dX3_peopleHearing_2 : decode cX3_peopleHearing 2 = .ok (.invokevirtual 92, 3) := by decide +kernel
theorem dX3_peopleHearing_5 : decode cX3_peopleHearing 5 = .ok (.istore 4, 2) := by decide +kernel
theorem dX3_peopleHearing_7 : decode cX3_peopleHearing 7 = .ok (.iload 4, 2) := by decide +kernel
theorem dX3_peopleHearing_9 : decode cX3_peopleHearing 9 = .ok (.bipush (-4), 2) := by decide +kernel
theorem dX3_peopleHearing_11 : decode cX3_peopleHearing 11 = .ok (.if_icmp .ne 7, 3) := by decide +kernel
theorem dX3_peopleHearing_14 : decode cX3_peopleHearing 14 = .ok (.iconst 0, 1) := by decide +kernel
theorem dX3_peopleHearing_15 : decode cX3_peopleHearing 15 = .ok (.goto 11, 3) := by decide +kernel
theorem dX3_peopleHearing_18 : decode cX3_peopleHearing 18 = .ok (.aload_n 0, 1) := by decide +kernel
theorem dX3_peopleHearing_19 : decode cX3_peopleHearing 19 = .ok (.aload_n 1, 1) := by decide +kernel
theorem dX3_peopleHearing_20 : decode cX3_peopleHearing 20 = .ok (.iload 4, 2) := by decide +kernel
theorem dX3_peopleHearing_22 : decode cX3_peopleHearing 22 = .ok (.iload_n 3, 1) := by decide +kernel
theorem dX3_peopleHearing_23 : decode cX3_peopleHearing 23 = .ok (.invokevirtual 67, 3) := by decide +kernel
theorem dX3_peopleHearing_26 : decode cX3_peopleHearing 26 = .ok (.istore 5, 2) := by decide +kernel
theorem dX3_peopleHearing_28 : decode cX3_peopleHearing 28 = .ok (.iconst 0, 1) := by decide +kernel
theorem dX3_peopleHearing_29 : decode cX3_peopleHearing 29 = .ok (.istore 6, 2) := by decide +kernel
theorem dX3_peopleHearing_31 : decode cX3_peopleHearing 31 = .ok (.iconst 0, 1) := by decide +kernel
theorem dX3_peopleHearing_32 : decode cX3_peopleHearing 32 = .ok (.istore 7, 2) := by decide +kernel
theorem dX3_peopleHearing_34 : decode cX3_peopleHearing 34 = .ok (.iload 7, 2) := by decide +kernel
theorem dX3_peopleHearing_36 : decode cX3_peopleHearing 36 = .ok (.aload_n 1, 1) := by decide +kernel
theorem dX3_peopleHearing_37 : decode cX3_peopleHearing 37 = .ok (.getfield 98, 3) := by decide +kernel
theorem dX3_peopleHearing_40 : decode cX3_peopleHearing 40 = .ok (.if_icmp .ge 44, 3) := by decide +kernel
theorem dX3_peopleHearing_43 : decode cX3_peopleHearing 43 = .ok (.aload_n 1, 1) := by decide +kernel
theorem dX3_peopleHearing_44 : decode cX3_peopleHearing 44 = .ok (.iload 7, 2) := by decide +kernel
theorem dX3_peopleHearing_46 : decode cX3_peopleHearing 46 = .ok (.invokevirtual 92, 3) := by decide +kernel
theorem dX3_peopleHearing_49 : decode cX3_peopleHearing 49 = .ok (.istore 8, 2) := by decide +kernel
theorem dX3_peopleHearing_51 : decode cX3_peopleHearing 51 = .ok (.iload 8, 2) := by decide +kernel
theorem dX3_peopleHearing_53 : decode cX3_peopleHearing 53 = .ok (.bipush (-4), 2) := by decide +kernel
theorem dX3_peopleHearing_55 : decode cX3_peopleHearing 55 = .ok (.if_icmp .eq 23, 3) := by decide +kernel
theorem dX3_peopleHearing_58 : decode cX3_peopleHearing 58 = .ok (.iload 5, 2) := by decide +kernel
theorem dX3_peopleHearing_60 : decode cX3_peopleHearing 60 = .ok (.iload 8, 2) := by decide +kernel
theorem dX3_peopleHearing_62 : decode cX3_peopleHearing 62 = .ok (.invokestatic 75, 3) := by decide +kernel
theorem dX3_peopleHearing_65 : decode cX3_peopleHearing 65 = .ok (.iconst 1, 1) := by decide +kernel
theorem dX3_peopleHearing_66 : decode cX3_peopleHearing 66 = .ok (.if_icmp .ne 12, 3) := by decide +kernel
theorem dX3_peopleHearing_69 : decode cX3_peopleHearing 69 = .ok (.iload 6, 2) := by decide +kernel
theorem dX3_peopleHearing_71 : decode cX3_peopleHearing 71 = .ok (.iconst 1, 1) := by decide +kernel
theorem dX3_peopleHearing_72 : decode cX3_peopleHearing 72 = .ok (.iload 7, 2) := by decide +kernel
theorem dX3_peopleHearing_74 : decode cX3_peopleHearing 74 = .ok (.ishl, 1) := by decide +kernel
theorem dX3_peopleHearing_75 : decode cX3_peopleHearing 75 = .ok (.ior, 1) := by decide +kernel
theorem dX3_peopleHearing_76 : decode cX3_peopleHearing 76 = .ok (.istore 6, 2) := by decide +kernel
theorem dX3_peopleHearing_78 : decode cX3_peopleHearing 78 = .ok (.iinc 7 1, 3) := by decide +kernel
theorem dX3_peopleHearing_81 : decode cX3_peopleHearing 81 = .ok (.goto (-47), 3) := by decide +kernel
theorem dX3_peopleHearing_84 : decode cX3_peopleHearing 84 = .ok (.iload 6, 2) := by decide +kernel
theorem dX3_peopleHearing_86 : decode cX3_peopleHearing 86 = .ok (.ireturn, 1) := by decide +kernel
theorem dX4_init_0 : decode cX4_init 0 = .ok (.aload_n 0, 1) := by decide +kernel
theorem dX4_init_1 : decode cX4_init 1 = .ok (.invokespecial 3, 3) := by decide +kernel
theorem dX4_init_4 : decode cX4_init 4 = .ok (.aload_n 0, 1) := by decide +kernel
theorem dX4_init_5 : decode cX4_init 5 = .ok (.iconst 0, 1) := by decide +kernel
theorem dX4_init_6 : decode cX4_init 6 = .ok (.putfield 9, 3) := by decide +kernel
theorem dX4_init_9 : decode cX4_init 9 = .ok (.aload_n 0, 1) := by decide +kernel
theorem dX4_init_10 : decode cX4_init 10 = .ok (.iconst 0, 1) := by decide +kernel
theorem dX4_init_11 : decode cX4_init 11 = .ok (.putfield 15, 3) := by decide +kernel
theorem dX4_init_14 : decode cX4_init 14 = .ok (.aload_n 0, 1) := by decide +kernel
theorem dX4_init_15 : decode cX4_init 15 = .ok (.new 18, 3) := by decide +kernel
theorem dX4_init_18 : decode cX4_init 18 = .ok (.dup, 1) := by decide +kernel
theorem dX4_init_19 : decode cX4_init 19 = .ok (.invokespecial 20, 3) := by decide +kernel
theorem dX4_init_22 : decode cX4_init 22 = .ok (.putfield 21, 3) := by decide +kernel
theorem dX4_init_25 : decode cX4_init 25 = .ok (.aload_n 0, 1) := by decide +kernel
theorem dX4_init_26 : decode cX4_init 26 = .ok (.bipush 6, 2) := by decide +kernel
theorem dX4_init_28 : decode cX4_init 28 = .ok (.newarray .int, 2) := by decide +kernel
theorem dX4_init_30 : decode cX4_init 30 = .ok (.putfield 25, 3) := by decide +kernel
theorem dX4_init_33 : decode cX4_init 33 = .ok (.aload_n 0, 1) := by decide +kernel
theorem dX4_init_34 : decode cX4_init 34 = .ok (.bipush 6, 2) := by decide +kernel
theorem dX4_init_36 : decode cX4_init 36 = .ok (.newarray .int, 2) := by decide +kernel
theorem dX4_init_38 : decode cX4_init 38 = .ok (.putfield 29, 3) := by decide +kernel
theorem dX4_init_41 : decode cX4_init 41 = .ok (.return_, 1) := by decide +kernel
theorem dX4_search_0 : decode cX4_search 0 = .ok (.aload_n 0, 1) := by decide +kernel
theorem dX4_search_1 : decode cX4_search 1 = .ok (.getfield 21, 3) := by decide +kernel
theorem dX4_search_4 : decode cX4_search 4 = .ok (.aload_n 1, 1) := by decide +kernel
theorem dX4_search_5 : decode cX4_search 5 = .ok (.iload_n 2, 1) := by decide +kernel
theorem dX4_search_6 : decode cX4_search 6 = .ok (.invokevirtual 32, 3) := by decide +kernel
theorem dX4_search_9 : decode cX4_search 9 = .ok (.aload_n 0, 1) := by decide +kernel
theorem dX4_search_10 : decode cX4_search 10 = .ok (.bipush 9, 2) := by decide +kernel
theorem dX4_search_12 : decode cX4_search 12 = .ok (.putfield 9, 3) := by decide +kernel
theorem dX4_search_15 : decode cX4_search 15 = .ok (.aload_n 0, 1) := by decide +kernel
theorem dX4_search_16 : decode cX4_search 16 = .ok (.iconst 0, 1) := by decide +kernel
theorem dX4_search_17 : decode cX4_search 17 = .ok (.putfield 15, 3) := by decide +kernel
theorem dX4_search_20 : decode cX4_search 20 = .ok (.aload_n 0, 1) := by decide +kernel
theorem dX4_search_21 : decode cX4_search 21 = .ok (.aload_n 1, 1) := by decide +kernel
theorem dX4_search_22 : decode cX4_search 22 = .ok (.iconst 0, 1) := by decide +kernel
theorem dX4_search_23 : decode cX4_search 23 = .ok (.iconst 0, 1) := by decide +kernel
theorem dX4_search_24 : decode cX4_search 24 = .ok (.iconst 0, 1) := by decide +kernel
theorem dX4_search_25 : decode cX4_search 25 = .ok (.invokestatic 36, 3) := by decide +kernel
theorem dX4_search_28 : decode cX4_search 28 = .ok (.return_, 1) := by decide +kernel
theorem dX4_benchInFirst_0 : decode cX4_benchInFirst 0 = .ok (.iload_n 1, 1) := by decide +kernel
theorem dX4_benchInFirst_1 : decode cX4_benchInFirst 1 = .ok (.iconst 0, 1) := by decide +kernel
theorem dX4_benchInFirst_2 : decode cX4_benchInFirst 2 = .ok (.iconst 5, 1) := by decide +kernel
theorem dX4_benchInFirst_3 : decode cX4_benchInFirst 3 = .ok (.invokestatic 40, 3) := by decide +kernel
theorem dX4_benchInFirst_6 : decode cX4_benchInFirst 6 = .ok (.ifCond .eq 12, 3) := by decide +kernel
theorem dX4_benchInFirst_9 : decode cX4_benchInFirst 9 = .ok (.aload_n 0, 1) := by decide +kernel
theorem dX4_benchInFirst_10 : decode cX4_benchInFirst 10 = .ok (.getfield 25, 3) := by decide +kernel
theorem dX4_benchInFirst_13 : decode cX4_benchInFirst 13 = .ok (.iload_n 1, 1) := by decide +kernel
theorem dX4_benchInFirst_14 : decode cX4_benchInFirst 14 = .ok (.iaload, 1) := by decide +kernel
theorem dX4_benchInFirst_15 : decode cX4_benchInFirst 15 = .ok (.goto 5, 3) := by decide +kernel
theorem dX4_benchInFirst_18 : decode cX4_benchInFirst 18 = .ok (.bipush (-4), 2) := by decide +kernel
theorem dX4_benchInFirst_20 : decode cX4_benchInFirst 20 = .ok (.ireturn, 1) := by decide +kernel
theorem dX4_seatNext_0 : decode cX4_seatNext 0 = .ok (.iload 4, 2) := by decide +kernel
theorem dX4_seatNext_2 : decode cX4_seatNext 2 = .ok (.aload_n 0, 1) := by decide +kernel
theorem dX4_seatNext_3 : decode cX4_seatNext 3 = .ok (.getfield 9, 3) := by decide +kernel
theorem dX4_seatNext_6 : decode cX4_seatNext 6 = .ok (.if_icmp .le 4, 3) := by decide +kernel
theorem dX4_seatNext_9 : decode cX4_seatNext 9 = .ok (.return_, 1) := by decide +kernel
theorem dX4_seatNext_10 : decode cX4_seatNext 10 = .ok (.iload_n 2, 1) := by decide +kernel
theorem dX4_seatNext_11 : decode cX4_seatNext 11 = .ok (.ifCond .lt 17, 3) := by decide +kernel
theorem dX4_seatNext_14 : decode cX4_seatNext 14 = .ok (.iload_n 2, 1) := by decide +kernel
theorem dX4_seatNext_15 : decode cX4_seatNext 15 = .ok (.aload_n 1, 1) := by decide +kernel
theorem dX4_seatNext_16 : decode cX4_seatNext 16 = .ok (.getfield 44, 3) := by decide +kernel
theorem dX4_seatNext_19 : decode cX4_seatNext 19 = .ok (.if_icmp .ge 9, 3) := by decide +kernel
theorem dX4_seatNext_22 : decode cX4_seatNext 22 = .ok (.iload_n 2, 1) := by decide +kernel
theorem dX4_seatNext_23 : decode cX4_seatNext 23 = .ok (.bipush 6, 2) := by decide +kernel
theorem dX4_seatNext_25 : decode cX4_seatNext 25 = .ok (.if_icmp .lt 10, 3) := by decide +kernel
theorem dX4_seatNext_28 : decode cX4_seatNext 28 = .ok (.aload_n 0, 1) := by decide +kernel
theorem dX4_seatNext_29 : decode cX4_seatNext 29 = .ok (.iload 4, 2) := by decide +kernel
theorem dX4_seatNext_31 : decode cX4_seatNext 31 = .ok (.invokevirtual 49, 3) := by decide +kernel
theorem dX4_seatNext_34 : decode cX4_seatNext 34 = .ok (.return_, 1) := by decide +kernel
theorem dX4_seatNext_35 : decode cX4_seatNext 35 = .ok (.iconst 0, 1) := by decide +kernel
theorem dX4_seatNext_36 : decode cX4_seatNext 36 = .ok (.istore 5, 2) := by decide +kernel
theorem dX4_seatNext_38 : decode cX4_seatNext 38 = .ok (.iload 5, 2) := by decide +kernel
theorem dX4_seatNext_40 : decode cX4_seatNext 40 = .ok (.aload_n 1, 1) := by decide +kernel
theorem dX4_seatNext_41 : decode cX4_seatNext 41 = .ok (.getfield 53, 3) := by decide +kernel
theorem dX4_seatNext_44 : decode cX4_seatNext 44 = .ok (.getfield 57, 3) := by decide +kernel
theorem dX4_seatNext_47 : decode cX4_seatNext 47 = .ok (.if_icmp .ge 49, 3) := by decide +kernel
theorem dX4_seatNext_50 : decode cX4_seatNext 50 = .ok (.iload_n 3, 1) := by decide +kernel
theorem dX4_seatNext_51 : decode cX4_seatNext 51 = .ok (.iload 5, 2) := by decide +kernel
theorem dX4_seatNext_53 : decode cX4_seatNext 53 = .ok (.invokestatic 62, 3) := by decide +kernel
theorem dX4_seatNext_56 : decode cX4_seatNext 56 = .ok (.ifCond .ne 34, 3) := by decide +kernel
theorem dX4_seatNext_59 : decode cX4_seatNext 59 = .ok (.aload_n 0, 1) := by decide +kernel
theorem dX4_seatNext_60 : decode cX4_seatNext 60 = .ok (.getfield 29, 3) := by decide +kernel
theorem dX4_seatNext_63 : decode cX4_seatNext 63 = .ok (.iload_n 2, 1) := by decide +kernel
theorem dX4_seatNext_64 : decode cX4_seatNext 64 = .ok (.iload 5, 2) := by decide +kernel
theorem dX4_seatNext_66 : decode cX4_seatNext 66 = .ok (.iastore, 1) := by decide +kernel
theorem dX4_seatNext_67 : decode cX4_seatNext 67 = .ok (.aload_n 0, 1) := by decide +kernel
theorem dX4_seatNext_68 : decode cX4_seatNext 68 = .ok (.aload_n 1, 1) := by decide +kernel
theorem dX4_seatNext_69 : decode cX4_seatNext 69 = .ok (.iload_n 2, 1) := by decide +kernel
theorem dX4_seatNext_70 : decode cX4_seatNext 70 = .ok (.iconst 1, 1) := by decide +kernel
theorem dX4_seatNext_71 : decode cX4_seatNext 71 = .ok (.iadd, 1) := by decide +kernel
theorem dX4_seatNext_72 : decode cX4_seatNext 72 = .ok (.iload_n 3, 1) := by decide +kernel
theorem dX4_seatNext_73 : decode cX4_seatNext 73 = .ok (.iconst 1, 1) := by decide +kernel
theorem dX4_seatNext_74 : decode cX4_seatNext 74 = .ok (.iload 5, 2) := by decide +kernel
theorem dX4_seatNext_76 : decode cX4_seatNext 76 = .ok (.ishl, 1) := by decide +kernel
theorem dX4_seatNext_77 : decode cX4_seatNext 77 = .ok (.ior, 1) := by decide +kernel
theorem dX4_seatNext_78 : decode cX4_seatNext 78 = .ok (.iload 4, 2) := by decide +kernel
theorem dX4_seatNext_80 : decode cX4_seatNext 80 = .ok (.aload_n 0, 1) := by decide +kernel
theorem dX4_seatNext_81 : decode cX4_seatNext 81 = .ok (.aload_n 1, 1) := by decide +kernel
theorem dX4_seatNext_82 : decode cX4_seatNext 82 = .ok (.iload_n 2, 1) := by decide +kernel
theorem dX4_seatNext_83 : decode cX4_seatNext 83 = .ok (.invokevirtual 66, 3) := by decide +kernel
theorem dX4_seatNext_86 : decode cX4_seatNext 86 = .ok (.iadd, 1) := by decide +kernel
theorem dX4_seatNext_87 : decode cX4_seatNext 87 = .ok (.invokestatic 36, 3) := by decide +kernel
theorem dX4_seatNext_90 : decode cX4_seatNext 90 = .ok (.iinc 5 1, 3) := by decide +kernel
theorem dX4_seatNext_93 : decode cX4_seatNext 93 = .ok (.goto (-55), 3) := by decide +kernel
theorem dX4_seatNext_96 : decode cX4_seatNext 96 = .ok (.return_, 1) := by decide +kernel
theorem dX4_takeSeating_0 : decode cX4_takeSeating 0 = .ok (.iload_n 1, 1) := by decide +kernel
theorem dX4_takeSeating_1 : decode cX4_takeSeating 1 = .ok (.aload_n 0, 1) := by decide +kernel
theorem dX4_takeSeating_2 : decode cX4_takeSeating 2 = .ok (.getfield 9, 3) := by decide +kernel
theorem dX4_takeSeating_5 : decode cX4_takeSeating 5 = .ok (.if_icmp .ge 28, 3) := by decide +kernel
theorem dX4_takeSeating_8 : decode cX4_takeSeating 8 = .ok (.aload_n 0, 1) := by decide +kernel
theorem dX4_takeSeating_9 : decode cX4_takeSeating 9 = .ok (.iload_n 1, 1) := by decide +kernel
theorem dX4_takeSeating_10 : decode cX4_takeSeating 10 = .ok (.putfield 9, 3) := by decide +kernel
theorem dX4_takeSeating_13 : decode cX4_takeSeating 13 = .ok (.aload_n 0, 1) := by decide +kernel
theorem dX4_takeSeating_14 : decode cX4_takeSeating 14 = .ok (.iconst 0, 1) := by decide +kernel
theorem dX4_takeSeating_15 : decode cX4_takeSeating 15 = .ok (.putfield 15, 3) := by decide +kernel
theorem dX4_takeSeating_18 : decode cX4_takeSeating 18 = .ok (.aload_n 0, 1) := by decide +kernel
theorem dX4_takeSeating_19 : decode cX4_takeSeating 19 = .ok (.getfield 29, 3) := by decide +kernel
theorem dX4_takeSeating_22 : decode cX4_takeSeating 22 = .ok (.iconst 0, 1) := by decide +kernel
theorem dX4_takeSeating_23 : decode cX4_takeSeating 23 = .ok (.aload_n 0, 1) := by decide +kernel
theorem dX4_takeSeating_24 : decode cX4_takeSeating 24 = .ok (.getfield 25, 3) := by decide +kernel
theorem dX4_takeSeating_27 : decode cX4_takeSeating 27 = .ok (.iconst 0, 1) := by decide +kernel
theorem dX4_takeSeating_28 : decode cX4_takeSeating 28 = .ok (.bipush 6, 2) := by decide +kernel
theorem dX4_takeSeating_30 : decode cX4_takeSeating 30 = .ok (.invokestatic 70, 3) := by decide +kernel
theorem dX4_takeSeating_33 : decode cX4_takeSeating 33 = .ok (.aload_n 0, 1) := by decide +kernel
theorem dX4_takeSeating_34 : decode cX4_takeSeating 34 = .ok (.dup, 1) := by decide +kernel
theorem dX4_takeSeating_35 : decode cX4_takeSeating 35 = .ok (.getfield 15, 3) := by decide +kernel
theorem dX4_takeSeating_38 : decode cX4_takeSeating 38 = .ok (.iconst 1, 1) := by decide +kernel
theorem dX4_takeSeating_39 : decode cX4_takeSeating 39 = .ok (.iadd, 1) := by decide +kernel
theorem dX4_takeSeating_40 : decode cX4_takeSeating 40 = .ok (.putfield 15, 3) := by decide +kernel
theorem dX4_takeSeating_43 : decode cX4_takeSeating 43 = .ok (.return_, 1) := by decide +kernel
theorem dX4_brokenBy_0 : decode cX4_brokenBy 0 = .ok (.iconst 0, 1) := by decide +kernel
theorem dX4_brokenBy_1 : decode cX4_brokenBy 1 = .ok (.istore_n 3, 1) := by decide +kernel
theorem dX4_brokenBy_2 : decode cX4_brokenBy 2 = .ok (.iconst 0, 1) := by decide +kernel
theorem dX4_brokenBy_3 : decode cX4_brokenBy 3 = .ok (.istore 4, 2) := by decide +kernel
theorem dX4_brokenBy_5 : decode cX4_brokenBy 5 = .ok (.iload 4, 2) := by decide +kernel
theorem dX4_brokenBy_7 : decode cX4_brokenBy 7 = .ok (.aload_n 1, 1) := by decide +kernel
theorem dX4_brokenBy_8 : decode cX4_brokenBy 8 = .ok (.getfield 76, 3) := by decide +kernel
theorem dX4_brokenBy_11 : decode cX4_brokenBy 11 = .ok (.getfield 80, 3) := by decide +kernel
theorem dX4_brokenBy_14 : decode cX4_brokenBy 14 = .ok (.if_icmp .ge 79, 3) := by decide +kernel
theorem dX4_brokenBy_17 : decode cX4_brokenBy 17 = .ok (.aload_n 1, 1) := by decide +kernel
theorem dX4_brokenBy_18 : decode cX4_brokenBy 18 = .ok (.getfield 76, 3) := by decide +kernel
theorem dX4_brokenBy_21 : decode cX4_brokenBy 21 = .ok (.iload 4, 2) := by decide +kernel
theorem dX4_brokenBy_23 : decode cX4_brokenBy 23 = .ok (.iconst 0, 1) := by decide +kernel
theorem dX4_brokenBy_24 : decode cX4_brokenBy 24 = .ok (.invokevirtual 83, 3) := by decide +kernel
theorem dX4_brokenBy_27 : decode cX4_brokenBy 27 = .ok (.istore 5, 2) := by decide +kernel
theorem dX4_brokenBy_29 : decode cX4_brokenBy 29 = .ok (.aload_n 1, 1) := by decide +kernel
theorem dX4_brokenBy_30 : decode cX4_brokenBy 30 = .ok (.getfield 76, 3) := by decide +kernel
theorem dX4_brokenBy_33 : decode cX4_brokenBy 33 = .ok (.iload 4, 2) := by decide +kernel
theorem dX4_brokenBy_35 : decode cX4_brokenBy 35 = .ok (.iconst 1, 1) := by decide +kernel
theorem dX4_brokenBy_36 : decode cX4_brokenBy 36 = .ok (.invokevirtual 83, 3) := by decide +kernel
theorem dX4_brokenBy_39 : decode cX4_brokenBy 39 = .ok (.istore 6, 2) := by decide +kernel
theorem dX4_brokenBy_41 : decode cX4_brokenBy 41 = .ok (.iload 5, 2) := by decide +kernel
theorem dX4_brokenBy_43 : decode cX4_brokenBy 43 = .ok (.iload 6, 2) := by decide +kernel
theorem dX4_brokenBy_45 : decode cX4_brokenBy 45 = .ok (.invokestatic 86, 3) := by decide +kernel
theorem dX4_brokenBy_48 : decode cX4_brokenBy 48 = .ok (.iload_n 2, 1) := by decide +kernel
theorem dX4_brokenBy_49 : decode cX4_brokenBy 49 = .ok (.if_icmp .ne 38, 3) := by decide +kernel
theorem dX4_brokenBy_52 : decode cX4_brokenBy 52 = .ok (.aload_n 0, 1) := by decide +kernel
theorem dX4_brokenBy_53 : decode cX4_brokenBy 53 = .ok (.getfield 21, 3) := by decide +kernel
theorem dX4_brokenBy_56 : decode cX4_brokenBy 56 = .ok (.aload_n 0, 1) := by decide +kernel
theorem dX4_brokenBy_57 : decode cX4_brokenBy 57 = .ok (.iload 5, 2) := by decide +kernel
theorem dX4_brokenBy_59 : decode cX4_brokenBy 59 = .ok (.invokevirtual 91, 3) := by decide +kernel
theorem dX4_brokenBy_62 : decode cX4_brokenBy 62 = .ok (.aload_n 0, 1) := by decide +kernel
theorem dX4_brokenBy_63 : decode cX4_brokenBy 63 = .ok (.iload 6, 2) := by decide +kernel
theorem dX4_brokenBy_65 : decode cX4_brokenBy 65 = .ok (.invokevirtual 91, 3) := by decide +kernel
theorem dX4_brokenBy_68 : decode cX4_brokenBy 68 = .ok (.invokevirtual 95, 3) := by decide +kernel
theorem dX4_brokenBy_71 : decode cX4_brokenBy 71 = .ok (.aload_n 1, 1) := by decide +kernel
theorem dX4_brokenBy_72 : decode cX4_brokenBy 72 = .ok (.getfield 76, 3) := by decide +kernel
theorem dX4_brokenBy_75 : decode cX4_brokenBy 75 = .ok (.iload 4, 2) := by decide +kernel
theorem dX4_brokenBy_77 : decode cX4_brokenBy 77 = .ok (.iconst 2, 1) := by decide +kernel
theorem dX4_brokenBy_78 : decode cX4_brokenBy 78 = .ok (.invokevirtual 83, 3) := by decide +kernel
theorem dX4_brokenBy_81 : decode cX4_brokenBy 81 = .ok (.if_icmp .eq 6, 3) := by decide +kernel
theorem dX4_brokenBy_84 : decode cX4_brokenBy 84 = .ok (.iinc 3 1, 3) := by decide +kernel
theorem dX4_brokenBy_87 : decode cX4_brokenBy 87 = .ok (.iinc 4 1, 3) := by decide +kernel
theorem dX4_brokenBy_90 : decode cX4_brokenBy 90 = .ok (.goto (-85), 3) := by decide +kernel
theorem dX4_brokenBy_93 : decode cX4_brokenBy 93 = .ok (.iload_n 3, 1) := by decide +kernel
theorem dX4_brokenBy_94 : decode cX4_brokenBy 94 = .ok (.ireturn, 1) := by decide +kernel
theorem dX4_benchTried_0 : decode cX4_benchTried 0 = .ok (.iload_n 1, 1) := by decide +kernel
theorem dX4_benchTried_1 : decode cX4_benchTried 1 = .ok (.iconst 0, 1) := by decide +kernel
theorem dX4_benchTried_2 : decode cX4_benchTried 2 = .ok (.iconst 5, 1) := by decide +kernel
theorem dX4_benchTried_3 : decode cX4_benchTried 3 = .ok (.invokestatic 40, 3) := by decide +kernel
theorem dX4_benchTried_6 : decode cX4_benchTried 6 = .ok (.ifCond .eq 12, 3) := by decide +kernel
theorem dX4_benchTried_9 : decode cX4_benchTried 9 = .ok (.aload_n 0, 1) := by decide +kernel
theorem dX4_benchTried_10 : decode cX4_benchTried 10 = .ok (.getfield 29, 3) := by decide +kernel
theorem dX4_benchTried_13 : decode cX4_benchTried 13 = .ok (.iload_n 1, 1) := by decide +kernel
theorem dX4_benchTried_14 : decode cX4_benchTried 14 = .ok (.iaload, 1) := by decide +kernel
theorem dX4_benchTried_15 : decode cX4_benchTried 15 = .ok (.goto 5, 3) := by decide +kernel
theorem dX4_benchTried_18 : decode cX4_benchTried 18 = .ok (.bipush (-4), 2) := by decide +kernel
theorem dX4_benchTried_20 : decode cX4_benchTried 20 = .ok (.ireturn, 1) := by decide +kernel
theorem dX5_init_0 : decode cX5_init 0 = .ok (.aload_n 0, 1) := by decide +kernel
theorem dX5_init_1 : decode cX5_init 1 = .ok (.invokespecial 3, 3) := by decide +kernel
theorem dX5_init_4 : decode cX5_init 4 = .ok (.aload_n 0, 1) := by decide +kernel
theorem dX5_init_5 : decode cX5_init 5 = .ok (.iconst 4, 1) := by decide +kernel
theorem dX5_init_6 : decode cX5_init 6 = .ok (.bipush 40, 2) := by decide +kernel
theorem dX5_init_8 : decode cX5_init 8 = .ok (.multianewarray 9 2, 4) := by decide +kernel
theorem dX5_init_12 : decode cX5_init 12 = .ok (.putfield 11, 3) := by decide +kernel
theorem dX5_init_15 : decode cX5_init 15 = .ok (.aload_n 0, 1) := by decide +kernel
theorem dX5_init_16 : decode cX5_init 16 = .ok (.iconst 4, 1) := by decide +kernel
theorem dX5_init_17 : decode cX5_init 17 = .ok (.newarray .int, 2) := by decide +kernel
theorem dX5_init_19 : decode cX5_init 19 = .ok (.putfield 16, 3) := by decide +kernel
theorem dX5_init_22 : decode cX5_init 22 = .ok (.aload_n 0, 1) := by decide +kernel
theorem dX5_init_23 : decode cX5_init 23 = .ok (.iconst 4, 1) := by decide +kernel
theorem dX5_init_24 : decode cX5_init 24 = .ok (.newarray .int, 2) := by decide +kernel
theorem dX5_init_26 : decode cX5_init 26 = .ok (.putfield 20, 3) := by decide +kernel
theorem dX5_init_29 : decode cX5_init 29 = .ok (.aload_n 0, 1) := by decide +kernel
theorem dX5_init_30 : decode cX5_init 30 = .ok (.getfield 16, 3) := by decide +kernel
theorem dX5_init_33 : decode cX5_init 33 = .ok (.iconst (-1), 1) := by decide +kernel
theorem dX5_init_34 : decode cX5_init 34 = .ok (.invokestatic 23, 3) := by decide +kernel
theorem dX5_init_37 : decode cX5_init 37 = .ok (.return_, 1) := by decide +kernel
theorem dX5_isSheet_0 : decode cX5_isSheet 0 = .ok (.iload_n 0, 1) := by decide +kernel
theorem dX5_isSheet_1 : decode cX5_isSheet 1 = .ok (.iconst 0, 1) := by decide +kernel
theorem dX5_isSheet_2 : decode cX5_isSheet 2 = .ok (.iconst 3, 1) := by decide +kernel
theorem dX5_isSheet_3 : decode cX5_isSheet 3 = .ok (.invokestatic 29, 3) := by decide +kernel
theorem dX5_isSheet_6 : decode cX5_isSheet 6 = .ok (.ireturn, 1) := by decide +kernel
theorem dX5_renew_0 : decode cX5_renew 0 = .ok (.iload_n 1, 1) := by decide +kernel
theorem dX5_renew_1 : decode cX5_renew 1 = .ok (.invokestatic 33, 3) := by decide +kernel
theorem dX5_renew_4 : decode cX5_renew 4 = .ok (.ifCond .eq 37, 3) := by decide +kernel
theorem dX5_renew_7 : decode cX5_renew 7 = .ok (.iload_n 3, 1) := by decide +kernel
theorem dX5_renew_8 : decode cX5_renew 8 = .ok (.iconst 0, 1) := by decide +kernel
theorem dX5_renew_9 : decode cX5_renew 9 = .ok (.bipush 40, 2) := by decide +kernel
theorem dX5_renew_11 : decode cX5_renew 11 = .ok (.invokestatic 29, 3) := by decide +kernel
theorem dX5_renew_14 : decode cX5_renew 14 = .ok (.ifCond .eq 27, 3) := by decide +kernel
theorem dX5_renew_17 : decode cX5_renew 17 = .ok (.aload_n 0, 1) := by decide +kernel
theorem dX5_renew_18 : decode cX5_renew 18 = .ok (.getfield 11, 3) := by decide +kernel
theorem dX5_renew_21 : decode cX5_renew 21 = .ok (.iload_n 1, 1) := by decide +kernel
theorem dX5_renew_22 : decode cX5_renew 22 = .ok (.aaload, 1) := by decide +kernel
theorem dX5_renew_23 : decode cX5_renew 23 = .ok (.iconst 0, 1) := by decide +kernel
theorem dX5_renew_24 : decode cX5_renew 24 = .ok (.invokestatic 23, 3) := by decide +kernel
theorem dX5_renew_27 : decode cX5_renew 27 = .ok (.aload_n 0, 1) := by decide +kernel
theorem dX5_renew_28 : decode cX5_renew 28 = .ok (.getfield 16, 3) := by decide +kernel
theorem dX5_renew_31 : decode cX5_renew 31 = .ok (.iload_n 1, 1) := by decide +kernel
theorem dX5_renew_32 : decode cX5_renew 32 = .ok (.iload_n 2, 1) := by decide +kernel
theorem dX5_renew_33 : decode cX5_renew 33 = .ok (.iastore, 1) := by decide +kernel
theorem dX5_renew_34 : decode cX5_renew 34 = .ok (.aload_n 0, 1) := by decide +kernel
theorem dX5_renew_35 : decode cX5_renew 35 = .ok (.getfield 20, 3) := by decide +kernel
theorem dX5_renew_38 : decode cX5_renew 38 = .ok (.iload_n 1, 1) := by decide +kernel
theorem dX5_renew_39 : decode cX5_renew 39 = .ok (.iload_n 3, 1) := by decide +kernel
theorem dX5_renew_40 : decode cX5_renew 40 = .ok (.iastore, 1) := by decide +kernel
theorem dX5_renew_41 : decode cX5_renew 41 = .ok (.return_, 1) := by decide +kernel
theorem dX5_cellsOf_0 : decode cX5_cellsOf 0 = .ok (.iload_n 1, 1) := by decide +kernel
theorem dX5_cellsOf_1 : decode cX5_cellsOf 1 = .ok (.invokestatic 33, 3) := by decide +kernel
theorem dX5_cellsOf_4 : decode cX5_cellsOf 4 = .ok (.ifCond .eq 22, 3) := by decide +kernel
theorem dX5_cellsOf_7 : decode cX5_cellsOf 7 = .ok (.aload_n 0, 1) := by decide +kernel
theorem dX5_cellsOf_8 : decode cX5_cellsOf 8 = .ok (.getfield 16, 3) := by decide +kernel
theorem dX5_cellsOf_11 : decode cX5_cellsOf 11 = .ok (.iload_n 1, 1) := by decide +kernel
theorem dX5_cellsOf_12 : decode cX5_cellsOf 12 = .ok (.iaload, 1) := by decide +kernel
theorem dX5_cellsOf_13 : decode cX5_cellsOf 13 = .ok (.iconst (-1), 1) := by decide +kernel
theorem dX5_cellsOf_14 : decode cX5_cellsOf 14 = .ok (.if_icmp .eq 12, 3) := by decide +kernel
theorem dX5_cellsOf_17 : decode cX5_cellsOf 17 = .ok (.aload_n 0, 1) := by decide +kernel
theorem dX5_cellsOf_18 : decode cX5_cellsOf 18 = .ok (.getfield 20, 3) := by decide +kernel
theorem dX5_cellsOf_21 : decode cX5_cellsOf 21 = .ok (.iload_n 1, 1) := by decide +kernel
theorem dX5_cellsOf_22 : decode cX5_cellsOf 22 = .ok (.iaload, 1) := by decide +kernel
theorem dX5_cellsOf_23 : decode cX5_cellsOf 23 = .ok (.goto 5, 3) := by decide +kernel
theorem dX5_cellsOf_26 : decode cX5_cellsOf 26 = .ok (.bipush (-4), 2) := by decide +kernel
theorem dX5_cellsOf_28 : decode cX5_cellsOf 28 = .ok (.ireturn, 1) := by decide +kernel
theorem dX5_faultOfLane_0 : decode cX5_faultOfLane 0 = .ok (.iload_n 1, 1) := by decide +kernel
theorem dX5_faultOfLane_1 : decode cX5_faultOfLane 1 = .ok (.invokestatic 33, 3) := by decide +kernel
theorem dX5_faultOfLane_4 : decode cX5_faultOfLane 4 = .ok (.ifCond .eq 13, 3) := by decide +kernel
theorem dX5_faultOfLane_7 : decode cX5_faultOfLane 7 = .ok (.aload_n 0, 1) := by decide +kernel
theorem dX5_faultOfLane_8 : decode cX5_faultOfLane 8 = .ok (.getfield 16, 3) := by decide +kernel
theorem dX5_faultOfLane_11 : decode cX5_faultOfLane 11 = .ok (.iload_n 1, 1) := by decide +kernel
theorem dX5_faultOfLane_12 : decode cX5_faultOfLane 12 = .ok (.iaload, 1) := by decide +kernel
theorem dX5_faultOfLane_13 : decode cX5_faultOfLane 13 = .ok (.iconst (-1), 1) := by decide +kernel
theorem dX5_faultOfLane_14 : decode cX5_faultOfLane 14 = .ok (.if_icmp .ne 5, 3) := by decide +kernel
theorem dX5_faultOfLane_17 : decode cX5_faultOfLane 17 = .ok (.iconst 1, 1) := by decide +kernel
theorem dX5_faultOfLane_18 : decode cX5_faultOfLane 18 = .ok (.ireturn, 1) := by decide +kernel
theorem dX5_faultOfLane_19 : decode cX5_faultOfLane 19 = .ok (.aload_n 0, 1) := by decide +kernel
theorem dX5_faultOfLane_20 : decode cX5_faultOfLane 20 = .ok (.getfield 16, 3) := by decide +kernel
theorem dX5_faultOfLane_23 : decode cX5_faultOfLane 23 = .ok (.iload_n 1, 1) := by decide +kernel
theorem dX5_faultOfLane_24 : decode cX5_faultOfLane 24 = .ok (.iaload, 1) := by decide +kernel
theorem dX5_faultOfLane_25 : decode cX5_faultOfLane 25 = .ok (.iload_n 2, 1) := by decide +kernel
theorem dX5_faultOfLane_26 : decode cX5_faultOfLane 26 = .ok (.if_icmp .ne 7, 3) := by decide +kernel
theorem dX5_faultOfLane_29 : decode cX5_faultOfLane 29 = .ok (.iconst 0, 1) := by decide +kernel
theorem dX5_faultOfLane_30 : decode cX5_faultOfLane 30 = .ok (.goto 4, 3) := by decide +kernel
theorem dX5_faultOfLane_33 : decode cX5_faultOfLane 33 = .ok (.iconst 3, 1) := by decide +kernel
theorem dX5_faultOfLane_34 : decode cX5_faultOfLane 34 = .ok (.ireturn, 1) := by decide +kernel
theorem dX5_faultOfCells_0 : decode cX5_faultOfCells 0 = .ok (.iload_n 1, 1) := by decide +kernel
theorem dX5_faultOfCells_1 : decode cX5_faultOfCells 1 = .ok (.invokestatic 33, 3) := by decide +kernel
theorem dX5_faultOfCells_4 : decode cX5_faultOfCells 4 = .ok (.ifCond .eq 13, 3) := by decide +kernel
theorem dX5_faultOfCells_7 : decode cX5_faultOfCells 7 = .ok (.aload_n 0, 1) := by decide +kernel
theorem dX5_faultOfCells_8 : decode cX5_faultOfCells 8 = .ok (.getfield 16, 3) := by decide +kernel
theorem dX5_faultOfCells_11 : decode cX5_faultOfCells 11 = .ok (.iload_n 1, 1) := by decide +kernel
theorem dX5_faultOfCells_12 : decode cX5_faultOfCells 12 = .ok (.iaload, 1) := by decide +kernel
theorem dX5_faultOfCells_13 : decode cX5_faultOfCells 13 = .ok (.iconst (-1), 1) := by decide +kernel
theorem dX5_faultOfCells_14 : decode cX5_faultOfCells 14 = .ok (.if_icmp .ne 5, 3) := by decide +kernel
theorem dX5_faultOfCells_17 : decode cX5_faultOfCells 17 = .ok (.iconst 1, 1) := by decide +kernel
theorem dX5_faultOfCells_18 : decode cX5_faultOfCells 18 = .ok (.ireturn, 1) := by decide +kernel
theorem dX5_faultOfCells_19 : decode cX5_faultOfCells 19 = .ok (.iload_n 2, 1) := by decide +kernel
theorem dX5_faultOfCells_20 : decode cX5_faultOfCells 20 = .ok (.iconst 0, 1) := by decide +kernel
theorem dX5_faultOfCells_21 : decode cX5_faultOfCells 21 = .ok (.aload_n 0, 1) := by decide +kernel
theorem dX5_faultOfCells_22 : decode cX5_faultOfCells 22 = .ok (.getfield 20, 3) := by decide +kernel
theorem dX5_faultOfCells_25 : decode cX5_faultOfCells 25 = .ok (.iload_n 1, 1) := by decide +kernel
theorem dX5_faultOfCells_26 : decode cX5_faultOfCells 26 = .ok (.iaload, 1) := by decide +kernel
theorem dX5_faultOfCells_27 : decode cX5_faultOfCells 27 = .ok (.iload_n 3, 1) := by decide +kernel
theorem dX5_faultOfCells_28 : decode cX5_faultOfCells 28 = .ok (.isub, 1) := by decide +kernel
theorem dX5_faultOfCells_29 : decode cX5_faultOfCells 29 = .ok (.invokestatic 29, 3) := by decide +kernel
theorem dX5_faultOfCells_32 : decode cX5_faultOfCells 32 = .ok (.ifCond .eq 7, 3) := by decide +kernel
theorem dX5_faultOfCells_35 : decode cX5_faultOfCells 35 = .ok (.iconst 0, 1) := by decide +kernel
theorem dX5_faultOfCells_36 : decode cX5_faultOfCells 36 = .ok (.goto 4, 3) := by decide +kernel
theorem dX5_faultOfCells_39 : decode cX5_faultOfCells 39 = .ok (.iconst 2, 1) := by decide +kernel
theorem dX5_faultOfCells_40 : decode cX5_faultOfCells 40 = .ok (.ireturn, 1) := by decide +kernel
theorem dX5_put_0 : decode cX5_put 0 = .ok (.aload_n 0, 1) := by decide +kernel
theorem dX5_put_1 : decode cX5_put 1 = .ok (.iload_n 1, 1) := by decide +kernel
theorem dX5_put_2 : decode cX5_put 2 = .ok (.iload_n 2, 1) := by decide +kernel
theorem dX5_put_3 : decode cX5_put 3 = .ok (.iconst 1, 1) := by decide +kernel
theorem dX5_put_4 : decode cX5_put 4 = .ok (.invokevirtual 37, 3) := by decide +kernel
theorem dX5_put_7 : decode cX5_put 7 = .ok (.ifCond .ne 9, 3) := by decide +kernel
theorem dX5_put_10 : decode cX5_put 10 = .ok (.iload_n 2, 1) := by decide +kernel
theorem dX5_put_11 : decode cX5_put 11 = .ok (.bipush 40, 2) := by decide +kernel
theorem dX5_put_13 : decode cX5_put 13 = .ok (.if_icmp .lt 4, 3) := by decide +kernel
theorem dX5_put_16 : decode cX5_put 16 = .ok (.return_, 1) := by decide +kernel
theorem dX5_put_17 : decode cX5_put 17 = .ok (.aload_n 0, 1) := by decide +kernel
theorem dX5_put_18 : decode cX5_put 18 = .ok (.getfield 16, 3) := by decide +kernel
theorem dX5_put_21 : decode cX5_put 21 = .ok (.iload_n 1, 1) := by decide +kernel
theorem dX5_put_22 : decode cX5_put 22 = .ok (.iaload, 1) := by decide +kernel
theorem dX5_put_23 : decode cX5_put 23 = .ok (.lookupswitch 51 #[(0, 25), (1, 38)], 25) := by decide +kernel
theorem dX5_put_48 : decode cX5_put 48 = .ok (.aload_n 0, 1) := by decide +kernel
theorem dX5_put_49 : decode cX5_put 49 = .ok (.getfield 11, 3) := by decide +kernel
theorem dX5_put_52 : decode cX5_put 52 = .ok (.iload_n 1, 1) := by decide +kernel
theorem dX5_put_53 : decode cX5_put 53 = .ok (.aaload, 1) := by decide +kernel
theorem dX5_put_54 : decode cX5_put 54 = .ok (.iload_n 2, 1) := by decide +kernel
theorem dX5_put_55 : decode cX5_put 55 = .ok (.iload_n 3, 1) := by decide +kernel
theorem dX5_put_56 : decode cX5_put 56 = .ok (.i2b, 1) := by decide +kernel
theorem dX5_put_57 : decode cX5_put 57 = .ok (.iastore, 1) := by decide +kernel
theorem dX5_put_58 : decode cX5_put 58 = .ok (.goto 25, 3) := by decide +kernel
theorem dX5_put_61 : decode cX5_put 61 = .ok (.aload_n 0, 1) := by decide +kernel
theorem dX5_put_62 : decode cX5_put 62 = .ok (.getfield 11, 3) := by decide +kernel
theorem dX5_put_65 : decode cX5_put 65 = .ok (.iload_n 1, 1) := by decide +kernel
theorem dX5_put_66 : decode cX5_put 66 = .ok (.aaload, 1) := by decide +kernel
theorem dX5_put_67 : decode cX5_put 67 = .ok (.iload_n 2, 1) := by decide +kernel
theorem dX5_put_68 : decode cX5_put 68 = .ok (.iload_n 3, 1) := by decide +kernel
theorem dX5_put_69 : decode cX5_put 69 = .ok (.i2s, 1) := by decide +kernel
theorem dX5_put_70 : decode cX5_put 70 = .ok (.iastore, 1) := by decide +kernel
theorem dX5_put_71 : decode cX5_put 71 = .ok (.goto 12, 3) := by decide +kernel
theorem dX5_put_74 : decode cX5_put 74 = .ok (.aload_n 0, 1) := by decide +kernel
theorem dX5_put_75 : decode cX5_put 75 = .ok (.getfield 11, 3) := by decide +kernel
theorem dX5_put_78 : decode cX5_put 78 = .ok (.iload_n 1, 1) := by decide +kernel
theorem dX5_put_79 : decode cX5_put 79 = .ok (.aaload, 1) := by decide +kernel
theorem dX5_put_80 : decode cX5_put 80 = .ok (.iload_n 2, 1) := by decide +kernel
theorem dX5_put_81 : decode cX5_put 81 = .ok (.iload_n 3, 1) := by decide +kernel
theorem dX5_put_82 : decode cX5_put 82 = .ok (.iastore, 1) := by decide +kernel
theorem dX5_put_83 : decode cX5_put 83 = .ok (.return_, 1) := by decide +kernel
theorem dX5_valueAt_0 : decode cX5_valueAt 0 = .ok (.aload_n 0, 1) := by decide +kernel
theorem dX5_valueAt_1 : decode cX5_valueAt 1 = .ok (.iload_n 1, 1) := by decide +kernel
theorem dX5_valueAt_2 : decode cX5_valueAt 2 = .ok (.iload_n 2, 1) := by decide +kernel
theorem dX5_valueAt_3 : decode cX5_valueAt 3 = .ok (.iconst 1, 1) := by decide +kernel
theorem dX5_valueAt_4 : decode cX5_valueAt 4 = .ok (.invokevirtual 37, 3) := by decide +kernel
theorem dX5_valueAt_7 : decode cX5_valueAt 7 = .ok (.ifCond .ne 20, 3) := by decide +kernel
theorem dX5_valueAt_10 : decode cX5_valueAt 10 = .ok (.iload_n 2, 1) := by decide +kernel
theorem dX5_valueAt_11 : decode cX5_valueAt 11 = .ok (.bipush 40, 2) := by decide +kernel
theorem dX5_valueAt_13 : decode cX5_valueAt 13 = .ok (.if_icmp .ge 14, 3) := by decide +kernel
theorem dX5_valueAt_16 : decode cX5_valueAt 16 = .ok (.aload_n 0, 1) := by decide +kernel
theorem dX5_valueAt_17 : decode cX5_valueAt 17 = .ok (.getfield 11, 3) := by decide +kernel
theorem dX5_valueAt_20 : decode cX5_valueAt 20 = .ok (.iload_n 1, 1) := by decide +kernel
theorem dX5_valueAt_21 : decode cX5_valueAt 21 = .ok (.aaload, 1) := by decide +kernel
theorem dX5_valueAt_22 : decode cX5_valueAt 22 = .ok (.iload_n 2, 1) := by decide +kernel
theorem dX5_valueAt_23 : decode cX5_valueAt 23 = .ok (.iaload, 1) := by decide +kernel
theorem dX5_valueAt_24 : decode cX5_valueAt 24 = .ok (.goto 4, 3) := by decide +kernel
theorem dX5_valueAt_27 : decode cX5_valueAt 27 = .ok (.iconst 0, 1) := by decide +kernel
theorem dX5_valueAt_28 : decode cX5_valueAt 28 = .ok (.ireturn, 1) := by decide +kernel
theorem dX6_init_0 : decode cX6_init 0 = .ok (.aload_n 0, 1) := by decide +kernel
theorem dX6_init_1 : decode cX6_init 1 = .ok (.invokespecial 3, 3) := by decide +kernel
theorem dX6_init_4 : decode cX6_init 4 = .ok (.aload_n 0, 1) := by decide +kernel
theorem dX6_init_5 : decode cX6_init 5 = .ok (.iconst 0, 1) := by decide +kernel
theorem dX6_init_6 : decode cX6_init 6 = .ok (.putfield 9, 3) := by decide +kernel
theorem dX6_init_9 : decode cX6_init 9 = .ok (.aload_n 0, 1) := by decide +kernel
theorem dX6_init_10 : decode cX6_init 10 = .ok (.iconst 4, 1) := by decide +kernel
theorem dX6_init_11 : decode cX6_init 11 = .ok (.putfield 15, 3) := by decide +kernel
theorem dX6_init_14 : decode cX6_init 14 = .ok (.aload_n 0, 1) := by decide +kernel
theorem dX6_init_15 : decode cX6_init 15 = .ok (.iconst 0, 1) := by decide +kernel
theorem dX6_init_16 : decode cX6_init 16 = .ok (.putfield 18, 3) := by decide +kernel
theorem dX6_init_19 : decode cX6_init 19 = .ok (.aload_n 0, 1) := by decide +kernel
theorem dX6_init_20 : decode cX6_init 20 = .ok (.iconst 0, 1) := by decide +kernel
theorem dX6_init_21 : decode cX6_init 21 = .ok (.putfield 21, 3) := by decide +kernel
theorem dX6_init_24 : decode cX6_init 24 = .ok (.aload_n 0, 1) := by decide +kernel
theorem dX6_init_25 : decode cX6_init 25 = .ok (.iconst 0, 1) := by decide +kernel
theorem dX6_init_26 : decode cX6_init 26 = .ok (.putfield 24, 3) := by decide +kernel
theorem dX6_init_29 : decode cX6_init 29 = .ok (.aload_n 0, 1) := by decide +kernel
theorem dX6_init_30 : decode cX6_init 30 = .ok (.iconst 0, 1) := by decide +kernel
theorem dX6_init_31 : decode cX6_init 31 = .ok (.putfield 27, 3) := by decide +kernel
theorem dX6_init_34 : decode cX6_init 34 = .ok (.aload_n 0, 1) := by decide +kernel
theorem dX6_init_35 : decode cX6_init 35 = .ok (.iconst 0, 1) := by decide +kernel
theorem dX6_init_36 : decode cX6_init 36 = .ok (.putfield 30, 3) := by decide +kernel
theorem dX6_init_39 : decode cX6_init 39 = .ok (.aload_n 0, 1) := by decide +kernel
theorem dX6_init_40 : decode cX6_init 40 = .ok (.sipush 320, 3) := by decide +kernel
theorem dX6_init_43 : decode cX6_init 43 = .ok (.newarray .byte, 2) := by decide +kernel
theorem dX6_init_45 : decode cX6_init 45 = .ok (.putfield 33, 3) := by decide +kernel
theorem dX6_init_48 : decode cX6_init 48 = .ok (.return_, 1) := by decide +kernel
theorem dX6_append_0 : decode cX6_append 0 = .ok (.aload_n 0, 1) := by decide +kernel
theorem dX6_append_1 : decode cX6_append 1 = .ok (.getfield 9, 3) := by decide +kernel
theorem dX6_append_4 : decode cX6_append 4 = .ok (.ifCond .lt 13, 3) := by decide +kernel
theorem dX6_append_7 : decode cX6_append 7 = .ok (.aload_n 0, 1) := by decide +kernel
theorem dX6_append_8 : decode cX6_append 8 = .ok (.getfield 9, 3) := by decide +kernel
theorem dX6_append_11 : decode cX6_append 11 = .ok (.sipush 312, 3) := by decide +kernel
theorem dX6_append_14 : decode cX6_append 14 = .ok (.if_icmp .le 6, 3) := by decide +kernel
theorem dX6_append_17 : decode cX6_append 17 = .ok (.bipush (-3), 2) := by decide +kernel
theorem dX6_append_19 : decode cX6_append 19 = .ok (.ireturn, 1) := by decide +kernel
theorem dX6_append_20 : decode cX6_append 20 = .ok (.iconst 0, 1) := by decide +kernel
theorem dX6_append_21 : decode cX6_append 21 = .ok (.istore_n 3, 1) := by decide +kernel
theorem dX6_append_22 : decode cX6_append 22 = .ok (.iload_n 3, 1) := by decide +kernel
theorem dX6_append_23 : decode cX6_append 23 = .ok (.bipush 8, 2) := by decide +kernel
theorem dX6_append_25 : decode cX6_append 25 = .ok (.if_icmp .ge 31, 3) := by decide +kernel
theorem dX6_append_28 : decode cX6_append 28 = .ok (.aload_n 0, 1) := by decide +kernel
theorem dX6_append_29 : decode cX6_append 29 = .ok (.getfield 33, 3) := by decide +kernel
theorem dX6_append_32 : decode cX6_append 32 = .ok (.aload_n 0, 1) := by decide +kernel
theorem dX6_append_33 : decode cX6_append 33 = .ok (.getfield 9, 3) := by decide +kernel
theorem dX6_append_36 : decode cX6_append 36 = .ok (.iload_n 3, 1) := by decide +kernel
theorem dX6_append_37 : decode cX6_append 37 = .ok (.iadd, 1) := by decide +kernel
theorem dX6_append_38 : decode cX6_append 38 = .ok (.lload_n 1, 1) := by decide +kernel
theorem dX6_append_39 : decode cX6_append 39 = .ok (.bipush 56, 2) := by decide +kernel
theorem dX6_append_41 : decode cX6_append 41 = .ok (.bipush 8, 2) := by decide +kernel
theorem dX6_append_43 : decode cX6_append 43 = .ok (.iload_n 3, 1) := by decide +kernel
theorem dX6_append_44 : decode cX6_append 44 = .ok (.imul, 1) := by decide +kernel
theorem dX6_append_45 : decode cX6_append 45 = .ok (.isub, 1) := by decide +kernel
theorem dX6_append_46 : decode cX6_append 46 = .ok (.lshr, 1) := by decide +kernel
theorem dX6_append_47 : decode cX6_append 47 = .ok (.l2i, 1) := by decide +kernel
theorem dX6_append_48 : decode cX6_append 48 = .ok (.i2b, 1) := by decide +kernel
theorem dX6_append_49 : decode cX6_append 49 = .ok (.bastore, 1) := by decide +kernel
theorem dX6_append_50 : decode cX6_append 50 = .ok (.iinc 3 1, 3) := by decide +kernel
theorem dX6_append_53 : decode cX6_append 53 = .ok (.goto (-31), 3) := by decide +kernel
theorem dX6_append_56 : decode cX6_append 56 = .ok (.aload_n 0, 1) := by decide +kernel
theorem dX6_append_57 : decode cX6_append 57 = .ok (.dup, 1) := by decide +kernel
theorem dX6_append_58 : decode cX6_append 58 = .ok (.getfield 9, 3) := by decide +kernel
theorem dX6_append_61 : decode cX6_append 61 = .ok (.bipush 8, 2) := by decide +kernel
theorem dX6_append_63 : decode cX6_append 63 = .ok (.iadd, 1) := by decide +kernel
theorem dX6_append_64 : decode cX6_append 64 = .ok (.putfield 9, 3) := by decide +kernel
theorem dX6_append_67 : decode cX6_append 67 = .ok (.aload_n 0, 1) := by decide +kernel
theorem dX6_append_68 : decode cX6_append 68 = .ok (.getfield 9, 3) := by decide +kernel
theorem dX6_append_71 : decode cX6_append 71 = .ok (.ireturn, 1) := by decide +kernel
theorem dX6_rewind_0 : decode cX6_rewind 0 = .ok (.aload_n 0, 1) := by decide +kernel
theorem dX6_rewind_1 : decode cX6_rewind 1 = .ok (.iconst 0, 1) := by decide +kernel
theorem dX6_rewind_2 : decode cX6_rewind 2 = .ok (.putfield 30, 3) := by decide +kernel
theorem dX6_rewind_5 : decode cX6_rewind 5 = .ok (.aload_n 0, 1) := by decide +kernel
theorem dX6_rewind_6 : decode cX6_rewind 6 = .ok (.iconst 0, 1) := by decide +kernel
theorem dX6_rewind_7 : decode cX6_rewind 7 = .ok (.putfield 24, 3) := by decide +kernel
theorem dX6_rewind_10 : decode cX6_rewind 10 = .ok (.return_, 1) := by decide +kernel
theorem dX6_fail_0 : decode cX6_fail 0 = .ok (.aload_n 0, 1) := by decide +kernel
theorem dX6_fail_1 : decode cX6_fail 1 = .ok (.getfield 24, 3) := by decide +kernel
theorem dX6_fail_4 : decode cX6_fail 4 = .ok (.ifCond .ne 13, 3) := by decide +kernel
theorem dX6_fail_7 : decode cX6_fail 7 = .ok (.aload_n 0, 1) := by decide +kernel
theorem dX6_fail_8 : decode cX6_fail 8 = .ok (.iload_n 1, 1) := by decide +kernel
theorem dX6_fail_9 : decode cX6_fail 9 = .ok (.putfield 24, 3) := by decide +kernel
theorem dX6_fail_12 : decode cX6_fail 12 = .ok (.aload_n 0, 1) := by decide +kernel
theorem dX6_fail_13 : decode cX6_fail 13 = .ok (.iload_n 2, 1) := by decide +kernel
theorem dX6_fail_14 : decode cX6_fail 14 = .ok (.putfield 27, 3) := by decide +kernel
theorem dX6_fail_17 : decode cX6_fail 17 = .ok (.return_, 1) := by decide +kernel
theorem dX6_nextToken_0 : decode cX6_nextToken 0 = .ok (.aload_n 0, 1) := by decide +kernel
theorem dX6_nextToken_1 : decode cX6_nextToken 1 = .ok (.getfield 24, 3) := by decide +kernel
theorem dX6_nextToken_4 : decode cX6_nextToken 4 = .ok (.ifCond .eq 4, 3) := by decide +kernel
theorem dX6_nextToken_7 : decode cX6_nextToken 7 = .ok (.return_, 1) := by decide +kernel
theorem dX6_nextToken_8 : decode cX6_nextToken 8 = .ok (.aload_n 0, 1) := by decide +kernel
theorem dX6_nextToken_9 : decode cX6_nextToken 9 = .ok (.getfield 30, 3) := by decide +kernel
theorem dX6_nextToken_12 : decode cX6_nextToken 12 = .ok (.aload_n 0, 1) := by decide +kernel
theorem dX6_nextToken_13 : decode cX6_nextToken 13 = .ok (.getfield 9, 3) := by decide +kernel
theorem dX6_nextToken_16 : decode cX6_nextToken 16 = .ok (.if_icmp .ge 40, 3) := by decide +kernel
theorem dX6_nextToken_19 : decode cX6_nextToken 19 = .ok (.aload_n 0, 1) := by decide +kernel
theorem dX6_nextToken_20 : decode cX6_nextToken 20 = .ok (.getfield 30, 3) := by decide +kernel
theorem dX6_nextToken_23 : decode cX6_nextToken 23 = .ok (.sipush 320, 3) := by decide +kernel
theorem dX6_nextToken_26 : decode cX6_nextToken 26 = .ok (.if_icmp .ge 30, 3) := by decide +kernel
theorem dX6_nextToken_29 : decode cX6_nextToken 29 = .ok (.aload_n 0, 1) := by decide +kernel
theorem dX6_nextToken_30 : decode cX6_nextToken 30 = .ok (.getfield 33, 3) := by decide +kernel
theorem dX6_nextToken_33 : decode cX6_nextToken 33 = .ok (.aload_n 0, 1) := by decide +kernel
theorem dX6_nextToken_34 : decode cX6_nextToken 34 = .ok (.getfield 30, 3) := by decide +kernel
theorem dX6_nextToken_37 : decode cX6_nextToken 37 = .ok (.baload, 1) := by decide +kernel
theorem dX6_nextToken_38 : decode cX6_nextToken 38 = .ok (.bipush 32, 2) := by decide +kernel
theorem dX6_nextToken_40 : decode cX6_nextToken 40 = .ok (.if_icmp .ne 16, 3) := by decide +kernel
theorem dX6_nextToken_43 : decode cX6_nextToken 43 = .ok (.aload_n 0, 1) := by decide +kernel
theorem dX6_nextToken_44 : decode cX6_nextToken 44 = .ok (.dup, 1) := by decide +kernel
theorem dX6_nextToken_45 : decode cX6_nextToken 45 = .ok (.getfield 30, 3) := by decide +kernel
theorem dX6_nextToken_48 : decode cX6_nextToken 48 = .ok (.iconst 1, 1) := by decide +kernel
theorem dX6_nextToken_49 : decode cX6_nextToken 49 = .ok (.iadd, 1) := by decide +kernel
theorem dX6_nextToken_50 : decode cX6_nextToken 50 = .ok (.putfield 30, 3) := by decide +kernel
theorem dX6_nextToken_53 : decode cX6_nextToken 53 = .ok (.goto (-45), 3) := by decide +kernel
theorem dX6_nextToken_56 : decode cX6_nextToken 56 = .ok (.aload_n 0, 1) := by decide +kernel
theorem dX6_nextToken_57 : decode cX6_nextToken 57 = .ok (.aload_n 0, 1) := by decide +kernel
theorem dX6_nextToken_58 : decode cX6_nextToken 58 = .ok (.getfield 30, 3) := by decide +kernel
theorem dX6_nextToken_61 : decode cX6_nextToken 61 = .ok (.putfield 18, 3) := by decide +kernel
theorem dX6_nextToken_64 : decode cX6_nextToken 64 = .ok (.aload_n 0, 1) := by decide +kernel
theorem dX6_nextToken_65 : decode cX6_nextToken 65 = .ok (.aload_n 0, 1) := by decide +kernel
theorem dX6_nextToken_66 : decode cX6_nextToken 66 = .ok (.getfield 30, 3) := by decide +kernel
theorem dX6_nextToken_69 : decode cX6_nextToken 69 = .ok (.aload_n 0, 1) := by decide +kernel
theorem dX6_nextToken_70 : decode cX6_nextToken 70 = .ok (.getfield 9, 3) := by decide +kernel
theorem dX6_nextToken_73 : decode cX6_nextToken 73 = .ok (.if_icmp .ge 28, 3) := by decide +kernel
theorem dX6_nextToken_76 : decode cX6_nextToken 76 = .ok (.aload_n 0, 1) := by decide +kernel
theorem dX6_nextToken_77 : decode cX6_nextToken 77 = .ok (.getfield 30, 3) := by decide +kernel
theorem dX6_nextToken_80 : decode cX6_nextToken 80 = .ok (.sipush 320, 3) := by decide +kernel
theorem dX6_nextToken_83 : decode cX6_nextToken 83 = .ok (.if_icmp .ge 18, 3) := by decide +kernel
theorem dX6_nextToken_86 : decode cX6_nextToken 86 = .ok (.aload_n 0, 1) := by decide +kernel
theorem dX6_nextToken_87 : decode cX6_nextToken 87 = .ok (.getfield 33, 3) := by decide +kernel
theorem dX6_nextToken_90 : decode cX6_nextToken 90 = .ok (.aload_n 0, 1) := by decide +kernel
theorem dX6_nextToken_91 : decode cX6_nextToken 91 = .ok (.getfield 30, 3) := by decide +kernel
theorem dX6_nextToken_94 : decode cX6_nextToken 94 = .ok (.baload, 1) := by decide +kernel
theorem dX6_nextToken_95 : decode cX6_nextToken 95 = .ok (.invokestatic 37, 3) := by decide +kernel
theorem dX6_nextToken_98 : decode cX6_nextToken 98 = .ok (.goto 4, 3) := by decide +kernel
theorem dX6_nextToken_101 : decode cX6_nextToken 101 = .ok (.iconst 4, 1) := by decide +kernel
theorem dX6_nextToken_102 : decode cX6_nextToken 102 = .ok (.putfield 15, 3) := by decide +kernel
theorem dX6_nextToken_105 : decode cX6_nextToken 105 = .ok (.aload_n 0, 1) := by decide +kernel
theorem dX6_nextToken_106 : decode cX6_nextToken 106 = .ok (.iconst 0, 1) := by decide +kernel
theorem dX6_nextToken_107 : decode cX6_nextToken 107 = .ok (.putfield 21, 3) := by decide +kernel
theorem dX6_nextToken_110 : decode cX6_nextToken 110 = .ok (.aload_n 0, 1) := by decide +kernel
theorem dX6_nextToken_111 : decode cX6_nextToken 111 = .ok (.getfield 15, 3) := by decide +kernel
theorem dX6_nextToken_114 : decode cX6_nextToken 114 = .ok (.iconst 1, 1) := by decide +kernel
theorem dX6_nextToken_115 : decode cX6_nextToken 115 = .ok (.if_icmp .eq 11, 3) := by decide +kernel
theorem dX6_nextToken_118 : decode cX6_nextToken 118 = .ok (.aload_n 0, 1) := by decide +kernel
theorem dX6_nextToken_119 : decode cX6_nextToken 119 = .ok (.getfield 15, 3) := by decide +kernel
theorem dX6_nextToken_122 : decode cX6_nextToken 122 = .ok (.iconst 2, 1) := by decide +kernel
theorem dX6_nextToken_123 : decode cX6_nextToken 123 = .ok (.if_icmp .ne 7, 3) := by decide +kernel
theorem dX6_nextToken_126 : decode cX6_nextToken 126 = .ok (.iconst 1, 1) := by decide +kernel
theorem dX6_nextToken_127 : decode cX6_nextToken 127 = .ok (.goto 4, 3) := by decide +kernel
theorem dX6_nextToken_130 : decode cX6_nextToken 130 = .ok (.iconst 0, 1) := by decide +kernel
theorem dX6_nextToken_131 : decode cX6_nextToken 131 = .ok (.istore_n 1, 1) := by decide +kernel
theorem dX6_nextToken_132 : decode cX6_nextToken 132 = .ok (.iload_n 1, 1) := by decide +kernel
theorem dX6_nextToken_133 : decode cX6_nextToken 133 = .ok (.ifCond .eq 80, 3) := by decide +kernel
theorem dX6_nextToken_136 : decode cX6_nextToken 136 = .ok (.aload_n 0, 1) := by decide +kernel
theorem dX6_nextToken_137 : decode cX6_nextToken 137 = .ok (.getfield 30, 3) := by decide +kernel
theorem dX6_nextToken_140 : decode cX6_nextToken 140 = .ok (.aload_n 0, 1) := by decide +kernel
theorem dX6_nextToken_141 : decode cX6_nextToken 141 = .ok (.getfield 9, 3) := by decide +kernel
theorem dX6_nextToken_144 : decode cX6_nextToken 144 = .ok (.if_icmp .ge 69, 3) := by decide +kernel
theorem dX6_nextToken_147 : decode cX6_nextToken 147 = .ok (.aload_n 0, 1) := by decide +kernel
theorem dX6_nextToken_148 : decode cX6_nextToken 148 = .ok (.getfield 30, 3) := by decide +kernel
theorem dX6_nextToken_151 : decode cX6_nextToken 151 = .ok (.sipush 320, 3) := by decide +kernel
theorem dX6_nextToken_154 : decode cX6_nextToken 154 = .ok (.if_icmp .ge 59, 3) := by decide +kernel
theorem dX6_nextToken_157 : decode cX6_nextToken 157 = .ok (.aload_n 0, 1) := by decide +kernel
theorem dX6_nextToken_158 : decode cX6_nextToken 158 = .ok (.getfield 33, 3) := by decide +kernel
theorem dX6_nextToken_161 : decode cX6_nextToken 161 = .ok (.aload_n 0, 1) := by decide +kernel
theorem dX6_nextToken_162 : decode cX6_nextToken 162 = .ok (.getfield 30, 3) := by decide +kernel
theorem dX6_nextToken_165 : decode cX6_nextToken 165 = .ok (.baload, 1) := by decide +kernel
theorem dX6_nextToken_166 : decode cX6_nextToken 166 = .ok (.invokestatic 37, 3) := by decide +kernel
theorem dX6_nextToken_169 : decode cX6_nextToken 169 = .ok (.aload_n 0, 1) := by decide +kernel
theorem dX6_nextToken_170 : decode cX6_nextToken 170 = .ok (.getfield 15, 3) := by decide +kernel
theorem dX6_nextToken_173 : decode cX6_nextToken 173 = .ok (.if_icmp .ne 40, 3) := by decide +kernel
theorem dX6_nextToken_176 : decode cX6_nextToken 176 = .ok (.aload_n 0, 1) := by decide +kernel
theorem dX6_nextToken_177 : decode cX6_nextToken 177 = .ok (.bipush 10, 2) := by decide +kernel
theorem dX6_nextToken_179 : decode cX6_nextToken 179 = .ok (.aload_n 0, 1) := by decide +kernel
theorem dX6_nextToken_180 : decode cX6_nextToken 180 = .ok (.getfield 21, 3) := by decide +kernel
theorem dX6_nextToken_183 : decode cX6_nextToken 183 = .ok (.imul, 1) := by decide +kernel
theorem dX6_nextToken_184 : decode cX6_nextToken 184 = .ok (.aload_n 0, 1) := by decide +kernel
theorem dX6_nextToken_185 : decode cX6_nextToken 185 = .ok (.getfield 33, 3) := by decide +kernel
theorem dX6_nextToken_188 : decode cX6_nextToken 188 = .ok (.aload_n 0, 1) := by decide +kernel
theorem dX6_nextToken_189 : decode cX6_nextToken 189 = .ok (.getfield 30, 3) := by decide +kernel
theorem dX6_nextToken_192 : decode cX6_nextToken 192 = .ok (.baload, 1) := by decide +kernel
theorem dX6_nextToken_193 : decode cX6_nextToken 193 = .ok (.iadd, 1) := by decide +kernel
theorem dX6_nextToken_194 : decode cX6_nextToken 194 = .ok (.bipush 48, 2) := by decide +kernel
theorem dX6_nextToken_196 : decode cX6_nextToken 196 = .ok (.isub, 1) := by decide +kernel
theorem dX6_nextToken_197 : decode cX6_nextToken 197 = .ok (.putfield 21, 3) := by decide +kernel
theorem dX6_nextToken_200 : decode cX6_nextToken 200 = .ok (.aload_n 0, 1) := by decide +kernel
theorem dX6_nextToken_201 : decode cX6_nextToken 201 = .ok (.dup, 1) := by decide +kernel
theorem dX6_nextToken_202 : decode cX6_nextToken 202 = .ok (.getfield 30, 3) := by decide +kernel
theorem dX6_nextToken_205 : decode cX6_nextToken 205 = .ok (.iconst 1, 1) := by decide +kernel
theorem dX6_nextToken_206 : decode cX6_nextToken 206 = .ok (.iadd, 1) := by decide +kernel
theorem dX6_nextToken_207 : decode cX6_nextToken 207 = .ok (.putfield 30, 3) := by decide +kernel
theorem dX6_nextToken_210 : decode cX6_nextToken 210 = .ok (.goto (-78), 3) := by decide +kernel
theorem dX6_nextToken_213 : decode cX6_nextToken 213 = .ok (.aload_n 0, 1) := by decide +kernel
theorem dX6_nextToken_214 : decode cX6_nextToken 214 = .ok (.getfield 15, 3) := by decide +kernel
theorem dX6_nextToken_217 : decode cX6_nextToken 217 = .ok (.iconst 3, 1) := by decide +kernel
theorem dX6_nextToken_218 : decode cX6_nextToken 218 = .ok (.if_icmp .ne 13, 3) := by decide +kernel
theorem dX6_nextToken_221 : decode cX6_nextToken 221 = .ok (.aload_n 0, 1) := by decide +kernel
theorem dX6_nextToken_222 : decode cX6_nextToken 222 = .ok (.dup, 1) := by decide +kernel
theorem dX6_nextToken_223 : decode cX6_nextToken 223 = .ok (.getfield 30, 3) := by decide +kernel
theorem dX6_nextToken_226 : decode cX6_nextToken 226 = .ok (.iconst 1, 1) := by decide +kernel
theorem dX6_nextToken_227 : decode cX6_nextToken 227 = .ok (.iadd, 1) := by decide +kernel
theorem dX6_nextToken_228 : decode cX6_nextToken 228 = .ok (.putfield 30, 3) := by decide +kernel
theorem dX6_nextToken_231 : decode cX6_nextToken 231 = .ok (.aload_n 0, 1) := by decide +kernel
theorem dX6_nextToken_232 : decode cX6_nextToken 232 = .ok (.getfield 15, 3) := by decide +kernel
theorem dX6_nextToken_235 : decode cX6_nextToken 235 = .ok (.ifCond .eq 24, 3) := by decide +kernel
theorem dX6_nextToken_238 : decode cX6_nextToken 238 = .ok (.aload_n 0, 1) := by decide +kernel
theorem dX6_nextToken_239 : decode cX6_nextToken 239 = .ok (.getfield 15, 3) := by decide +kernel
theorem dX6_nextToken_242 : decode cX6_nextToken 242 = .ok (.iconst 2, 1) := by decide +kernel
theorem dX6_nextToken_243 : decode cX6_nextToken 243 = .ok (.if_icmp .ne 25, 3) := by decide +kernel
theorem dX6_nextToken_246 : decode cX6_nextToken 246 = .ok (.aload_n 0, 1) := by decide +kernel
theorem dX6_nextToken_247 : decode cX6_nextToken 247 = .ok (.getfield 30, 3) := by decide +kernel
theorem dX6_nextToken_250 : decode cX6_nextToken 250 = .ok (.aload_n 0, 1) := by decide +kernel
theorem dX6_nextToken_251 : decode cX6_nextToken 251 = .ok (.getfield 18, 3) := by decide +kernel
theorem dX6_nextToken_254 : decode cX6_nextToken 254 = .ok (.isub, 1) := by decide +kernel
theorem dX6_nextToken_255 : decode cX6_nextToken 255 = .ok (.iconst 3, 1) := by decide +kernel
theorem dX6_nextToken_256 : decode cX6_nextToken 256 = .ok (.if_icmp .le 12, 3) := by decide +kernel
theorem dX6_nextToken_259 : decode cX6_nextToken 259 = .ok (.aload_n 0, 1) := by decide +kernel
theorem dX6_nextToken_260 : decode cX6_nextToken 260 = .ok (.iconst 1, 1) := by decide +kernel
theorem dX6_nextToken_261 : decode cX6_nextToken 261 = .ok (.aload_n 0, 1) := by decide +kernel
theorem dX6_nextToken_262 : decode cX6_nextToken 262 = .ok (.getfield 18, 3) := by decide +kernel
theorem dX6_nextToken_265 : decode cX6_nextToken 265 = .ok (.invokevirtual 43, 3) := by decide +kernel
theorem dX6_nextToken_268 : decode cX6_nextToken 268 = .ok (.return_, 1) := by decide +kernel
theorem dX6_isName_0 : decode cX6_isName 0 = .ok (.aload_n 0, 1) := by decide +kernel
theorem dX6_isName_1 : decode cX6_isName 1 = .ok (.getfield 15, 3) := by decide +kernel
theorem dX6_isName_4 : decode cX6_isName 4 = .ok (.iconst 1, 1) := by decide +kernel
theorem dX6_isName_5 : decode cX6_isName 5 = .ok (.if_icmp .ne 19, 3) := by decide +kernel
theorem dX6_isName_8 : decode cX6_isName 8 = .ok (.aload_n 0, 1) := by decide +kernel
theorem dX6_isName_9 : decode cX6_isName 9 = .ok (.getfield 30, 3) := by decide +kernel
theorem dX6_isName_12 : decode cX6_isName 12 = .ok (.aload_n 0, 1) := by decide +kernel
theorem dX6_isName_13 : decode cX6_isName 13 = .ok (.getfield 18, 3) := by decide +kernel
theorem dX6_isName_16 : decode cX6_isName 16 = .ok (.isub, 1) := by decide +kernel
theorem dX6_isName_17 : decode cX6_isName 17 = .ok (.aload_n 1, 1) := by decide +kernel
theorem dX6_isName_18 : decode cX6_isName 18 = .ok (.invokevirtual 47, 3) := by decide +kernel
theorem dX6_isName_21 : decode cX6_isName 21 = .ok (.if_icmp .eq 5, 3) := by decide +kernel
theorem dX6_isName_24 : decode cX6_isName 24 = .ok (.iconst 0, 1) := by decide +kernel
theorem dX6_isName_25 : decode cX6_isName 25 = .ok (.ireturn, 1) := by decide +kernel
theorem dX6_isName_26 : decode cX6_isName 26 = .ok (.iconst 0, 1) := by decide +kernel
theorem dX6_isName_27 : decode cX6_isName 27 = .ok (.istore_n 2, 1) := by decide +kernel
theorem dX6_isName_28 : decode cX6_isName 28 = .ok (.iload_n 2, 1) := by decide +kernel
theorem dX6_isName_29 : decode cX6_isName 29 = .ok (.aload_n 1, 1) := by decide +kernel
theorem dX6_isName_30 : decode cX6_isName 30 = .ok (.invokevirtual 47, 3) := by decide +kernel
theorem dX6_isName_33 : decode cX6_isName 33 = .ok (.if_icmp .ge 42, 3) := by decide +kernel
theorem dX6_isName_36 : decode cX6_isName 36 = .ok (.aload_n 0, 1) := by decide +kernel
theorem dX6_isName_37 : decode cX6_isName 37 = .ok (.getfield 18, 3) := by decide +kernel
theorem dX6_isName_40 : decode cX6_isName 40 = .ok (.iload_n 2, 1) := by decide +kernel
theorem dX6_isName_41 : decode cX6_isName 41 = .ok (.iadd, 1) := by decide +kernel
theorem dX6_isName_42 : decode cX6_isName 42 = .ok (.sipush 320, 3) := by decide +kernel
theorem dX6_isName_45 : decode cX6_isName 45 = .ok (.if_icmp .ge 30, 3) := by decide +kernel
theorem dX6_isName_48 : decode cX6_isName 48 = .ok (.aload_n 0, 1) := by decide +kernel
theorem dX6_isName_49 : decode cX6_isName 49 = .ok (.getfield 33, 3) := by decide +kernel
theorem dX6_isName_52 : decode cX6_isName 52 = .ok (.aload_n 0, 1) := by decide +kernel
theorem dX6_isName_53 : decode cX6_isName 53 = .ok (.getfield 18, 3) := by decide +kernel
theorem dX6_isName_56 : decode cX6_isName 56 = .ok (.iload_n 2, 1) := by decide +kernel
theorem dX6_isName_57 : decode cX6_isName 57 = .ok (.iadd, 1) := by decide +kernel
theorem dX6_isName_58 : decode cX6_isName 58 = .ok (.baload, 1) := by decide +kernel
theorem dX6_isName_59 : decode cX6_isName 59 = .ok (.aload_n 1, 1) := by decide +kernel
theorem dX6_isName_60 : decode cX6_isName 60 = .ok (.iload_n 2, 1) := by decide +kernel
theorem dX6_isName_61 : decode cX6_isName 61 = .ok (.invokevirtual 52, 3) := by decide +kernel
theorem dX6_isName_64 : decode cX6_isName 64 = .ok (.if_icmp .eq 5, 3) := by decide +kernel
theorem dX6_isName_67 : decode cX6_isName 67 = .ok (.iconst 0, 1) := by decide +kernel
theorem dX6_isName_68 : decode cX6_isName 68 = .ok (.ireturn, 1) := by decide +kernel
theorem dX6_isName_69 : decode cX6_isName 69 = .ok (.iinc 2 1, 3) := by decide +kernel
theorem dX6_isName_72 : decode cX6_isName 72 = .ok (.goto (-44), 3) := by decide +kernel
theorem dX6_isName_75 : decode cX6_isName 75 = .ok (.iconst 1, 1) := by decide +kernel
theorem dX6_isName_76 : decode cX6_isName 76 = .ok (.ireturn, 1) := by decide +kernel
theorem dX6_tokenOf_0 : decode cX6_tokenOf 0 = .ok (.iload_n 0, 1) := by decide +kernel
theorem dX6_tokenOf_1 : decode cX6_tokenOf 1 = .ok (.bipush 97, 2) := by decide +kernel
theorem dX6_tokenOf_3 : decode cX6_tokenOf 3 = .ok (.if_icmp .lt 11, 3) := by decide +kernel
theorem dX6_tokenOf_6 : decode cX6_tokenOf 6 = .ok (.iload_n 0, 1) := by decide +kernel
theorem dX6_tokenOf_7 : decode cX6_tokenOf 7 = .ok (.bipush 122, 2) := by decide +kernel
theorem dX6_tokenOf_9 : decode cX6_tokenOf 9 = .ok (.if_icmp .gt 5, 3) := by decide +kernel
theorem dX6_tokenOf_12 : decode cX6_tokenOf 12 = .ok (.iconst 1, 1) := by decide +kernel
theorem dX6_tokenOf_13 : decode cX6_tokenOf 13 = .ok (.ireturn, 1) := by decide +kernel
theorem dX6_tokenOf_14 : decode cX6_tokenOf 14 = .ok (.iload_n 0, 1) := by decide +kernel
theorem dX6_tokenOf_15 : decode cX6_tokenOf 15 = .ok (.bipush 48, 2) := by decide +kernel
theorem dX6_tokenOf_17 : decode cX6_tokenOf 17 = .ok (.if_icmp .lt 11, 3) := by decide +kernel
theorem dX6_tokenOf_20 : decode cX6_tokenOf 20 = .ok (.iload_n 0, 1) := by decide +kernel
theorem dX6_tokenOf_21 : decode cX6_tokenOf 21 = .ok (.bipush 57, 2) := by decide +kernel
theorem dX6_tokenOf_23 : decode cX6_tokenOf 23 = .ok (.if_icmp .gt 5, 3) := by decide +kernel
theorem dX6_tokenOf_26 : decode cX6_tokenOf 26 = .ok (.iconst 2, 1) := by decide +kernel
theorem dX6_tokenOf_27 : decode cX6_tokenOf 27 = .ok (.ireturn, 1) := by decide +kernel
theorem dX6_tokenOf_28 : decode cX6_tokenOf 28 = .ok (.iload_n 0, 1) := by decide +kernel
theorem dX6_tokenOf_29 : decode cX6_tokenOf 29 = .ok (.bipush 59, 2) := by decide +kernel
theorem dX6_tokenOf_31 : decode cX6_tokenOf 31 = .ok (.if_icmp .ne 7, 3) := by decide +kernel
theorem dX6_tokenOf_34 : decode cX6_tokenOf 34 = .ok (.iconst 3, 1) := by decide +kernel
theorem dX6_tokenOf_35 : decode cX6_tokenOf 35 = .ok (.goto 4, 3) := by decide +kernel
theorem dX6_tokenOf_38 : decode cX6_tokenOf 38 = .ok (.iconst 0, 1) := by decide +kernel
theorem dX6_tokenOf_39 : decode cX6_tokenOf 39 = .ok (.ireturn, 1) := by decide +kernel
theorem dX7_init_0 : decode cX7_init 0 = .ok (.aload_n 0, 1) := by decide +kernel
theorem dX7_init_1 : decode cX7_init 1 = .ok (.invokespecial 3, 3) := by decide +kernel
theorem dX7_init_4 : decode cX7_init 4 = .ok (.aload_n 0, 1) := by decide +kernel
theorem dX7_init_5 : decode cX7_init 5 = .ok (.new 9, 3) := by decide +kernel
theorem dX7_init_8 : decode cX7_init 8 = .ok (.dup, 1) := by decide +kernel
theorem dX7_init_9 : decode cX7_init 9 = .ok (.invokespecial 11, 3) := by decide +kernel
theorem dX7_init_12 : decode cX7_init 12 = .ok (.putfield 12, 3) := by decide +kernel
theorem dX7_init_15 : decode cX7_init 15 = .ok (.aload_n 0, 1) := by decide +kernel
theorem dX7_init_16 : decode cX7_init 16 = .ok (.new 18, 3) := by decide +kernel
theorem dX7_init_19 : decode cX7_init 19 = .ok (.dup, 1) := by decide +kernel
theorem dX7_init_20 : decode cX7_init 20 = .ok (.invokespecial 20, 3) := by decide +kernel
theorem dX7_init_23 : decode cX7_init 23 = .ok (.putfield 21, 3) := by decide +kernel
theorem dX7_init_26 : decode cX7_init 26 = .ok (.aload_n 0, 1) := by decide +kernel
theorem dX7_init_27 : decode cX7_init 27 = .ok (.iconst 0, 1) := by decide +kernel
theorem dX7_init_28 : decode cX7_init 28 = .ok (.putfield 25, 3) := by decide +kernel
theorem dX7_init_31 : decode cX7_init 31 = .ok (.aload_n 0, 1) := by decide +kernel
theorem dX7_init_32 : decode cX7_init 32 = .ok (.iconst (-1), 1) := by decide +kernel
theorem dX7_init_33 : decode cX7_init 33 = .ok (.putfield 29, 3) := by decide +kernel
theorem dX7_init_36 : decode cX7_init 36 = .ok (.return_, 1) := by decide +kernel
theorem dX7_readLines_0 : decode cX7_readLines 0 = .ok (.aload_n 0, 1) := by decide +kernel
theorem dX7_readLines_1 : decode cX7_readLines 1 = .ok (.getfield 12, 3) := by decide +kernel
theorem dX7_readLines_4 : decode cX7_readLines 4 = .ok (.invokevirtual 32, 3) := by decide +kernel
theorem dX7_readLines_7 : decode cX7_readLines 7 = .ok (.aload_n 0, 1) := by decide +kernel
theorem dX7_readLines_8 : decode cX7_readLines 8 = .ok (.iconst 0, 1) := by decide +kernel
theorem dX7_readLines_9 : decode cX7_readLines 9 = .ok (.putfield 25, 3) := by decide +kernel
theorem dX7_readLines_12 : decode cX7_readLines 12 = .ok (.aload_n 0, 1) := by decide +kernel
theorem dX7_readLines_13 : decode cX7_readLines 13 = .ok (.iconst (-1), 1) := by decide +kernel
theorem dX7_readLines_14 : decode cX7_readLines 14 = .ok (.putfield 29, 3) := by decide +kernel
theorem dX7_readLines_17 : decode cX7_readLines 17 = .ok (.aload_n 0, 1) := by decide +kernel
theorem dX7_readLines_18 : decode cX7_readLines 18 = .ok (.getfield 21, 3) := by decide +kernel
theorem dX7_readLines_21 : decode cX7_readLines 21 = .ok (.invokevirtual 35, 3) := by decide +kernel
theorem dX7_readLines_24 : decode cX7_readLines 24 = .ok (.aload_n 0, 1) := by decide +kernel
theorem dX7_readLines_25 : decode cX7_readLines 25 = .ok (.getfield 21, 3) := by decide +kernel
theorem dX7_readLines_28 : decode cX7_readLines 28 = .ok (.invokevirtual 38, 3) := by decide +kernel
theorem dX7_readLines_31 : decode cX7_readLines 31 = .ok (.iconst 0, 1) := by decide +kernel
theorem dX7_readLines_32 : decode cX7_readLines 32 = .ok (.istore_n 1, 1) := by decide +kernel
theorem dX7_readLines_33 : decode cX7_readLines 33 = .ok (.aload_n 0, 1) := by decide +kernel
theorem dX7_readLines_34 : decode cX7_readLines 34 = .ok (.getfield 21, 3) := by decide +kernel
theorem dX7_readLines_37 : decode cX7_readLines 37 = .ok (.getfield 41, 3) := by decide +kernel
theorem dX7_readLines_40 : decode cX7_readLines 40 = .ok (.ifCond .ne 42, 3) := by decide +kernel
theorem dX7_readLines_43 : decode cX7_readLines 43 = .ok (.aload_n 0, 1) := by decide +kernel
theorem dX7_readLines_44 : decode cX7_readLines 44 = .ok (.getfield 21, 3) := by decide +kernel
theorem dX7_readLines_47 : decode cX7_readLines 47 = .ok (.getfield 44, 3) := by decide +kernel
theorem dX7_readLines_50 : decode cX7_readLines 50 = .ok (.iconst 4, 1) := by decide +kernel
theorem dX7_readLines_51 : decode cX7_readLines 51 = .ok (.if_icmp .eq 31, 3) := by decide +kernel
theorem dX7_readLines_54 : decode cX7_readLines 54 = .ok (.iload_n 1, 1) := by decide +kernel
theorem dX7_readLines_55 : decode cX7_readLines 55 = .ok (.sipush 320, 3) := by decide +kernel
theorem dX7_readLines_58 : decode cX7_readLines 58 = .ok (.if_icmp .gt 24, 3) := by decide +kernel
theorem dX7_readLines_61 : decode cX7_readLines 61 = .ok (.aload_n 0, 1) := by decide +kernel
theorem dX7_readLines_62 : decode cX7_readLines 62 = .ok (.aload_n 0, 1) := by decide +kernel
theorem dX7_readLines_63 : decode cX7_readLines 63 = .ok (.invokevirtual 47, 3) := by decide +kernel
theorem dX7_readLines_66 : decode cX7_readLines 66 = .ok (.invokevirtual 51, 3) := by decide +kernel
theorem dX7_readLines_69 : decode cX7_readLines 69 = .ok (.iinc 1 1, 3) := by decide +kernel
theorem dX7_readLines_72 : decode cX7_readLines 72 = .ok (.aload_n 0, 1) := by decide +kernel
theorem dX7_readLines_73 : decode cX7_readLines 73 = .ok (.getfield 21, 3) := by decide +kernel
theorem dX7_readLines_76 : decode cX7_readLines 76 = .ok (.invokevirtual 38, 3) := by decide +kernel
theorem dX7_readLines_79 : decode cX7_readLines 79 = .ok (.goto (-46), 3) := by decide +kernel
theorem dX7_readLines_82 : decode cX7_readLines 82 = .ok (.aload_n 0, 1) := by decide +kernel
theorem dX7_readLines_83 : decode cX7_readLines 83 = .ok (.getfield 12, 3) := by decide +kernel
theorem dX7_readLines_86 : decode cX7_readLines 86 = .ok (.aload_n 0, 1) := by decide +kernel
theorem dX7_readLines_87 : decode cX7_readLines 87 = .ok (.getfield 29, 3) := by decide +kernel
theorem dX7_readLines_90 : decode cX7_readLines 90 = .ok (.iconst (-1), 1) := by decide +kernel
theorem dX7_readLines_91 : decode cX7_readLines 91 = .ok (.if_icmp .ne 21, 3) := by decide +kernel
theorem dX7_readLines_94 : decode cX7_readLines 94 = .ok (.aload_n 0, 1) := by decide +kernel
theorem dX7_readLines_95 : decode cX7_readLines 95 = .ok (.getfield 12, 3) := by decide +kernel
theorem dX7_readLines_98 : decode cX7_readLines 98 = .ok (.getfield 55, 3) := by decide +kernel
theorem dX7_readLines_101 : decode cX7_readLines 101 = .ok (.getfield 59, 3) := by decide +kernel
theorem dX7_readLines_104 : decode cX7_readLines 104 = .ok (.bipush 6, 2) := by decide +kernel
theorem dX7_readLines_106 : decode cX7_readLines 106 = .ok (.invokestatic 64, 3) := by decide +kernel
theorem dX7_readLines_109 : decode cX7_readLines 109 = .ok (.goto 7, 3) := by decide +kernel
theorem dX7_readLines_112 : decode cX7_readLines 112 = .ok (.aload_n 0, 1) := by decide +kernel
theorem dX7_readLines_113 : decode cX7_readLines 113 = .ok (.getfield 29, 3) := by decide +kernel
theorem dX7_readLines_116 : decode cX7_readLines 116 = .ok (.putfield 70, 3) := by decide +kernel
theorem dX7_readLines_119 : decode cX7_readLines 119 = .ok (.aload_n 0, 1) := by decide +kernel
theorem dX7_readLines_120 : decode cX7_readLines 120 = .ok (.invokevirtual 73, 3) := by decide +kernel
theorem dX7_readLines_123 : decode cX7_readLines 123 = .ok (.iload_n 1, 1) := by decide +kernel
theorem dX7_readLines_124 : decode cX7_readLines 124 = .ok (.ireturn, 1) := by decide +kernel
theorem dX7_nameOfLine_0 : decode cX7_nameOfLine 0 = .ok (.iload_n 0, 1) := by decide +kernel
theorem dX7_nameOfLine_1 : decode cX7_nameOfLine 1 = .ok (.tableswitch 85 0 9 #[55, 58, 61, 64, 67, 70, 73, 76, 79, 82], 55) := by decide +kernel
theorem dX7_nameOfLine_56 : decode cX7_nameOfLine 56 = .ok (.ldc 76, 2) := by decide +kernel
theorem dX7_nameOfLine_58 : decode cX7_nameOfLine 58 = .ok (.areturn, 1) := by decide +kernel
theorem dX7_nameOfLine_59 : decode cX7_nameOfLine 59 = .ok (.ldc 78, 2) := by decide +kernel
theorem dX7_nameOfLine_61 : decode cX7_nameOfLine 61 = .ok (.areturn, 1) := by decide +kernel
theorem dX7_nameOfLine_62 : decode cX7_nameOfLine 62 = .ok (.ldc 80, 2) := by decide +kernel
theorem dX7_nameOfLine_64 : decode cX7_nameOfLine 64 = .ok (.areturn, 1) := by decide +kernel
theorem dX7_nameOfLine_65 : decode cX7_nameOfLine 65 = .ok (.ldc 82, 2) := by decide +kernel
theorem dX7_nameOfLine_67 : decode cX7_nameOfLine 67 = .ok (.areturn, 1) := by decide +kernel
theorem dX7_nameOfLine_68 : decode cX7_nameOfLine 68 = .ok (.ldc 84, 2) := by decide +kernel
theorem dX7_nameOfLine_70 : decode cX7_nameOfLine 70 = .ok (.areturn, 1) := by decide +kernel
theorem dX7_nameOfLine_71 : decode cX7_nameOfLine 71 = .ok (.ldc 85, 2) := by decide +kernel
theorem dX7_nameOfLine_73 : decode cX7_nameOfLine 73 = .ok (.areturn, 1) := by decide +kernel
theorem dX7_nameOfLine_74 : decode cX7_nameOfLine 74 = .ok (.ldc 87, 2) := by decide +kernel
theorem dX7_nameOfLine_76 : decode cX7_nameOfLine 76 = .ok (.areturn, 1) := by decide +kernel
theorem dX7_nameOfLine_77 : decode cX7_nameOfLine 77 = .ok (.ldc 89, 2) := by decide +kernel
theorem dX7_nameOfLine_79 : decode cX7_nameOfLine 79 = .ok (.areturn, 1) := by decide +kernel
theorem dX7_nameOfLine_80 : decode cX7_nameOfLine 80 = .ok (.ldc 91, 2) := by decide +kernel
theorem dX7_nameOfLine_82 : decode cX7_nameOfLine 82 = .ok (.areturn, 1) := by decide +kernel
theorem dX7_nameOfLine_83 : decode cX7_nameOfLine 83 = .ok (.ldc 93, 2) := by decide +kernel
theorem dX7_nameOfLine_85 : decode cX7_nameOfLine 85 = .ok (.areturn, 1) := by decide +kernel
theorem dX7_nameOfLine_86 : decode cX7_nameOfLine 86 = .ok (.ldc 95, 2) := by decide +kernel
theorem dX7_nameOfLine_88 : decode cX7_nameOfLine 88 = .ok (.areturn, 1) := by decide +kernel
theorem dX7_nameOfKind_0 : decode cX7_nameOfKind 0 = .ok (.iload_n 0, 1) := by decide +kernel
theorem dX7_nameOfKind_1 : decode cX7_nameOfKind 1 = .ok (.tableswitch 43 0 3 #[31, 34, 37, 40], 31) := by decide +kernel
theorem dX7_nameOfKind_32 : decode cX7_nameOfKind 32 = .ok (.ldc 97, 2) := by decide +kernel
theorem dX7_nameOfKind_34 : decode cX7_nameOfKind 34 = .ok (.areturn, 1) := by decide +kernel
theorem dX7_nameOfKind_35 : decode cX7_nameOfKind 35 = .ok (.ldc 99, 2) := by decide +kernel
theorem dX7_nameOfKind_37 : decode cX7_nameOfKind 37 = .ok (.areturn, 1) := by decide +kernel
theorem dX7_nameOfKind_38 : decode cX7_nameOfKind 38 = .ok (.ldc 101, 2) := by decide +kernel
theorem dX7_nameOfKind_40 : decode cX7_nameOfKind 40 = .ok (.areturn, 1) := by decide +kernel
theorem dX7_nameOfKind_41 : decode cX7_nameOfKind 41 = .ok (.ldc 103, 2) := by decide +kernel
theorem dX7_nameOfKind_43 : decode cX7_nameOfKind 43 = .ok (.areturn, 1) := by decide +kernel
theorem dX7_nameOfKind_44 : decode cX7_nameOfKind 44 = .ok (.ldc 105, 2) := by decide +kernel
theorem dX7_nameOfKind_46 : decode cX7_nameOfKind 46 = .ok (.areturn, 1) := by decide +kernel
theorem dX7_lineBegun_0 : decode cX7_lineBegun 0 = .ok (.iconst 0, 1) := by decide +kernel
theorem dX7_lineBegun_1 : decode cX7_lineBegun 1 = .ok (.istore_n 1, 1) := by decide +kernel
theorem dX7_lineBegun_2 : decode cX7_lineBegun 2 = .ok (.iload_n 1, 1) := by decide +kernel
theorem dX7_lineBegun_3 : decode cX7_lineBegun 3 = .ok (.bipush 11, 2) := by decide +kernel
theorem dX7_lineBegun_5 : decode cX7_lineBegun 5 = .ok (.if_icmp .ge 25, 3) := by decide +kernel
theorem dX7_lineBegun_8 : decode cX7_lineBegun 8 = .ok (.aload_n 0, 1) := by decide +kernel
theorem dX7_lineBegun_9 : decode cX7_lineBegun 9 = .ok (.getfield 21, 3) := by decide +kernel
theorem dX7_lineBegun_12 : decode cX7_lineBegun 12 = .ok (.iload_n 1, 1) := by decide +kernel
theorem dX7_lineBegun_13 : decode cX7_lineBegun 13 = .ok (.invokestatic 107, 3) := by decide +kernel
theorem dX7_lineBegun_16 : decode cX7_lineBegun 16 = .ok (.invokevirtual 111, 3) := by decide +kernel
theorem dX7_lineBegun_19 : decode cX7_lineBegun 19 = .ok (.ifCond .eq 5, 3) := by decide +kernel
theorem dX7_lineBegun_22 : decode cX7_lineBegun 22 = .ok (.iload_n 1, 1) := by decide +kernel
theorem dX7_lineBegun_23 : decode cX7_lineBegun 23 = .ok (.ireturn, 1) := by decide +kernel
theorem dX7_lineBegun_24 : decode cX7_lineBegun 24 = .ok (.iinc 1 1, 3) := by decide +kernel
theorem dX7_lineBegun_27 : decode cX7_lineBegun 27 = .ok (.goto (-25), 3) := by decide +kernel
theorem dX7_lineBegun_30 : decode cX7_lineBegun 30 = .ok (.bipush (-4), 2) := by decide +kernel
theorem dX7_lineBegun_32 : decode cX7_lineBegun 32 = .ok (.ireturn, 1) := by decide +kernel
theorem dX7_readLine_0 : decode cX7_readLine 0 = .ok (.iload_n 1, 1) := by decide +kernel
theorem dX7_readLine_1 : decode cX7_readLine 1 = .ok (.tableswitch 113 0 10 #[59, 59, 59, 59, 59, 67, 74, 82, 90, 98, 106], 59) := by decide +kernel
theorem dX7_readLine_60 : decode cX7_readLine 60 = .ok (.aload_n 0, 1) := by decide +kernel
theorem dX7_readLine_61 : decode cX7_readLine 61 = .ok (.iload_n 1, 1) := by decide +kernel
theorem dX7_readLine_62 : decode cX7_readLine 62 = .ok (.invokevirtual 115, 3) := by decide +kernel
theorem dX7_readLine_65 : decode cX7_readLine 65 = .ok (.goto 54, 3) := by decide +kernel
theorem dX7_readLine_68 : decode cX7_readLine 68 = .ok (.aload_n 0, 1) := by decide +kernel
theorem dX7_readLine_69 : decode cX7_readLine 69 = .ok (.invokevirtual 118, 3) := by decide +kernel
theorem dX7_readLine_72 : decode cX7_readLine 72 = .ok (.goto 47, 3) := by decide +kernel
theorem dX7_readLine_75 : decode cX7_readLine 75 = .ok (.aload_n 0, 1) := by decide +kernel
theorem dX7_readLine_76 : decode cX7_readLine 76 = .ok (.iconst 1, 1) := by decide +kernel
theorem dX7_readLine_77 : decode cX7_readLine 77 = .ok (.invokevirtual 121, 3) := by decide +kernel
theorem dX7_readLine_80 : decode cX7_readLine 80 = .ok (.goto 39, 3) := by decide +kernel
theorem dX7_readLine_83 : decode cX7_readLine 83 = .ok (.aload_n 0, 1) := by decide +kernel
theorem dX7_readLine_84 : decode cX7_readLine 84 = .ok (.iconst 2, 1) := by decide +kernel
theorem dX7_readLine_85 : decode cX7_readLine 85 = .ok (.invokevirtual 121, 3) := by decide +kernel
theorem dX7_readLine_88 : decode cX7_readLine 88 = .ok (.goto 31, 3) := by decide +kernel
theorem dX7_readLine_91 : decode cX7_readLine 91 = .ok (.aload_n 0, 1) := by decide +kernel
theorem dX7_readLine_92 : decode cX7_readLine 92 = .ok (.iconst 1, 1) := by decide +kernel
theorem dX7_readLine_93 : decode cX7_readLine 93 = .ok (.invokevirtual 124, 3) := by decide +kernel
theorem dX7_readLine_96 : decode cX7_readLine 96 = .ok (.goto 23, 3) := by decide +kernel
theorem dX7_readLine_99 : decode cX7_readLine 99 = .ok (.aload_n 0, 1) := by decide +kernel
theorem dX7_readLine_100 : decode cX7_readLine 100 = .ok (.iconst 0, 1) := by decide +kernel
theorem dX7_readLine_101 : decode cX7_readLine 101 = .ok (.invokevirtual 124, 3) := by decide +kernel
theorem dX7_readLine_104 : decode cX7_readLine 104 = .ok (.goto 15, 3) := by decide +kernel
theorem dX7_readLine_107 : decode cX7_readLine 107 = .ok (.aload_n 0, 1) := by decide +kernel
theorem dX7_readLine_108 : decode cX7_readLine 108 = .ok (.invokevirtual 127, 3) := by decide +kernel
theorem dX7_readLine_111 : decode cX7_readLine 111 = .ok (.goto 8, 3) := by decide +kernel
theorem dX7_readLine_114 : decode cX7_readLine 114 = .ok (.aload_n 0, 1) := by decide +kernel
theorem dX7_readLine_115 : decode cX7_readLine 115 = .ok (.iconst 2, 1) := by decide +kernel
theorem dX7_readLine_116 : decode cX7_readLine 116 = .ok (.invokevirtual 130, 3) := by decide +kernel
theorem dX7_readLine_119 : decode cX7_readLine 119 = .ok (.return_, 1) := by decide +kernel
theorem dX7_readRule_0 : decode cX7_readRule 0 = .ok (.aload_n 0, 1) := by decide +kernel
theorem dX7_readRule_1 : decode cX7_readRule 1 = .ok (.getfield 25, 3) := by decide +kernel
theorem dX7_readRule_4 : decode cX7_readRule 4 = .ok (.iload_n 1, 1) := by decide +kernel
theorem dX7_readRule_5 : decode cX7_readRule 5 = .ok (.invokestatic 133, 3) := by decide +kernel
theorem dX7_readRule_8 : decode cX7_readRule 8 = .ok (.iconst 1, 1) := by decide +kernel
theorem dX7_readRule_9 : decode cX7_readRule 9 = .ok (.if_icmp .ne 8, 3) := by decide +kernel
theorem dX7_readRule_12 : decode cX7_readRule 12 = .ok (.aload_n 0, 1) := by decide +kernel
theorem dX7_readRule_13 : decode cX7_readRule 13 = .ok (.iconst 4, 1) := by decide +kernel
theorem dX7_readRule_14 : decode cX7_readRule 14 = .ok (.invokevirtual 130, 3) := by decide +kernel
theorem dX7_readRule_17 : decode cX7_readRule 17 = .ok (.aload_n 0, 1) := by decide +kernel
theorem dX7_readRule_18 : decode cX7_readRule 18 = .ok (.dup, 1) := by decide +kernel
theorem dX7_readRule_19 : decode cX7_readRule 19 = .ok (.getfield 25, 3) := by decide +kernel
theorem dX7_readRule_22 : decode cX7_readRule 22 = .ok (.iconst 1, 1) := by decide +kernel
theorem dX7_readRule_23 : decode cX7_readRule 23 = .ok (.iload_n 1, 1) := by decide +kernel
theorem dX7_readRule_24 : decode cX7_readRule 24 = .ok (.ishl, 1) := by decide +kernel
theorem dX7_readRule_25 : decode cX7_readRule 25 = .ok (.ior, 1) := by decide +kernel
theorem dX7_readRule_26 : decode cX7_readRule 26 = .ok (.putfield 25, 3) := by decide +kernel
theorem dX7_readRule_29 : decode cX7_readRule 29 = .ok (.iload_n 1, 1) := by decide +kernel
theorem dX7_readRule_30 : decode cX7_readRule 30 = .ok (.tableswitch 112 0 3 #[30, 61, 78, 95], 30) := by decide +kernel
theorem dX7_readRule_60 : decode cX7_readRule 60 = .ok (.aload_n 0, 1) := by decide +kernel
theorem dX7_readRule_61 : decode cX7_readRule 61 = .ok (.getfield 12, 3) := by decide +kernel
theorem dX7_readRule_64 : decode cX7_readRule 64 = .ok (.aload_n 0, 1) := by decide +kernel
theorem dX7_readRule_65 : decode cX7_readRule 65 = .ok (.iconst 3, 1) := by decide +kernel
theorem dX7_readRule_66 : decode cX7_readRule 66 = .ok (.bipush 9, 2) := by decide +kernel
theorem dX7_readRule_68 : decode cX7_readRule 68 = .ok (.invokevirtual 136, 3) := by decide +kernel
theorem dX7_readRule_71 : decode cX7_readRule 71 = .ok (.putfield 139, 3) := by decide +kernel
theorem dX7_readRule_74 : decode cX7_readRule 74 = .ok (.aload_n 0, 1) := by decide +kernel
theorem dX7_readRule_75 : decode cX7_readRule 75 = .ok (.getfield 12, 3) := by decide +kernel
theorem dX7_readRule_78 : decode cX7_readRule 78 = .ok (.aload_n 0, 1) := by decide +kernel
theorem dX7_readRule_79 : decode cX7_readRule 79 = .ok (.iconst 3, 1) := by decide +kernel
theorem dX7_readRule_80 : decode cX7_readRule 80 = .ok (.bipush 9, 2) := by decide +kernel
theorem dX7_readRule_82 : decode cX7_readRule 82 = .ok (.invokevirtual 136, 3) := by decide +kernel
theorem dX7_readRule_85 : decode cX7_readRule 85 = .ok (.putfield 142, 3) := by decide +kernel
theorem dX7_readRule_88 : decode cX7_readRule 88 = .ok (.goto 65, 3) := by decide +kernel
theorem dX7_readRule_91 : decode cX7_readRule 91 = .ok (.aload_n 0, 1) := by decide +kernel
theorem dX7_readRule_92 : decode cX7_readRule 92 = .ok (.getfield 12, 3) := by decide +kernel
theorem dX7_readRule_95 : decode cX7_readRule 95 = .ok (.aload_n 0, 1) := by decide +kernel
theorem dX7_readRule_96 : decode cX7_readRule 96 = .ok (.iconst 0, 1) := by decide +kernel
theorem dX7_readRule_97 : decode cX7_readRule 97 = .ok (.bipush 20, 2) := by decide +kernel
theorem dX7_readRule_99 : decode cX7_readRule 99 = .ok (.invokevirtual 136, 3) := by decide +kernel
theorem dX7_readRule_102 : decode cX7_readRule 102 = .ok (.putfield 145, 3) := by decide +kernel
theorem dX7_readRule_105 : decode cX7_readRule 105 = .ok (.goto 48, 3) := by decide +kernel
theorem dX7_readRule_108 : decode cX7_readRule 108 = .ok (.aload_n 0, 1) := by decide +kernel
theorem dX7_readRule_109 : decode cX7_readRule 109 = .ok (.getfield 12, 3) := by decide +kernel
theorem dX7_readRule_112 : decode cX7_readRule 112 = .ok (.aload_n 0, 1) := by decide +kernel
theorem dX7_readRule_113 : decode cX7_readRule 113 = .ok (.iconst 0, 1) := by decide +kernel
theorem dX7_readRule_114 : decode cX7_readRule 114 = .ok (.bipush 50, 2) := by decide +kernel
theorem dX7_readRule_116 : decode cX7_readRule 116 = .ok (.invokevirtual 136, 3) := by decide +kernel
theorem dX7_readRule_119 : decode cX7_readRule 119 = .ok (.putfield 147, 3) := by decide +kernel
theorem dX7_readRule_122 : decode cX7_readRule 122 = .ok (.goto 31, 3) := by decide +kernel
theorem dX7_readRule_125 : decode cX7_readRule 125 = .ok (.aload_n 0, 1) := by decide +kernel
theorem dX7_readRule_126 : decode cX7_readRule 126 = .ok (.getfield 12, 3) := by decide +kernel
theorem dX7_readRule_129 : decode cX7_readRule 129 = .ok (.aload_n 0, 1) := by decide +kernel
theorem dX7_readRule_130 : decode cX7_readRule 130 = .ok (.iconst 0, 1) := by decide +kernel
theorem dX7_readRule_131 : decode cX7_readRule 131 = .ok (.bipush 9, 2) := by decide +kernel
theorem dX7_readRule_133 : decode cX7_readRule 133 = .ok (.invokevirtual 136, 3) := by decide +kernel
theorem dX7_readRule_136 : decode cX7_readRule 136 = .ok (.putfield 149, 3) := by decide +kernel
theorem dX7_readRule_139 : decode cX7_readRule 139 = .ok (.goto 14, 3) := by decide +kernel
theorem dX7_readRule_142 : decode cX7_readRule 142 = .ok (.aload_n 0, 1) := by decide +kernel
theorem dX7_readRule_143 : decode cX7_readRule 143 = .ok (.aload_n 0, 1) := by decide +kernel
theorem dX7_readRule_144 : decode cX7_readRule 144 = .ok (.iconst 0, 1) := by decide +kernel
theorem dX7_readRule_145 : decode cX7_readRule 145 = .ok (.bipush 6, 2) := by decide +kernel
theorem dX7_readRule_147 : decode cX7_readRule 147 = .ok (.invokevirtual 136, 3) := by decide +kernel
theorem dX7_readRule_150 : decode cX7_readRule 150 = .ok (.putfield 29, 3) := by decide +kernel
theorem dX7_readRule_153 : decode cX7_readRule 153 = .ok (.aload_n 0, 1) := by decide +kernel
theorem dX7_readRule_154 : decode cX7_readRule 154 = .ok (.invokevirtual 151, 3) := by decide +kernel
theorem dX7_readRule_157 : decode cX7_readRule 157 = .ok (.return_, 1) := by decide +kernel
theorem dX7_readBench_0 : decode cX7_readBench 0 = .ok (.aload_n 0, 1) := by decide +kernel
theorem dX7_readBench_1 : decode cX7_readBench 1 = .ok (.getfield 12, 3) := by decide +kernel
theorem dX7_readBench_4 : decode cX7_readBench 4 = .ok (.getfield 55, 3) := by decide +kernel
theorem dX7_readBench_7 : decode cX7_readBench 7 = .ok (.getfield 59, 3) := by decide +kernel
theorem dX7_readBench_10 : decode cX7_readBench 10 = .ok (.bipush 8, 2) := by decide +kernel
theorem dX7_readBench_12 : decode cX7_readBench 12 = .ok (.if_icmp .lt 8, 3) := by decide +kernel
theorem dX7_readBench_15 : decode cX7_readBench 15 = .ok (.aload_n 0, 1) := by decide +kernel
theorem dX7_readBench_16 : decode cX7_readBench 16 = .ok (.iconst 5, 1) := by decide +kernel
theorem dX7_readBench_17 : decode cX7_readBench 17 = .ok (.invokevirtual 130, 3) := by decide +kernel
theorem dX7_readBench_20 : decode cX7_readBench 20 = .ok (.aload_n 0, 1) := by decide +kernel
theorem dX7_readBench_21 : decode cX7_readBench 21 = .ok (.iconst 0, 1) := by decide +kernel
theorem dX7_readBench_22 : decode cX7_readBench 22 = .ok (.bipush 8, 2) := by decide +kernel
theorem dX7_readBench_24 : decode cX7_readBench 24 = .ok (.invokevirtual 136, 3) := by decide +kernel
theorem dX7_readBench_27 : decode cX7_readBench 27 = .ok (.istore_n 1, 1) := by decide +kernel
theorem dX7_readBench_28 : decode cX7_readBench 28 = .ok (.aload_n 0, 1) := by decide +kernel
theorem dX7_readBench_29 : decode cX7_readBench 29 = .ok (.iconst 0, 1) := by decide +kernel
theorem dX7_readBench_30 : decode cX7_readBench 30 = .ok (.bipush 8, 2) := by decide +kernel
theorem dX7_readBench_32 : decode cX7_readBench 32 = .ok (.invokevirtual 136, 3) := by decide +kernel
theorem dX7_readBench_35 : decode cX7_readBench 35 = .ok (.istore_n 2, 1) := by decide +kernel
theorem dX7_readBench_36 : decode cX7_readBench 36 = .ok (.aload_n 0, 1) := by decide +kernel
theorem dX7_readBench_37 : decode cX7_readBench 37 = .ok (.iconst 0, 1) := by decide +kernel
theorem dX7_readBench_38 : decode cX7_readBench 38 = .ok (.bipush 7, 2) := by decide +kernel
theorem dX7_readBench_40 : decode cX7_readBench 40 = .ok (.invokevirtual 136, 3) := by decide +kernel
theorem dX7_readBench_43 : decode cX7_readBench 43 = .ok (.istore_n 3, 1) := by decide +kernel
theorem dX7_readBench_44 : decode cX7_readBench 44 = .ok (.aload_n 0, 1) := by decide +kernel
theorem dX7_readBench_45 : decode cX7_readBench 45 = .ok (.iconst 1, 1) := by decide +kernel
theorem dX7_readBench_46 : decode cX7_readBench 46 = .ok (.bipush 100, 2) := by decide +kernel
theorem dX7_readBench_48 : decode cX7_readBench 48 = .ok (.invokevirtual 136, 3) := by decide +kernel
theorem dX7_readBench_51 : decode cX7_readBench 51 = .ok (.istore 4, 2) := by decide +kernel
theorem dX7_readBench_53 : decode cX7_readBench 53 = .ok (.aload_n 0, 1) := by decide +kernel
theorem dX7_readBench_54 : decode cX7_readBench 54 = .ok (.getfield 12, 3) := by decide +kernel
theorem dX7_readBench_57 : decode cX7_readBench 57 = .ok (.getfield 55, 3) := by decide +kernel
theorem dX7_readBench_60 : decode cX7_readBench 60 = .ok (.iload_n 1, 1) := by decide +kernel
theorem dX7_readBench_61 : decode cX7_readBench 61 = .ok (.iload_n 2, 1) := by decide +kernel
theorem dX7_readBench_62 : decode cX7_readBench 62 = .ok (.iload_n 3, 1) := by decide +kernel
theorem dX7_readBench_63 : decode cX7_readBench 63 = .ok (.iload 4, 2) := by decide +kernel
theorem dX7_readBench_65 : decode cX7_readBench 65 = .ok (.aload_n 0, 1) := by decide +kernel
theorem dX7_readBench_66 : decode cX7_readBench 66 = .ok (.invokevirtual 154, 3) := by decide +kernel
theorem dX7_readBench_69 : decode cX7_readBench 69 = .ok (.invokevirtual 157, 3) := by decide +kernel
theorem dX7_readBench_72 : decode cX7_readBench 72 = .ok (.aload_n 0, 1) := by decide +kernel
theorem dX7_readBench_73 : decode cX7_readBench 73 = .ok (.invokevirtual 161, 3) := by decide +kernel
theorem dX7_readBench_76 : decode cX7_readBench 76 = .ok (.return_, 1) := by decide +kernel
theorem dX7_readDeafCell_0 : decode cX7_readDeafCell 0 = .ok (.aload_n 0, 1) := by decide +kernel
theorem dX7_readDeafCell_1 : decode cX7_readDeafCell 1 = .ok (.iconst 0, 1) := by decide +kernel
theorem dX7_readDeafCell_2 : decode cX7_readDeafCell 2 = .ok (.bipush 8, 2) := by decide +kernel
theorem dX7_readDeafCell_4 : decode cX7_readDeafCell 4 = .ok (.invokevirtual 136, 3) := by decide +kernel
theorem dX7_readDeafCell_7 : decode cX7_readDeafCell 7 = .ok (.istore_n 2, 1) := by decide +kernel
theorem dX7_readDeafCell_8 : decode cX7_readDeafCell 8 = .ok (.aload_n 0, 1) := by decide +kernel
theorem dX7_readDeafCell_9 : decode cX7_readDeafCell 9 = .ok (.iconst 0, 1) := by decide +kernel
theorem dX7_readDeafCell_10 : decode cX7_readDeafCell 10 = .ok (.bipush 8, 2) := by decide +kernel
theorem dX7_readDeafCell_12 : decode cX7_readDeafCell 12 = .ok (.invokevirtual 136, 3) := by decide +kernel
theorem dX7_readDeafCell_15 : decode cX7_readDeafCell 15 = .ok (.istore_n 3, 1) := by decide +kernel
theorem dX7_readDeafCell_16 : decode cX7_readDeafCell 16 = .ok (.bipush 9, 2) := by decide +kernel
theorem dX7_readDeafCell_18 : decode cX7_readDeafCell 18 = .ok (.iload_n 3, 1) := by decide +kernel
theorem dX7_readDeafCell_19 : decode cX7_readDeafCell 19 = .ok (.imul, 1) := by decide +kernel
theorem dX7_readDeafCell_20 : decode cX7_readDeafCell 20 = .ok (.iload_n 2, 1) := by decide +kernel
theorem dX7_readDeafCell_21 : decode cX7_readDeafCell 21 = .ok (.iadd, 1) := by decide +kernel
theorem dX7_readDeafCell_22 : decode cX7_readDeafCell 22 = .ok (.istore 4, 2) := by decide +kernel
theorem dX7_readDeafCell_24 : decode cX7_readDeafCell 24 = .ok (.aload_n 0, 1) := by decide +kernel
theorem dX7_readDeafCell_25 : decode cX7_readDeafCell 25 = .ok (.getfield 12, 3) := by decide +kernel
theorem dX7_readDeafCell_28 : decode cX7_readDeafCell 28 = .ok (.iload 4, 2) := by decide +kernel
theorem dX7_readDeafCell_30 : decode cX7_readDeafCell 30 = .ok (.invokevirtual 164, 3) := by decide +kernel
theorem dX7_readDeafCell_33 : decode cX7_readDeafCell 33 = .ok (.ifCond .eq 8, 3) := by decide +kernel
theorem dX7_readDeafCell_36 : decode cX7_readDeafCell 36 = .ok (.aload_n 0, 1) := by decide +kernel
theorem dX7_readDeafCell_37 : decode cX7_readDeafCell 37 = .ok (.iconst 4, 1) := by decide +kernel
theorem dX7_readDeafCell_38 : decode cX7_readDeafCell 38 = .ok (.invokevirtual 130, 3) := by decide +kernel
theorem dX7_readDeafCell_41 : decode cX7_readDeafCell 41 = .ok (.aload_n 0, 1) := by decide +kernel
theorem dX7_readDeafCell_42 : decode cX7_readDeafCell 42 = .ok (.getfield 12, 3) := by decide +kernel
theorem dX7_readDeafCell_45 : decode cX7_readDeafCell 45 = .ok (.iload 4, 2) := by decide +kernel
theorem dX7_readDeafCell_47 : decode cX7_readDeafCell 47 = .ok (.iload_n 1, 1) := by decide +kernel
theorem dX7_readDeafCell_48 : decode cX7_readDeafCell 48 = .ok (.invokevirtual 168, 3) := by decide +kernel
theorem dX7_readDeafCell_51 : decode cX7_readDeafCell 51 = .ok (.aload_n 0, 1) := by decide +kernel
theorem dX7_readDeafCell_52 : decode cX7_readDeafCell 52 = .ok (.invokevirtual 151, 3) := by decide +kernel
theorem dX7_readDeafCell_55 : decode cX7_readDeafCell 55 = .ok (.return_, 1) := by decide +kernel
theorem dX7_readWant_0 : decode cX7_readWant 0 = .ok (.aload_n 0, 1) := by decide +kernel
theorem dX7_readWant_1 : decode cX7_readWant 1 = .ok (.getfield 12, 3) := by decide +kernel
theorem dX7_readWant_4 : decode cX7_readWant 4 = .ok (.getfield 172, 3) := by decide +kernel
theorem dX7_readWant_7 : decode cX7_readWant 7 = .ok (.getfield 176, 3) := by decide +kernel
theorem dX7_readWant_10 : decode cX7_readWant 10 = .ok (.bipush 8, 2) := by decide +kernel
theorem dX7_readWant_12 : decode cX7_readWant 12 = .ok (.if_icmp .lt 8, 3) := by decide +kernel
theorem dX7_readWant_15 : decode cX7_readWant 15 = .ok (.aload_n 0, 1) := by decide +kernel
theorem dX7_readWant_16 : decode cX7_readWant 16 = .ok (.iconst 5, 1) := by decide +kernel
theorem dX7_readWant_17 : decode cX7_readWant 17 = .ok (.invokevirtual 130, 3) := by decide +kernel
theorem dX7_readWant_20 : decode cX7_readWant 20 = .ok (.aload_n 0, 1) := by decide +kernel
theorem dX7_readWant_21 : decode cX7_readWant 21 = .ok (.iconst 0, 1) := by decide +kernel
theorem dX7_readWant_22 : decode cX7_readWant 22 = .ok (.iconst 5, 1) := by decide +kernel
theorem dX7_readWant_23 : decode cX7_readWant 23 = .ok (.invokevirtual 136, 3) := by decide +kernel
theorem dX7_readWant_26 : decode cX7_readWant 26 = .ok (.istore_n 2, 1) := by decide +kernel
theorem dX7_readWant_27 : decode cX7_readWant 27 = .ok (.aload_n 0, 1) := by decide +kernel
theorem dX7_readWant_28 : decode cX7_readWant 28 = .ok (.iconst 0, 1) := by decide +kernel
theorem dX7_readWant_29 : decode cX7_readWant 29 = .ok (.iconst 5, 1) := by decide +kernel
theorem dX7_readWant_30 : decode cX7_readWant 30 = .ok (.invokevirtual 136, 3) := by decide +kernel
theorem dX7_readWant_33 : decode cX7_readWant 33 = .ok (.istore_n 3, 1) := by decide +kernel
theorem dX7_readWant_34 : decode cX7_readWant 34 = .ok (.iload_n 2, 1) := by decide +kernel
theorem dX7_readWant_35 : decode cX7_readWant 35 = .ok (.iload_n 3, 1) := by decide +kernel
theorem dX7_readWant_36 : decode cX7_readWant 36 = .ok (.if_icmp .ne 8, 3) := by decide +kernel
theorem dX7_readWant_39 : decode cX7_readWant 39 = .ok (.aload_n 0, 1) := by decide +kernel
theorem dX7_readWant_40 : decode cX7_readWant 40 = .ok (.iconst 4, 1) := by decide +kernel
theorem dX7_readWant_41 : decode cX7_readWant 41 = .ok (.invokevirtual 130, 3) := by decide +kernel
theorem dX7_readWant_44 : decode cX7_readWant 44 = .ok (.aload_n 0, 1) := by decide +kernel
theorem dX7_readWant_45 : decode cX7_readWant 45 = .ok (.getfield 12, 3) := by decide +kernel
theorem dX7_readWant_48 : decode cX7_readWant 48 = .ok (.getfield 172, 3) := by decide +kernel
theorem dX7_readWant_51 : decode cX7_readWant 51 = .ok (.iload_n 2, 1) := by decide +kernel
theorem dX7_readWant_52 : decode cX7_readWant 52 = .ok (.iload_n 3, 1) := by decide +kernel
theorem dX7_readWant_53 : decode cX7_readWant 53 = .ok (.iload_n 1, 1) := by decide +kernel
theorem dX7_readWant_54 : decode cX7_readWant 54 = .ok (.invokevirtual 179, 3) := by decide +kernel
theorem dX7_readWant_57 : decode cX7_readWant 57 = .ok (.aload_n 0, 1) := by decide +kernel
theorem dX7_readWant_58 : decode cX7_readWant 58 = .ok (.invokevirtual 151, 3) := by decide +kernel
theorem dX7_readWant_61 : decode cX7_readWant 61 = .ok (.return_, 1) := by decide +kernel
theorem dX7_readWhisper_0 : decode cX7_readWhisper 0 = .ok (.aload_n 0, 1) := by decide +kernel
theorem dX7_readWhisper_1 : decode cX7_readWhisper 1 = .ok (.getfield 12, 3) := by decide +kernel
theorem dX7_readWhisper_4 : decode cX7_readWhisper 4 = .ok (.getfield 182, 3) := by decide +kernel
theorem dX7_readWhisper_7 : decode cX7_readWhisper 7 = .ok (.getfield 176, 3) := by decide +kernel
theorem dX7_readWhisper_10 : decode cX7_readWhisper 10 = .ok (.bipush 12, 2) := by decide +kernel
theorem dX7_readWhisper_12 : decode cX7_readWhisper 12 = .ok (.if_icmp .lt 8, 3) := by decide +kernel
theorem dX7_readWhisper_15 : decode cX7_readWhisper 15 = .ok (.aload_n 0, 1) := by decide +kernel
theorem dX7_readWhisper_16 : decode cX7_readWhisper 16 = .ok (.iconst 5, 1) := by decide +kernel
theorem dX7_readWhisper_17 : decode cX7_readWhisper 17 = .ok (.invokevirtual 130, 3) := by decide +kernel
theorem dX7_readWhisper_20 : decode cX7_readWhisper 20 = .ok (.aload_n 0, 1) := by decide +kernel
theorem dX7_readWhisper_21 : decode cX7_readWhisper 21 = .ok (.aload_n 0, 1) := by decide +kernel
theorem dX7_readWhisper_22 : decode cX7_readWhisper 22 = .ok (.getfield 12, 3) := by decide +kernel
theorem dX7_readWhisper_25 : decode cX7_readWhisper 25 = .ok (.invokevirtual 185, 3) := by decide +kernel
theorem dX7_readWhisper_28 : decode cX7_readWhisper 28 = .ok (.bipush 11, 2) := by decide +kernel
theorem dX7_readWhisper_30 : decode cX7_readWhisper 30 = .ok (.invokevirtual 136, 3) := by decide +kernel
theorem dX7_readWhisper_33 : decode cX7_readWhisper 33 = .ok (.istore_n 1, 1) := by decide +kernel
theorem dX7_readWhisper_34 : decode cX7_readWhisper 34 = .ok (.aload_n 0, 1) := by decide +kernel
theorem dX7_readWhisper_35 : decode cX7_readWhisper 35 = .ok (.iconst 0, 1) := by decide +kernel
theorem dX7_readWhisper_36 : decode cX7_readWhisper 36 = .ok (.iconst 5, 1) := by decide +kernel
theorem dX7_readWhisper_37 : decode cX7_readWhisper 37 = .ok (.invokevirtual 136, 3) := by decide +kernel
theorem dX7_readWhisper_40 : decode cX7_readWhisper 40 = .ok (.istore_n 2, 1) := by decide +kernel
theorem dX7_readWhisper_41 : decode cX7_readWhisper 41 = .ok (.aload_n 0, 1) := by decide +kernel
theorem dX7_readWhisper_42 : decode cX7_readWhisper 42 = .ok (.getfield 12, 3) := by decide +kernel
theorem dX7_readWhisper_45 : decode cX7_readWhisper 45 = .ok (.getfield 182, 3) := by decide +kernel
theorem dX7_readWhisper_48 : decode cX7_readWhisper 48 = .ok (.iload_n 1, 1) := by decide +kernel
theorem dX7_readWhisper_49 : decode cX7_readWhisper 49 = .ok (.iload_n 2, 1) := by decide +kernel
theorem dX7_readWhisper_50 : decode cX7_readWhisper 50 = .ok (.aload_n 0, 1) := by decide +kernel
theorem dX7_readWhisper_51 : decode cX7_readWhisper 51 = .ok (.iconst 0, 1) := by decide +kernel
theorem dX7_readWhisper_52 : decode cX7_readWhisper 52 = .ok (.bipush 7, 2) := by decide +kernel
theorem dX7_readWhisper_54 : decode cX7_readWhisper 54 = .ok (.invokevirtual 136, 3) := by decide +kernel
theorem dX7_readWhisper_57 : decode cX7_readWhisper 57 = .ok (.invokevirtual 179, 3) := by decide +kernel
theorem dX7_readWhisper_60 : decode cX7_readWhisper 60 = .ok (.aload_n 0, 1) := by decide +kernel
theorem dX7_readWhisper_61 : decode cX7_readWhisper 61 = .ok (.invokevirtual 151, 3) := by decide +kernel
theorem dX7_readWhisper_64 : decode cX7_readWhisper 64 = .ok (.return_, 1) := by decide +kernel
theorem dX7_readNumber_0 : decode cX7_readNumber 0 = .ok (.aload_n 0, 1) := by decide +kernel
theorem dX7_readNumber_1 : decode cX7_readNumber 1 = .ok (.getfield 21, 3) := by decide +kernel
theorem dX7_readNumber_4 : decode cX7_readNumber 4 = .ok (.invokevirtual 38, 3) := by decide +kernel
theorem dX7_readNumber_7 : decode cX7_readNumber 7 = .ok (.aload_n 0, 1) := by decide +kernel
theorem dX7_readNumber_8 : decode cX7_readNumber 8 = .ok (.getfield 21, 3) := by decide +kernel
theorem dX7_readNumber_11 : decode cX7_readNumber 11 = .ok (.getfield 44, 3) := by decide +kernel
theorem dX7_readNumber_14 : decode cX7_readNumber 14 = .ok (.iconst 2, 1) := by decide +kernel
theorem dX7_readNumber_15 : decode cX7_readNumber 15 = .ok (.if_icmp .eq 10, 3) := by decide +kernel
theorem dX7_readNumber_18 : decode cX7_readNumber 18 = .ok (.aload_n 0, 1) := by decide +kernel
theorem dX7_readNumber_19 : decode cX7_readNumber 19 = .ok (.iconst 2, 1) := by decide +kernel
theorem dX7_readNumber_20 : decode cX7_readNumber 20 = .ok (.invokevirtual 130, 3) := by decide +kernel
theorem dX7_readNumber_23 : decode cX7_readNumber 23 = .ok (.iload_n 1, 1) := by decide +kernel
theorem dX7_readNumber_24 : decode cX7_readNumber 24 = .ok (.ireturn, 1) := by decide +kernel
theorem dX7_readNumber_25 : decode cX7_readNumber 25 = .ok (.aload_n 0, 1) := by decide +kernel
theorem dX7_readNumber_26 : decode cX7_readNumber 26 = .ok (.getfield 21, 3) := by decide +kernel
theorem dX7_readNumber_29 : decode cX7_readNumber 29 = .ok (.getfield 188, 3) := by decide +kernel
theorem dX7_readNumber_32 : decode cX7_readNumber 32 = .ok (.iload_n 1, 1) := by decide +kernel
theorem dX7_readNumber_33 : decode cX7_readNumber 33 = .ok (.iload_n 2, 1) := by decide +kernel
theorem dX7_readNumber_34 : decode cX7_readNumber 34 = .ok (.invokestatic 191, 3) := by decide +kernel
theorem dX7_readNumber_37 : decode cX7_readNumber 37 = .ok (.ifCond .ne 10, 3) := by decide +kernel
theorem dX7_readNumber_40 : decode cX7_readNumber 40 = .ok (.aload_n 0, 1) := by decide +kernel
theorem dX7_readNumber_41 : decode cX7_readNumber 41 = .ok (.iconst 3, 1) := by decide +kernel
theorem dX7_readNumber_42 : decode cX7_readNumber 42 = .ok (.invokevirtual 130, 3) := by decide +kernel
theorem dX7_readNumber_45 : decode cX7_readNumber 45 = .ok (.iload_n 1, 1) := by decide +kernel
theorem dX7_readNumber_46 : decode cX7_readNumber 46 = .ok (.ireturn, 1) := by decide +kernel
theorem dX7_readNumber_47 : decode cX7_readNumber 47 = .ok (.aload_n 0, 1) := by decide +kernel
theorem dX7_readNumber_48 : decode cX7_readNumber 48 = .ok (.getfield 21, 3) := by decide +kernel
theorem dX7_readNumber_51 : decode cX7_readNumber 51 = .ok (.getfield 188, 3) := by decide +kernel
theorem dX7_readNumber_54 : decode cX7_readNumber 54 = .ok (.ireturn, 1) := by decide +kernel
theorem dX7_readKind_0 : decode cX7_readKind 0 = .ok (.aload_n 0, 1) := by decide +kernel
theorem dX7_readKind_1 : decode cX7_readKind 1 = .ok (.getfield 21, 3) := by decide +kernel
theorem dX7_readKind_4 : decode cX7_readKind 4 = .ok (.invokevirtual 38, 3) := by decide +kernel
theorem dX7_readKind_7 : decode cX7_readKind 7 = .ok (.iconst 0, 1) := by decide +kernel
theorem dX7_readKind_8 : decode cX7_readKind 8 = .ok (.istore_n 1, 1) := by decide +kernel
theorem dX7_readKind_9 : decode cX7_readKind 9 = .ok (.iload_n 1, 1) := by decide +kernel
theorem dX7_readKind_10 : decode cX7_readKind 10 = .ok (.iconst 4, 1) := by decide +kernel
theorem dX7_readKind_11 : decode cX7_readKind 11 = .ok (.if_icmp .gt 32, 3) := by decide +kernel
theorem dX7_readKind_14 : decode cX7_readKind 14 = .ok (.aload_n 0, 1) := by decide +kernel
theorem dX7_readKind_15 : decode cX7_readKind 15 = .ok (.getfield 21, 3) := by decide +kernel
theorem dX7_readKind_18 : decode cX7_readKind 18 = .ok (.iload_n 1, 1) := by decide +kernel
theorem dX7_readKind_19 : decode cX7_readKind 19 = .ok (.invokestatic 195, 3) := by decide +kernel
theorem dX7_readKind_22 : decode cX7_readKind 22 = .ok (.invokevirtual 111, 3) := by decide +kernel
theorem dX7_readKind_25 : decode cX7_readKind 25 = .ok (.ifCond .eq 12, 3) := by decide +kernel
theorem dX7_readKind_28 : decode cX7_readKind 28 = .ok (.aload_n 0, 1) := by decide +kernel
theorem dX7_readKind_29 : decode cX7_readKind 29 = .ok (.getfield 21, 3) := by decide +kernel
theorem dX7_readKind_32 : decode cX7_readKind 32 = .ok (.invokevirtual 38, 3) := by decide +kernel
theorem dX7_readKind_35 : decode cX7_readKind 35 = .ok (.iload_n 1, 1) := by decide +kernel
theorem dX7_readKind_36 : decode cX7_readKind 36 = .ok (.ireturn, 1) := by decide +kernel
theorem dX7_readKind_37 : decode cX7_readKind 37 = .ok (.iinc 1 1, 3) := by decide +kernel
theorem dX7_readKind_40 : decode cX7_readKind 40 = .ok (.goto (-31), 3) := by decide +kernel
theorem dX7_readKind_43 : decode cX7_readKind 43 = .ok (.iconst 0, 1) := by decide +kernel
theorem dX7_readKind_44 : decode cX7_readKind 44 = .ok (.ireturn, 1) := by decide +kernel
theorem dX7_readSign_0 : decode cX7_readSign 0 = .ok (.aload_n 0, 1) := by decide +kernel
theorem dX7_readSign_1 : decode cX7_readSign 1 = .ok (.getfield 21, 3) := by decide +kernel
theorem dX7_readSign_4 : decode cX7_readSign 4 = .ok (.invokevirtual 38, 3) := by decide +kernel
theorem dX7_readSign_7 : decode cX7_readSign 7 = .ok (.aload_n 0, 1) := by decide +kernel
theorem dX7_readSign_8 : decode cX7_readSign 8 = .ok (.invokevirtual 161, 3) := by decide +kernel
theorem dX7_readSign_11 : decode cX7_readSign 11 = .ok (.return_, 1) := by decide +kernel
theorem dX7_requireSign_0 : decode cX7_requireSign 0 = .ok (.aload_n 0, 1) := by decide +kernel
theorem dX7_requireSign_1 : decode cX7_requireSign 1 = .ok (.getfield 21, 3) := by decide +kernel
theorem dX7_requireSign_4 : decode cX7_requireSign 4 = .ok (.getfield 44, 3) := by decide +kernel
theorem dX7_requireSign_7 : decode cX7_requireSign 7 = .ok (.iconst 3, 1) := by decide +kernel
theorem dX7_requireSign_8 : decode cX7_requireSign 8 = .ok (.if_icmp .eq 8, 3) := by decide +kernel
theorem dX7_requireSign_11 : decode cX7_requireSign 11 = .ok (.aload_n 0, 1) := by decide +kernel
theorem dX7_requireSign_12 : decode cX7_requireSign 12 = .ok (.iconst 2, 1) := by decide +kernel
theorem dX7_requireSign_13 : decode cX7_requireSign 13 = .ok (.invokevirtual 130, 3) := by decide +kernel
theorem dX7_requireSign_16 : decode cX7_requireSign 16 = .ok (.return_, 1) := by decide +kernel
theorem dX7_failHere_0 : decode cX7_failHere 0 = .ok (.aload_n 0, 1) := by decide +kernel
theorem dX7_failHere_1 : decode cX7_failHere 1 = .ok (.getfield 21, 3) := by decide +kernel
theorem dX7_failHere_4 : decode cX7_failHere 4 = .ok (.iload_n 1, 1) := by decide +kernel
theorem dX7_failHere_5 : decode cX7_failHere 5 = .ok (.aload_n 0, 1) := by decide +kernel
theorem dX7_failHere_6 : decode cX7_failHere 6 = .ok (.getfield 21, 3) := by decide +kernel
theorem dX7_failHere_9 : decode cX7_failHere 9 = .ok (.getfield 198, 3) := by decide +kernel
theorem dX7_failHere_12 : decode cX7_failHere 12 = .ok (.invokevirtual 201, 3) := by decide +kernel
theorem dX7_failHere_15 : decode cX7_failHere 15 = .ok (.return_, 1) := by decide +kernel
theorem dX7_checkAll_0 : decode cX7_checkAll 0 = .ok (.aload_n 0, 1) := by decide +kernel
theorem dX7_checkAll_1 : decode cX7_checkAll 1 = .ok (.invokevirtual 204, 3) := by decide +kernel
theorem dX7_checkAll_4 : decode cX7_checkAll 4 = .ok (.ifCond .ne 30, 3) := by decide +kernel
theorem dX7_checkAll_7 : decode cX7_checkAll 7 = .ok (.aload_n 0, 1) := by decide +kernel
theorem dX7_checkAll_8 : decode cX7_checkAll 8 = .ok (.invokevirtual 208, 3) := by decide +kernel
theorem dX7_checkAll_11 : decode cX7_checkAll 11 = .ok (.ifCond .ne 23, 3) := by decide +kernel
theorem dX7_checkAll_14 : decode cX7_checkAll 14 = .ok (.aload_n 0, 1) := by decide +kernel
theorem dX7_checkAll_15 : decode cX7_checkAll 15 = .ok (.getfield 12, 3) := by decide +kernel
theorem dX7_checkAll_18 : decode cX7_checkAll 18 = .ok (.getfield 70, 3) := by decide +kernel
theorem dX7_checkAll_21 : decode cX7_checkAll 21 = .ok (.aload_n 0, 1) := by decide +kernel
theorem dX7_checkAll_22 : decode cX7_checkAll 22 = .ok (.getfield 12, 3) := by decide +kernel
theorem dX7_checkAll_25 : decode cX7_checkAll 25 = .ok (.getfield 55, 3) := by decide +kernel
theorem dX7_checkAll_28 : decode cX7_checkAll 28 = .ok (.getfield 59, 3) := by decide +kernel
theorem dX7_checkAll_31 : decode cX7_checkAll 31 = .ok (.if_icmp .le 19, 3) := by decide +kernel
theorem dX7_checkAll_34 : decode cX7_checkAll 34 = .ok (.aload_n 0, 1) := by decide +kernel
theorem dX7_checkAll_35 : decode cX7_checkAll 35 = .ok (.getfield 21, 3) := by decide +kernel
theorem dX7_checkAll_38 : decode cX7_checkAll 38 = .ok (.bipush 6, 2) := by decide +kernel
theorem dX7_checkAll_40 : decode cX7_checkAll 40 = .ok (.aload_n 0, 1) := by decide +kernel
theorem dX7_checkAll_41 : decode cX7_checkAll 41 = .ok (.getfield 21, 3) := by decide +kernel
theorem dX7_checkAll_44 : decode cX7_checkAll 44 = .ok (.getfield 211, 3) := by decide +kernel
theorem dX7_checkAll_47 : decode cX7_checkAll 47 = .ok (.invokevirtual 201, 3) := by decide +kernel
theorem dX7_checkAll_50 : decode cX7_checkAll 50 = .ok (.iconst 0, 1) := by decide +kernel
theorem dX7_checkAll_51 : decode cX7_checkAll 51 = .ok (.istore_n 1, 1) := by decide +kernel
theorem dX7_checkAll_52 : decode cX7_checkAll 52 = .ok (.iload_n 1, 1) := by decide +kernel
theorem dX7_checkAll_53 : decode cX7_checkAll 53 = .ok (.bipush 81, 2) := by decide +kernel
theorem dX7_checkAll_55 : decode cX7_checkAll 55 = .ok (.if_icmp .ge 50, 3) := by decide +kernel
theorem dX7_checkAll_58 : decode cX7_checkAll 58 = .ok (.aload_n 0, 1) := by decide +kernel
theorem dX7_checkAll_59 : decode cX7_checkAll 59 = .ok (.getfield 12, 3) := by decide +kernel
theorem dX7_checkAll_62 : decode cX7_checkAll 62 = .ok (.iload_n 1, 1) := by decide +kernel
theorem dX7_checkAll_63 : decode cX7_checkAll 63 = .ok (.invokevirtual 164, 3) := by decide +kernel
theorem dX7_checkAll_66 : decode cX7_checkAll 66 = .ok (.ifCond .eq 33, 3) := by decide +kernel
theorem dX7_checkAll_69 : decode cX7_checkAll 69 = .ok (.aload_n 0, 1) := by decide +kernel
theorem dX7_checkAll_70 : decode cX7_checkAll 70 = .ok (.getfield 12, 3) := by decide +kernel
theorem dX7_checkAll_73 : decode cX7_checkAll 73 = .ok (.getfield 55, 3) := by decide +kernel
theorem dX7_checkAll_76 : decode cX7_checkAll 76 = .ok (.iload_n 1, 1) := by decide +kernel
theorem dX7_checkAll_77 : decode cX7_checkAll 77 = .ok (.invokevirtual 214, 3) := by decide +kernel
theorem dX7_checkAll_80 : decode cX7_checkAll 80 = .ok (.ifCond .eq 19, 3) := by decide +kernel
theorem dX7_checkAll_83 : decode cX7_checkAll 83 = .ok (.aload_n 0, 1) := by decide +kernel
theorem dX7_checkAll_84 : decode cX7_checkAll 84 = .ok (.getfield 21, 3) := by decide +kernel
theorem dX7_checkAll_87 : decode cX7_checkAll 87 = .ok (.bipush 7, 2) := by decide +kernel
theorem dX7_checkAll_89 : decode cX7_checkAll 89 = .ok (.aload_n 0, 1) := by decide +kernel
theorem dX7_checkAll_90 : decode cX7_checkAll 90 = .ok (.getfield 21, 3) := by decide +kernel
theorem dX7_checkAll_93 : decode cX7_checkAll 93 = .ok (.getfield 211, 3) := by decide +kernel
theorem dX7_checkAll_96 : decode cX7_checkAll 96 = .ok (.invokevirtual 201, 3) := by decide +kernel
theorem dX7_checkAll_99 : decode cX7_checkAll 99 = .ok (.iinc 1 1, 3) := by decide +kernel
theorem dX7_checkAll_102 : decode cX7_checkAll 102 = .ok (.goto (-50), 3) := by decide +kernel
theorem dX7_checkAll_105 : decode cX7_checkAll 105 = .ok (.return_, 1) := by decide +kernel
theorem dX7_anyCellMissing_0 : decode cX7_anyCellMissing 0 = .ok (.iconst 0, 1) := by decide +kernel
theorem dX7_anyCellMissing_1 : decode cX7_anyCellMissing 1 = .ok (.istore_n 1, 1) := by decide +kernel
theorem dX7_anyCellMissing_2 : decode cX7_anyCellMissing 2 = .ok (.iload_n 1, 1) := by decide +kernel
theorem dX7_anyCellMissing_3 : decode cX7_anyCellMissing 3 = .ok (.bipush 81, 2) := by decide +kernel
theorem dX7_anyCellMissing_5 : decode cX7_anyCellMissing 5 = .ok (.if_icmp .ge 47, 3) := by decide +kernel
theorem dX7_anyCellMissing_8 : decode cX7_anyCellMissing 8 = .ok (.aload_n 0, 1) := by decide +kernel
theorem dX7_anyCellMissing_9 : decode cX7_anyCellMissing 9 = .ok (.getfield 12, 3) := by decide +kernel
theorem dX7_anyCellMissing_12 : decode cX7_anyCellMissing 12 = .ok (.iload_n 1, 1) := by decide +kernel
theorem dX7_anyCellMissing_13 : decode cX7_anyCellMissing 13 = .ok (.invokevirtual 218, 3) := by decide +kernel
theorem dX7_anyCellMissing_16 : decode cX7_anyCellMissing 16 = .ok (.ifCond .ne 30, 3) := by decide +kernel
theorem dX7_anyCellMissing_19 : decode cX7_anyCellMissing 19 = .ok (.aload_n 0, 1) := by decide +kernel
theorem dX7_anyCellMissing_20 : decode cX7_anyCellMissing 20 = .ok (.getfield 12, 3) := by decide +kernel
theorem dX7_anyCellMissing_23 : decode cX7_anyCellMissing 23 = .ok (.iload_n 1, 1) := by decide +kernel
theorem dX7_anyCellMissing_24 : decode cX7_anyCellMissing 24 = .ok (.invokevirtual 164, 3) := by decide +kernel
theorem dX7_anyCellMissing_27 : decode cX7_anyCellMissing 27 = .ok (.ifCond .ne 17, 3) := by decide +kernel
theorem dX7_anyCellMissing_30 : decode cX7_anyCellMissing 30 = .ok (.aload_n 0, 1) := by decide +kernel
theorem dX7_anyCellMissing_31 : decode cX7_anyCellMissing 31 = .ok (.getfield 12, 3) := by decide +kernel
theorem dX7_anyCellMissing_34 : decode cX7_anyCellMissing 34 = .ok (.getfield 55, 3) := by decide +kernel
theorem dX7_anyCellMissing_37 : decode cX7_anyCellMissing 37 = .ok (.iload_n 1, 1) := by decide +kernel
theorem dX7_anyCellMissing_38 : decode cX7_anyCellMissing 38 = .ok (.invokevirtual 214, 3) := by decide +kernel
theorem dX7_anyCellMissing_41 : decode cX7_anyCellMissing 41 = .ok (.ifCond .eq 5, 3) := by decide +kernel
theorem dX7_anyCellMissing_44 : decode cX7_anyCellMissing 44 = .ok (.iconst 1, 1) := by decide +kernel
theorem dX7_anyCellMissing_45 : decode cX7_anyCellMissing 45 = .ok (.ireturn, 1) := by decide +kernel
theorem dX7_anyCellMissing_46 : decode cX7_anyCellMissing 46 = .ok (.iinc 1 1, 3) := by decide +kernel
theorem dX7_anyCellMissing_49 : decode cX7_anyCellMissing 49 = .ok (.goto (-47), 3) := by decide +kernel
theorem dX7_anyCellMissing_52 : decode cX7_anyCellMissing 52 = .ok (.iconst 0, 1) := by decide +kernel
theorem dX7_anyCellMissing_53 : decode cX7_anyCellMissing 53 = .ok (.ireturn, 1) := by decide +kernel
theorem dX7_anyOneMissing_0 : decode cX7_anyOneMissing 0 = .ok (.iconst 0, 1) := by decide +kernel
theorem dX7_anyOneMissing_1 : decode cX7_anyOneMissing 1 = .ok (.istore_n 1, 1) := by decide +kernel
theorem dX7_anyOneMissing_2 : decode cX7_anyOneMissing 2 = .ok (.iload_n 1, 1) := by decide +kernel
theorem dX7_anyOneMissing_3 : decode cX7_anyOneMissing 3 = .ok (.aload_n 0, 1) := by decide +kernel
theorem dX7_anyOneMissing_4 : decode cX7_anyOneMissing 4 = .ok (.getfield 12, 3) := by decide +kernel
theorem dX7_anyOneMissing_7 : decode cX7_anyOneMissing 7 = .ok (.getfield 172, 3) := by decide +kernel
theorem dX7_anyOneMissing_10 : decode cX7_anyOneMissing 10 = .ok (.getfield 176, 3) := by decide +kernel
theorem dX7_anyOneMissing_13 : decode cX7_anyOneMissing 13 = .ok (.if_icmp .ge 55, 3) := by decide +kernel
theorem dX7_anyOneMissing_16 : decode cX7_anyOneMissing 16 = .ok (.aload_n 0, 1) := by decide +kernel
theorem dX7_anyOneMissing_17 : decode cX7_anyOneMissing 17 = .ok (.getfield 12, 3) := by decide +kernel
theorem dX7_anyOneMissing_20 : decode cX7_anyOneMissing 20 = .ok (.getfield 172, 3) := by decide +kernel
theorem dX7_anyOneMissing_23 : decode cX7_anyOneMissing 23 = .ok (.iload_n 1, 1) := by decide +kernel
theorem dX7_anyOneMissing_24 : decode cX7_anyOneMissing 24 = .ok (.iconst 0, 1) := by decide +kernel
theorem dX7_anyOneMissing_25 : decode cX7_anyOneMissing 25 = .ok (.invokevirtual 221, 3) := by decide +kernel
theorem dX7_anyOneMissing_28 : decode cX7_anyOneMissing 28 = .ok (.aload_n 0, 1) := by decide +kernel
theorem dX7_anyOneMissing_29 : decode cX7_anyOneMissing 29 = .ok (.getfield 12, 3) := by decide +kernel
theorem dX7_anyOneMissing_32 : decode cX7_anyOneMissing 32 = .ok (.getfield 70, 3) := by decide +kernel
theorem dX7_anyOneMissing_35 : decode cX7_anyOneMissing 35 = .ok (.if_icmp .ge 25, 3) := by decide +kernel
theorem dX7_anyOneMissing_38 : decode cX7_anyOneMissing 38 = .ok (.aload_n 0, 1) := by decide +kernel
theorem dX7_anyOneMissing_39 : decode cX7_anyOneMissing 39 = .ok (.getfield 12, 3) := by decide +kernel
theorem dX7_anyOneMissing_42 : decode cX7_anyOneMissing 42 = .ok (.getfield 172, 3) := by decide +kernel
theorem dX7_anyOneMissing_45 : decode cX7_anyOneMissing 45 = .ok (.iload_n 1, 1) := by decide +kernel
theorem dX7_anyOneMissing_46 : decode cX7_anyOneMissing 46 = .ok (.iconst 1, 1) := by decide +kernel
theorem dX7_anyOneMissing_47 : decode cX7_anyOneMissing 47 = .ok (.invokevirtual 221, 3) := by decide +kernel
theorem dX7_anyOneMissing_50 : decode cX7_anyOneMissing 50 = .ok (.aload_n 0, 1) := by decide +kernel
theorem dX7_anyOneMissing_51 : decode cX7_anyOneMissing 51 = .ok (.getfield 12, 3) := by decide +kernel
theorem dX7_anyOneMissing_54 : decode cX7_anyOneMissing 54 = .ok (.getfield 70, 3) := by decide +kernel
theorem dX7_anyOneMissing_57 : decode cX7_anyOneMissing 57 = .ok (.if_icmp .lt 5, 3) := by decide +kernel
theorem dX7_anyOneMissing_60 : decode cX7_anyOneMissing 60 = .ok (.iconst 1, 1) := by decide +kernel
theorem dX7_anyOneMissing_61 : decode cX7_anyOneMissing 61 = .ok (.ireturn, 1) := by decide +kernel
theorem dX7_anyOneMissing_62 : decode cX7_anyOneMissing 62 = .ok (.iinc 1 1, 3) := by decide +kernel
theorem dX7_anyOneMissing_65 : decode cX7_anyOneMissing 65 = .ok (.goto (-63), 3) := by decide +kernel
theorem dX7_anyOneMissing_68 : decode cX7_anyOneMissing 68 = .ok (.iconst 0, 1) := by decide +kernel
theorem dX7_anyOneMissing_69 : decode cX7_anyOneMissing 69 = .ok (.istore_n 1, 1) := by decide +kernel
theorem dX7_anyOneMissing_70 : decode cX7_anyOneMissing 70 = .ok (.iload_n 1, 1) := by decide +kernel
theorem dX7_anyOneMissing_71 : decode cX7_anyOneMissing 71 = .ok (.aload_n 0, 1) := by decide +kernel
theorem dX7_anyOneMissing_72 : decode cX7_anyOneMissing 72 = .ok (.getfield 12, 3) := by decide +kernel
theorem dX7_anyOneMissing_75 : decode cX7_anyOneMissing 75 = .ok (.getfield 182, 3) := by decide +kernel
theorem dX7_anyOneMissing_78 : decode cX7_anyOneMissing 78 = .ok (.getfield 176, 3) := by decide +kernel
theorem dX7_anyOneMissing_81 : decode cX7_anyOneMissing 81 = .ok (.if_icmp .ge 33, 3) := by decide +kernel
theorem dX7_anyOneMissing_84 : decode cX7_anyOneMissing 84 = .ok (.aload_n 0, 1) := by decide +kernel
theorem dX7_anyOneMissing_85 : decode cX7_anyOneMissing 85 = .ok (.getfield 12, 3) := by decide +kernel
theorem dX7_anyOneMissing_88 : decode cX7_anyOneMissing 88 = .ok (.getfield 182, 3) := by decide +kernel
theorem dX7_anyOneMissing_91 : decode cX7_anyOneMissing 91 = .ok (.iload_n 1, 1) := by decide +kernel
theorem dX7_anyOneMissing_92 : decode cX7_anyOneMissing 92 = .ok (.iconst 1, 1) := by decide +kernel
theorem dX7_anyOneMissing_93 : decode cX7_anyOneMissing 93 = .ok (.invokevirtual 221, 3) := by decide +kernel
theorem dX7_anyOneMissing_96 : decode cX7_anyOneMissing 96 = .ok (.aload_n 0, 1) := by decide +kernel
theorem dX7_anyOneMissing_97 : decode cX7_anyOneMissing 97 = .ok (.getfield 12, 3) := by decide +kernel
theorem dX7_anyOneMissing_100 : decode cX7_anyOneMissing 100 = .ok (.getfield 70, 3) := by decide +kernel
theorem dX7_anyOneMissing_103 : decode cX7_anyOneMissing 103 = .ok (.if_icmp .lt 5, 3) := by decide +kernel
theorem dX7_anyOneMissing_106 : decode cX7_anyOneMissing 106 = .ok (.iconst 1, 1) := by decide +kernel
theorem dX7_anyOneMissing_107 : decode cX7_anyOneMissing 107 = .ok (.ireturn, 1) := by decide +kernel
theorem dX7_anyOneMissing_108 : decode cX7_anyOneMissing 108 = .ok (.iinc 1 1, 3) := by decide +kernel
theorem dX7_anyOneMissing_111 : decode cX7_anyOneMissing 111 = .ok (.goto (-41), 3) := by decide +kernel
theorem dX7_anyOneMissing_114 : decode cX7_anyOneMissing 114 = .ok (.iconst 0, 1) := by decide +kernel
theorem dX7_anyOneMissing_115 : decode cX7_anyOneMissing 115 = .ok (.ireturn, 1) := by decide +kernel
theorem dX8_init_0 : decode cX8_init 0 = .ok (.aload_n 0, 1) := by decide +kernel
theorem dX8_init_1 : decode cX8_init 1 = .ok (.invokespecial 3, 3) := by decide +kernel
theorem dX8_init_4 : decode cX8_init 4 = .ok (.aload_n 0, 1) := by decide +kernel
theorem dX8_init_5 : decode cX8_init 5 = .ok (.bipush 81, 2) := by decide +kernel
theorem dX8_init_7 : decode cX8_init 7 = .ok (.newarray .int, 2) := by decide +kernel
theorem dX8_init_9 : decode cX8_init 9 = .ok (.putfield 9, 3) := by decide +kernel
theorem dX8_init_12 : decode cX8_init 12 = .ok (.aload_n 0, 1) := by decide +kernel
theorem dX8_init_13 : decode cX8_init 13 = .ok (.bipush 6, 2) := by decide +kernel
theorem dX8_init_15 : decode cX8_init 15 = .ok (.newarray .int, 2) := by decide +kernel
theorem dX8_init_17 : decode cX8_init 17 = .ok (.putfield 15, 3) := by decide +kernel
theorem dX8_init_20 : decode cX8_init 20 = .ok (.aload_n 0, 1) := by decide +kernel
theorem dX8_init_21 : decode cX8_init 21 = .ok (.new 18, 3) := by decide +kernel
theorem dX8_init_24 : decode cX8_init 24 = .ok (.dup, 1) := by decide +kernel
theorem dX8_init_25 : decode cX8_init 25 = .ok (.invokespecial 20, 3) := by decide +kernel
theorem dX8_init_28 : decode cX8_init 28 = .ok (.putfield 21, 3) := by decide +kernel
theorem dX8_init_31 : decode cX8_init 31 = .ok (.aload_n 0, 1) := by decide +kernel
theorem dX8_init_32 : decode cX8_init 32 = .ok (.new 25, 3) := by decide +kernel
theorem dX8_init_35 : decode cX8_init 35 = .ok (.dup, 1) := by decide +kernel
theorem dX8_init_36 : decode cX8_init 36 = .ok (.invokespecial 27, 3) := by decide +kernel
theorem dX8_init_39 : decode cX8_init 39 = .ok (.putfield 28, 3) := by decide +kernel
theorem dX8_init_42 : decode cX8_init 42 = .ok (.aload_n 0, 1) := by decide +kernel
theorem dX8_init_43 : decode cX8_init 43 = .ok (.new 25, 3) := by decide +kernel
theorem dX8_init_46 : decode cX8_init 46 = .ok (.dup, 1) := by decide +kernel
theorem dX8_init_47 : decode cX8_init 47 = .ok (.invokespecial 27, 3) := by decide +kernel
theorem dX8_init_50 : decode cX8_init 50 = .ok (.putfield 32, 3) := by decide +kernel
theorem dX8_init_53 : decode cX8_init 53 = .ok (.aload_n 0, 1) := by decide +kernel
theorem dX8_init_54 : decode cX8_init 54 = .ok (.invokevirtual 35, 3) := by decide +kernel
theorem dX8_init_57 : decode cX8_init 57 = .ok (.return_, 1) := by decide +kernel
theorem dX8_startAnew_0 : decode cX8_startAnew 0 = .ok (.aload_n 0, 1) := by decide +kernel
theorem dX8_startAnew_1 : decode cX8_startAnew 1 = .ok (.bipush 9, 2) := by decide +kernel
theorem dX8_startAnew_3 : decode cX8_startAnew 3 = .ok (.putfield 38, 3) := by decide +kernel
theorem dX8_startAnew_6 : decode cX8_startAnew 6 = .ok (.aload_n 0, 1) := by decide +kernel
theorem dX8_startAnew_7 : decode cX8_startAnew 7 = .ok (.bipush 7, 2) := by decide +kernel
theorem dX8_startAnew_9 : decode cX8_startAnew 9 = .ok (.putfield 42, 3) := by decide +kernel
theorem dX8_startAnew_12 : decode cX8_startAnew 12 = .ok (.aload_n 0, 1) := by decide +kernel
theorem dX8_startAnew_13 : decode cX8_startAnew 13 = .ok (.iconst 3, 1) := by decide +kernel
theorem dX8_startAnew_14 : decode cX8_startAnew 14 = .ok (.putfield 45, 3) := by decide +kernel
theorem dX8_startAnew_17 : decode cX8_startAnew 17 = .ok (.aload_n 0, 1) := by decide +kernel
theorem dX8_startAnew_18 : decode cX8_startAnew 18 = .ok (.iconst 5, 1) := by decide +kernel
theorem dX8_startAnew_19 : decode cX8_startAnew 19 = .ok (.putfield 48, 3) := by decide +kernel
theorem dX8_startAnew_22 : decode cX8_startAnew 22 = .ok (.aload_n 0, 1) := by decide +kernel
theorem dX8_startAnew_23 : decode cX8_startAnew 23 = .ok (.iconst 0, 1) := by decide +kernel
theorem dX8_startAnew_24 : decode cX8_startAnew 24 = .ok (.putfield 51, 3) := by decide +kernel
theorem dX8_startAnew_27 : decode cX8_startAnew 27 = .ok (.aload_n 0, 1) := by decide +kernel
theorem dX8_startAnew_28 : decode cX8_startAnew 28 = .ok (.iconst 0, 1) := by decide +kernel
theorem dX8_startAnew_29 : decode cX8_startAnew 29 = .ok (.putfield 54, 3) := by decide +kernel
theorem dX8_startAnew_32 : decode cX8_startAnew 32 = .ok (.aload_n 0, 1) := by decide +kernel
theorem dX8_startAnew_33 : decode cX8_startAnew 33 = .ok (.getfield 9, 3) := by decide +kernel
theorem dX8_startAnew_36 : decode cX8_startAnew 36 = .ok (.iconst 0, 1) := by decide +kernel
theorem dX8_startAnew_37 : decode cX8_startAnew 37 = .ok (.invokestatic 57, 3) := by decide +kernel
theorem dX8_startAnew_40 : decode cX8_startAnew 40 = .ok (.iconst 0, 1) := by decide +kernel
theorem dX8_startAnew_41 : decode cX8_startAnew 41 = .ok (.istore_n 1, 1) := by decide +kernel
theorem dX8_startAnew_42 : decode cX8_startAnew 42 = .ok (.iload_n 1, 1) := by decide +kernel
theorem dX8_startAnew_43 : decode cX8_startAnew 43 = .ok (.bipush 6, 2) := by decide +kernel
theorem dX8_startAnew_45 : decode cX8_startAnew 45 = .ok (.if_icmp .ge 16, 3) := by decide +kernel
theorem dX8_startAnew_48 : decode cX8_startAnew 48 = .ok (.aload_n 0, 1) := by decide +kernel
theorem dX8_startAnew_49 : decode cX8_startAnew 49 = .ok (.getfield 15, 3) := by decide +kernel
theorem dX8_startAnew_52 : decode cX8_startAnew 52 = .ok (.iload_n 1, 1) := by decide +kernel
theorem dX8_startAnew_53 : decode cX8_startAnew 53 = .ok (.iload_n 1, 1) := by decide +kernel
theorem dX8_startAnew_54 : decode cX8_startAnew 54 = .ok (.iastore, 1) := by decide +kernel
theorem dX8_startAnew_55 : decode cX8_startAnew 55 = .ok (.iinc 1 1, 3) := by decide +kernel
theorem dX8_startAnew_58 : decode cX8_startAnew 58 = .ok (.goto (-16), 3) := by decide +kernel
theorem dX8_startAnew_61 : decode cX8_startAnew 61 = .ok (.aload_n 0, 1) := by decide +kernel
theorem dX8_startAnew_62 : decode cX8_startAnew 62 = .ok (.getfield 21, 3) := by decide +kernel
theorem dX8_startAnew_65 : decode cX8_startAnew 65 = .ok (.iconst 0, 1) := by decide +kernel
theorem dX8_startAnew_66 : decode cX8_startAnew 66 = .ok (.putfield 63, 3) := by decide +kernel
theorem dX8_startAnew_69 : decode cX8_startAnew 69 = .ok (.aload_n 0, 1) := by decide +kernel
theorem dX8_startAnew_70 : decode cX8_startAnew 70 = .ok (.getfield 28, 3) := by decide +kernel
theorem dX8_startAnew_73 : decode cX8_startAnew 73 = .ok (.iconst 0, 1) := by decide +kernel
theorem dX8_startAnew_74 : decode cX8_startAnew 74 = .ok (.putfield 66, 3) := by decide +kernel
theorem dX8_startAnew_77 : decode cX8_startAnew 77 = .ok (.aload_n 0, 1) := by decide +kernel
theorem dX8_startAnew_78 : decode cX8_startAnew 78 = .ok (.getfield 32, 3) := by decide +kernel
theorem dX8_startAnew_81 : decode cX8_startAnew 81 = .ok (.iconst 0, 1) := by decide +kernel
theorem dX8_startAnew_82 : decode cX8_startAnew 82 = .ok (.putfield 66, 3) := by decide +kernel
theorem dX8_startAnew_85 : decode cX8_startAnew 85 = .ok (.return_, 1) := by decide +kernel
theorem dX8_copyAll_0 : decode cX8_copyAll 0 = .ok (.aload_n 0, 1) := by decide +kernel
theorem dX8_copyAll_1 : decode cX8_copyAll 1 = .ok (.aload_n 1, 1) := by decide +kernel
theorem dX8_copyAll_2 : decode cX8_copyAll 2 = .ok (.getfield 38, 3) := by decide +kernel
theorem dX8_copyAll_5 : decode cX8_copyAll 5 = .ok (.putfield 38, 3) := by decide +kernel
theorem dX8_copyAll_8 : decode cX8_copyAll 8 = .ok (.aload_n 0, 1) := by decide +kernel
theorem dX8_copyAll_9 : decode cX8_copyAll 9 = .ok (.aload_n 1, 1) := by decide +kernel
theorem dX8_copyAll_10 : decode cX8_copyAll 10 = .ok (.getfield 42, 3) := by decide +kernel
theorem dX8_copyAll_13 : decode cX8_copyAll 13 = .ok (.putfield 42, 3) := by decide +kernel
theorem dX8_copyAll_16 : decode cX8_copyAll 16 = .ok (.aload_n 0, 1) := by decide +kernel
theorem dX8_copyAll_17 : decode cX8_copyAll 17 = .ok (.aload_n 1, 1) := by decide +kernel
theorem dX8_copyAll_18 : decode cX8_copyAll 18 = .ok (.getfield 45, 3) := by decide +kernel
theorem dX8_copyAll_21 : decode cX8_copyAll 21 = .ok (.putfield 45, 3) := by decide +kernel
theorem dX8_copyAll_24 : decode cX8_copyAll 24 = .ok (.aload_n 0, 1) := by decide +kernel
theorem dX8_copyAll_25 : decode cX8_copyAll 25 = .ok (.aload_n 1, 1) := by decide +kernel
theorem dX8_copyAll_26 : decode cX8_copyAll 26 = .ok (.getfield 48, 3) := by decide +kernel
theorem dX8_copyAll_29 : decode cX8_copyAll 29 = .ok (.putfield 48, 3) := by decide +kernel
theorem dX8_copyAll_32 : decode cX8_copyAll 32 = .ok (.aload_n 0, 1) := by decide +kernel
theorem dX8_copyAll_33 : decode cX8_copyAll 33 = .ok (.aload_n 1, 1) := by decide +kernel
theorem dX8_copyAll_34 : decode cX8_copyAll 34 = .ok (.getfield 54, 3) := by decide +kernel
theorem dX8_copyAll_37 : decode cX8_copyAll 37 = .ok (.putfield 54, 3) := by decide +kernel
theorem dX8_copyAll_40 : decode cX8_copyAll 40 = .ok (.aload_n 0, 1) := by decide +kernel
theorem dX8_copyAll_41 : decode cX8_copyAll 41 = .ok (.getfield 21, 3) := by decide +kernel
theorem dX8_copyAll_44 : decode cX8_copyAll 44 = .ok (.aload_n 1, 1) := by decide +kernel
theorem dX8_copyAll_45 : decode cX8_copyAll 45 = .ok (.getfield 21, 3) := by decide +kernel
theorem dX8_copyAll_48 : decode cX8_copyAll 48 = .ok (.invokevirtual 67, 3) := by decide +kernel
theorem dX8_copyAll_51 : decode cX8_copyAll 51 = .ok (.aload_n 0, 1) := by decide +kernel
theorem dX8_copyAll_52 : decode cX8_copyAll 52 = .ok (.getfield 28, 3) := by decide +kernel
theorem dX8_copyAll_55 : decode cX8_copyAll 55 = .ok (.aload_n 1, 1) := by decide +kernel
theorem dX8_copyAll_56 : decode cX8_copyAll 56 = .ok (.getfield 28, 3) := by decide +kernel
theorem dX8_copyAll_59 : decode cX8_copyAll 59 = .ok (.invokevirtual 71, 3) := by decide +kernel
theorem dX8_copyAll_62 : decode cX8_copyAll 62 = .ok (.aload_n 0, 1) := by decide +kernel
theorem dX8_copyAll_63 : decode cX8_copyAll 63 = .ok (.aload_n 1, 1) := by decide +kernel
theorem dX8_copyAll_64 : decode cX8_copyAll 64 = .ok (.invokevirtual 74, 3) := by decide +kernel
theorem dX8_copyAll_67 : decode cX8_copyAll 67 = .ok (.return_, 1) := by decide +kernel
theorem dX8_copyChanging_0 : decode cX8_copyChanging 0 = .ok (.aload_n 1, 1) := by decide +kernel
theorem dX8_copyChanging_1 : decode cX8_copyChanging 1 = .ok (.getfield 9, 3) := by decide +kernel
theorem dX8_copyChanging_4 : decode cX8_copyChanging 4 = .ok (.iconst 0, 1) := by decide +kernel
theorem dX8_copyChanging_5 : decode cX8_copyChanging 5 = .ok (.aload_n 0, 1) := by decide +kernel
theorem dX8_copyChanging_6 : decode cX8_copyChanging 6 = .ok (.getfield 9, 3) := by decide +kernel
theorem dX8_copyChanging_9 : decode cX8_copyChanging 9 = .ok (.iconst 0, 1) := by decide +kernel
theorem dX8_copyChanging_10 : decode cX8_copyChanging 10 = .ok (.bipush 81, 2) := by decide +kernel
theorem dX8_copyChanging_12 : decode cX8_copyChanging 12 = .ok (.invokestatic 78, 3) := by decide +kernel
theorem dX8_copyChanging_15 : decode cX8_copyChanging 15 = .ok (.aload_n 0, 1) := by decide +kernel
theorem dX8_copyChanging_16 : decode cX8_copyChanging 16 = .ok (.aload_n 1, 1) := by decide +kernel
theorem dX8_copyChanging_17 : decode cX8_copyChanging 17 = .ok (.getfield 51, 3) := by decide +kernel
theorem dX8_copyChanging_20 : decode cX8_copyChanging 20 = .ok (.putfield 51, 3) := by decide +kernel
theorem dX8_copyChanging_23 : decode cX8_copyChanging 23 = .ok (.aload_n 1, 1) := by decide +kernel
theorem dX8_copyChanging_24 : decode cX8_copyChanging 24 = .ok (.getfield 15, 3) := by decide +kernel
theorem dX8_copyChanging_27 : decode cX8_copyChanging 27 = .ok (.iconst 0, 1) := by decide +kernel
theorem dX8_copyChanging_28 : decode cX8_copyChanging 28 = .ok (.aload_n 0, 1) := by decide +kernel
theorem dX8_copyChanging_29 : decode cX8_copyChanging 29 = .ok (.getfield 15, 3) := by decide +kernel
theorem dX8_copyChanging_32 : decode cX8_copyChanging 32 = .ok (.iconst 0, 1) := by decide +kernel
theorem dX8_copyChanging_33 : decode cX8_copyChanging 33 = .ok (.bipush 6, 2) := by decide +kernel
theorem dX8_copyChanging_35 : decode cX8_copyChanging 35 = .ok (.invokestatic 78, 3) := by decide +kernel
theorem dX8_copyChanging_38 : decode cX8_copyChanging 38 = .ok (.aload_n 0, 1) := by decide +kernel
theorem dX8_copyChanging_39 : decode cX8_copyChanging 39 = .ok (.getfield 32, 3) := by decide +kernel
theorem dX8_copyChanging_42 : decode cX8_copyChanging 42 = .ok (.aload_n 1, 1) := by decide +kernel
theorem dX8_copyChanging_43 : decode cX8_copyChanging 43 = .ok (.getfield 32, 3) := by decide +kernel
theorem dX8_copyChanging_46 : decode cX8_copyChanging 46 = .ok (.invokevirtual 71, 3) := by decide +kernel
theorem dX8_copyChanging_49 : decode cX8_copyChanging 49 = .ok (.return_, 1) := by decide +kernel
theorem dX8_isCell_0 : decode cX8_isCell 0 = .ok (.iload_n 1, 1) := by decide +kernel
theorem dX8_isCell_1 : decode cX8_isCell 1 = .ok (.ifCond .lt 35, 3) := by decide +kernel
theorem dX8_isCell_4 : decode cX8_isCell 4 = .ok (.iload_n 1, 1) := by decide +kernel
theorem dX8_isCell_5 : decode cX8_isCell 5 = .ok (.bipush 81, 2) := by decide +kernel
theorem dX8_isCell_7 : decode cX8_isCell 7 = .ok (.if_icmp .ge 29, 3) := by decide +kernel
theorem dX8_isCell_10 : decode cX8_isCell 10 = .ok (.iload_n 1, 1) := by decide +kernel
theorem dX8_isCell_11 : decode cX8_isCell 11 = .ok (.bipush 9, 2) := by decide +kernel
theorem dX8_isCell_13 : decode cX8_isCell 13 = .ok (.irem, 1) := by decide +kernel
theorem dX8_isCell_14 : decode cX8_isCell 14 = .ok (.aload_n 0, 1) := by decide +kernel
theorem dX8_isCell_15 : decode cX8_isCell 15 = .ok (.getfield 38, 3) := by decide +kernel
theorem dX8_isCell_18 : decode cX8_isCell 18 = .ok (.if_icmp .ge 18, 3) := by decide +kernel
theorem dX8_isCell_21 : decode cX8_isCell 21 = .ok (.iload_n 1, 1) := by decide +kernel
theorem dX8_isCell_22 : decode cX8_isCell 22 = .ok (.bipush 9, 2) := by decide +kernel
theorem dX8_isCell_24 : decode cX8_isCell 24 = .ok (.idiv, 1) := by decide +kernel
theorem dX8_isCell_25 : decode cX8_isCell 25 = .ok (.aload_n 0, 1) := by decide +kernel
theorem dX8_isCell_26 : decode cX8_isCell 26 = .ok (.getfield 42, 3) := by decide +kernel
theorem dX8_isCell_29 : decode cX8_isCell 29 = .ok (.if_icmp .ge 7, 3) := by decide +kernel
theorem dX8_isCell_32 : decode cX8_isCell 32 = .ok (.iconst 1, 1) := by decide +kernel
theorem dX8_isCell_33 : decode cX8_isCell 33 = .ok (.goto 4, 3) := by decide +kernel
theorem dX8_isCell_36 : decode cX8_isCell 36 = .ok (.iconst 0, 1) := by decide +kernel
theorem dX8_isCell_37 : decode cX8_isCell 37 = .ok (.ireturn, 1) := by decide +kernel
theorem dX8_stateOf_0 : decode cX8_stateOf 0 = .ok (.iload_n 1, 1) := by decide +kernel
theorem dX8_stateOf_1 : decode cX8_stateOf 1 = .ok (.ifCond .lt 18, 3) := by decide +kernel
theorem dX8_stateOf_4 : decode cX8_stateOf 4 = .ok (.iload_n 1, 1) := by decide +kernel
theorem dX8_stateOf_5 : decode cX8_stateOf 5 = .ok (.bipush 81, 2) := by decide +kernel
theorem dX8_stateOf_7 : decode cX8_stateOf 7 = .ok (.if_icmp .ge 12, 3) := by decide +kernel
theorem dX8_stateOf_10 : decode cX8_stateOf 10 = .ok (.aload_n 0, 1) := by decide +kernel
theorem dX8_stateOf_11 : decode cX8_stateOf 11 = .ok (.getfield 9, 3) := by decide +kernel
theorem dX8_stateOf_14 : decode cX8_stateOf 14 = .ok (.iload_n 1, 1) := by decide +kernel
theorem dX8_stateOf_15 : decode cX8_stateOf 15 = .ok (.iaload, 1) := by decide +kernel
theorem dX8_stateOf_16 : decode cX8_stateOf 16 = .ok (.goto 4, 3) := by decide +kernel
theorem dX8_stateOf_19 : decode cX8_stateOf 19 = .ok (.iconst 1, 1) := by decide +kernel
theorem dX8_stateOf_20 : decode cX8_stateOf 20 = .ok (.ireturn, 1) := by decide +kernel
theorem dX8_setState_0 : decode cX8_setState 0 = .ok (.iload_n 1, 1) := by decide +kernel
theorem dX8_setState_1 : decode cX8_setState 1 = .ok (.ifCond .lt 16, 3) := by decide +kernel
theorem dX8_setState_4 : decode cX8_setState 4 = .ok (.iload_n 1, 1) := by decide +kernel
theorem dX8_setState_5 : decode cX8_setState 5 = .ok (.bipush 81, 2) := by decide +kernel
theorem dX8_setState_7 : decode cX8_setState 7 = .ok (.if_icmp .ge 10, 3) := by decide +kernel
theorem dX8_setState_10 : decode cX8_setState 10 = .ok (.aload_n 0, 1) := by decide +kernel
theorem dX8_setState_11 : decode cX8_setState 11 = .ok (.getfield 9, 3) := by decide +kernel
theorem dX8_setState_14 : decode cX8_setState 14 = .ok (.iload_n 1, 1) := by decide +kernel
theorem dX8_setState_15 : decode cX8_setState 15 = .ok (.iload_n 2, 1) := by decide +kernel
theorem dX8_setState_16 : decode cX8_setState 16 = .ok (.iastore, 1) := by decide +kernel
theorem dX8_setState_17 : decode cX8_setState 17 = .ok (.return_, 1) := by decide +kernel
theorem dX8_isFree_0 : decode cX8_isFree 0 = .ok (.aload_n 0, 1) := by decide +kernel
theorem dX8_isFree_1 : decode cX8_isFree 1 = .ok (.iload_n 1, 1) := by decide +kernel
theorem dX8_isFree_2 : decode cX8_isFree 2 = .ok (.invokevirtual 84, 3) := by decide +kernel
theorem dX8_isFree_5 : decode cX8_isFree 5 = .ok (.ifCond .eq 15, 3) := by decide +kernel
theorem dX8_isFree_8 : decode cX8_isFree 8 = .ok (.aload_n 0, 1) := by decide +kernel
theorem dX8_isFree_9 : decode cX8_isFree 9 = .ok (.iload_n 1, 1) := by decide +kernel
theorem dX8_isFree_10 : decode cX8_isFree 10 = .ok (.invokevirtual 88, 3) := by decide +kernel
theorem dX8_isFree_13 : decode cX8_isFree 13 = .ok (.ifCond .ne 7, 3) := by decide +kernel
theorem dX8_isFree_16 : decode cX8_isFree 16 = .ok (.iconst 1, 1) := by decide +kernel
theorem dX8_isFree_17 : decode cX8_isFree 17 = .ok (.goto 4, 3) := by decide +kernel
theorem dX8_isFree_20 : decode cX8_isFree 20 = .ok (.iconst 0, 1) := by decide +kernel
theorem dX8_isFree_21 : decode cX8_isFree 21 = .ok (.ireturn, 1) := by decide +kernel
theorem dX8_deafCells_0 : decode cX8_deafCells 0 = .ok (.iconst 0, 1) := by decide +kernel
theorem dX8_deafCells_1 : decode cX8_deafCells 1 = .ok (.istore_n 1, 1) := by decide +kernel
theorem dX8_deafCells_2 : decode cX8_deafCells 2 = .ok (.iconst 0, 1) := by decide +kernel
theorem dX8_deafCells_3 : decode cX8_deafCells 3 = .ok (.istore_n 2, 1) := by decide +kernel
theorem dX8_deafCells_4 : decode cX8_deafCells 4 = .ok (.iload_n 2, 1) := by decide +kernel
theorem dX8_deafCells_5 : decode cX8_deafCells 5 = .ok (.bipush 81, 2) := by decide +kernel
theorem dX8_deafCells_7 : decode cX8_deafCells 7 = .ok (.if_icmp .ge 25, 3) := by decide +kernel
theorem dX8_deafCells_10 : decode cX8_deafCells 10 = .ok (.iload_n 1, 1) := by decide +kernel
theorem dX8_deafCells_11 : decode cX8_deafCells 11 = .ok (.aload_n 0, 1) := by decide +kernel
theorem dX8_deafCells_12 : decode cX8_deafCells 12 = .ok (.iload_n 2, 1) := by decide +kernel
theorem dX8_deafCells_13 : decode cX8_deafCells 13 = .ok (.invokevirtual 88, 3) := by decide +kernel
theorem dX8_deafCells_16 : decode cX8_deafCells 16 = .ok (.ifCond .ne 7, 3) := by decide +kernel
theorem dX8_deafCells_19 : decode cX8_deafCells 19 = .ok (.iconst 0, 1) := by decide +kernel
theorem dX8_deafCells_20 : decode cX8_deafCells 20 = .ok (.goto 4, 3) := by decide +kernel
theorem dX8_deafCells_23 : decode cX8_deafCells 23 = .ok (.iconst 1, 1) := by decide +kernel
theorem dX8_deafCells_24 : decode cX8_deafCells 24 = .ok (.iadd, 1) := by decide +kernel
theorem dX8_deafCells_25 : decode cX8_deafCells 25 = .ok (.istore_n 1, 1) := by decide +kernel
theorem dX8_deafCells_26 : decode cX8_deafCells 26 = .ok (.iinc 2 1, 3) := by decide +kernel
theorem dX8_deafCells_29 : decode cX8_deafCells 29 = .ok (.goto (-25), 3) := by decide +kernel
theorem dX8_deafCells_32 : decode cX8_deafCells 32 = .ok (.iload_n 1, 1) := by decide +kernel
theorem dX8_deafCells_33 : decode cX8_deafCells 33 = .ok (.ireturn, 1) := by decide +kernel
theorem dX8_anyBenchOn_0 : decode cX8_anyBenchOn 0 = .ok (.iconst 0, 1) := by decide +kernel
theorem dX8_anyBenchOn_1 : decode cX8_anyBenchOn 1 = .ok (.istore_n 3, 1) := by decide +kernel
theorem dX8_anyBenchOn_2 : decode cX8_anyBenchOn 2 = .ok (.iload_n 3, 1) := by decide +kernel
theorem dX8_anyBenchOn_3 : decode cX8_anyBenchOn 3 = .ok (.aload_n 0, 1) := by decide +kernel
theorem dX8_anyBenchOn_4 : decode cX8_anyBenchOn 4 = .ok (.getfield 21, 3) := by decide +kernel
theorem dX8_anyBenchOn_7 : decode cX8_anyBenchOn 7 = .ok (.getfield 63, 3) := by decide +kernel
theorem dX8_anyBenchOn_10 : decode cX8_anyBenchOn 10 = .ok (.if_icmp .ge 28, 3) := by decide +kernel
theorem dX8_anyBenchOn_13 : decode cX8_anyBenchOn 13 = .ok (.aload_n 0, 1) := by decide +kernel
theorem dX8_anyBenchOn_14 : decode cX8_anyBenchOn 14 = .ok (.getfield 21, 3) := by decide +kernel
theorem dX8_anyBenchOn_17 : decode cX8_anyBenchOn 17 = .ok (.iload_n 3, 1) := by decide +kernel
theorem dX8_anyBenchOn_18 : decode cX8_anyBenchOn 18 = .ok (.iload_n 2, 1) := by decide +kernel
theorem dX8_anyBenchOn_19 : decode cX8_anyBenchOn 19 = .ok (.aload_n 0, 1) := by decide +kernel
theorem dX8_anyBenchOn_20 : decode cX8_anyBenchOn 20 = .ok (.getfield 38, 3) := by decide +kernel
theorem dX8_anyBenchOn_23 : decode cX8_anyBenchOn 23 = .ok (.invokevirtual 92, 3) := by decide +kernel
theorem dX8_anyBenchOn_26 : decode cX8_anyBenchOn 26 = .ok (.iload_n 1, 1) := by decide +kernel
theorem dX8_anyBenchOn_27 : decode cX8_anyBenchOn 27 = .ok (.if_icmp .ne 5, 3) := by decide +kernel
theorem dX8_anyBenchOn_30 : decode cX8_anyBenchOn 30 = .ok (.iconst 1, 1) := by decide +kernel
theorem dX8_anyBenchOn_31 : decode cX8_anyBenchOn 31 = .ok (.ireturn, 1) := by decide +kernel
theorem dX8_anyBenchOn_32 : decode cX8_anyBenchOn 32 = .ok (.iinc 3 1, 3) := by decide +kernel
theorem dX8_anyBenchOn_35 : decode cX8_anyBenchOn 35 = .ok (.goto (-33), 3) := by decide +kernel
theorem dX8_anyBenchOn_38 : decode cX8_anyBenchOn 38 = .ok (.iconst 0, 1) := by decide +kernel
theorem dX8_anyBenchOn_39 : decode cX8_anyBenchOn 39 = .ok (.ireturn, 1) := by decide +kernel
theorem dX8_latestHour_0 : decode cX8_latestHour 0 = .ok (.aload_n 0, 1) := by decide +kernel
theorem dX8_latestHour_1 : decode cX8_latestHour 1 = .ok (.getfield 32, 3) := by decide +kernel
theorem dX8_latestHour_4 : decode cX8_latestHour 4 = .ok (.getfield 66, 3) := by decide +kernel
theorem dX8_latestHour_7 : decode cX8_latestHour 7 = .ok (.ifCond .le 23, 3) := by decide +kernel
theorem dX8_latestHour_10 : decode cX8_latestHour 10 = .ok (.aload_n 0, 1) := by decide +kernel
theorem dX8_latestHour_11 : decode cX8_latestHour 11 = .ok (.getfield 32, 3) := by decide +kernel
theorem dX8_latestHour_14 : decode cX8_latestHour 14 = .ok (.aload_n 0, 1) := by decide +kernel
theorem dX8_latestHour_15 : decode cX8_latestHour 15 = .ok (.getfield 32, 3) := by decide +kernel
theorem dX8_latestHour_18 : decode cX8_latestHour 18 = .ok (.getfield 66, 3) := by decide +kernel
theorem dX8_latestHour_21 : decode cX8_latestHour 21 = .ok (.iconst 1, 1) := by decide +kernel
theorem dX8_latestHour_22 : decode cX8_latestHour 22 = .ok (.isub, 1) := by decide +kernel
theorem dX8_latestHour_23 : decode cX8_latestHour 23 = .ok (.iconst 0, 1) := by decide +kernel
theorem dX8_latestHour_24 : decode cX8_latestHour 24 = .ok (.invokevirtual 96, 3) := by decide +kernel
theorem dX8_latestHour_27 : decode cX8_latestHour 27 = .ok (.goto 4, 3) := by decide +kernel
theorem dX8_latestHour_30 : decode cX8_latestHour 30 = .ok (.iconst 0, 1) := by decide +kernel
theorem dX8_latestHour_31 : decode cX8_latestHour 31 = .ok (.ireturn, 1) := by decide +kernel
theorem dX8_seatOf_0 : decode cX8_seatOf 0 = .ok (.iload_n 1, 1) := by decide +kernel
theorem dX8_seatOf_1 : decode cX8_seatOf 1 = .ok (.ifCond .lt 26, 3) := by decide +kernel
theorem dX8_seatOf_4 : decode cX8_seatOf 4 = .ok (.iload_n 1, 1) := by decide +kernel
theorem dX8_seatOf_5 : decode cX8_seatOf 5 = .ok (.aload_n 0, 1) := by decide +kernel
theorem dX8_seatOf_6 : decode cX8_seatOf 6 = .ok (.getfield 54, 3) := by decide +kernel
theorem dX8_seatOf_9 : decode cX8_seatOf 9 = .ok (.if_icmp .ge 18, 3) := by decide +kernel
theorem dX8_seatOf_12 : decode cX8_seatOf 12 = .ok (.iload_n 1, 1) := by decide +kernel
theorem dX8_seatOf_13 : decode cX8_seatOf 13 = .ok (.bipush 6, 2) := by decide +kernel
theorem dX8_seatOf_15 : decode cX8_seatOf 15 = .ok (.if_icmp .ge 12, 3) := by decide +kernel
theorem dX8_seatOf_18 : decode cX8_seatOf 18 = .ok (.aload_n 0, 1) := by decide +kernel
theorem dX8_seatOf_19 : decode cX8_seatOf 19 = .ok (.getfield 15, 3) := by decide +kernel
theorem dX8_seatOf_22 : decode cX8_seatOf 22 = .ok (.iload_n 1, 1) := by decide +kernel
theorem dX8_seatOf_23 : decode cX8_seatOf 23 = .ok (.iaload, 1) := by decide +kernel
theorem dX8_seatOf_24 : decode cX8_seatOf 24 = .ok (.goto 5, 3) := by decide +kernel
theorem dX8_seatOf_27 : decode cX8_seatOf 27 = .ok (.bipush (-4), 2) := by decide +kernel
theorem dX8_seatOf_29 : decode cX8_seatOf 29 = .ok (.ireturn, 1) := by decide +kernel
theorem dX8_sitterOn_0 : decode cX8_sitterOn 0 = .ok (.iconst 0, 1) := by decide +kernel
theorem dX8_sitterOn_1 : decode cX8_sitterOn 1 = .ok (.istore_n 2, 1) := by decide +kernel
theorem dX8_sitterOn_2 : decode cX8_sitterOn 2 = .ok (.iload_n 2, 1) := by decide +kernel
theorem dX8_sitterOn_3 : decode cX8_sitterOn 3 = .ok (.aload_n 0, 1) := by decide +kernel
theorem dX8_sitterOn_4 : decode cX8_sitterOn 4 = .ok (.getfield 54, 3) := by decide +kernel
theorem dX8_sitterOn_7 : decode cX8_sitterOn 7 = .ok (.if_icmp .ge 20, 3) := by decide +kernel
theorem dX8_sitterOn_10 : decode cX8_sitterOn 10 = .ok (.aload_n 0, 1) := by decide +kernel
theorem dX8_sitterOn_11 : decode cX8_sitterOn 11 = .ok (.iload_n 2, 1) := by decide +kernel
theorem dX8_sitterOn_12 : decode cX8_sitterOn 12 = .ok (.invokevirtual 100, 3) := by decide +kernel
theorem dX8_sitterOn_15 : decode cX8_sitterOn 15 = .ok (.iload_n 1, 1) := by decide +kernel
theorem dX8_sitterOn_16 : decode cX8_sitterOn 16 = .ok (.if_icmp .ne 5, 3) := by decide +kernel
theorem dX8_sitterOn_19 : decode cX8_sitterOn 19 = .ok (.iload_n 2, 1) := by decide +kernel
theorem dX8_sitterOn_20 : decode cX8_sitterOn 20 = .ok (.ireturn, 1) := by decide +kernel
theorem dX8_sitterOn_21 : decode cX8_sitterOn 21 = .ok (.iinc 2 1, 3) := by decide +kernel
theorem dX8_sitterOn_24 : decode cX8_sitterOn 24 = .ok (.goto (-22), 3) := by decide +kernel
theorem dX8_sitterOn_27 : decode cX8_sitterOn 27 = .ok (.bipush (-4), 2) := by decide +kernel
theorem dX8_sitterOn_29 : decode cX8_sitterOn 29 = .ok (.ireturn, 1) := by decide +kernel
theorem dX8_seatOn_0 : decode cX8_seatOn 0 = .ok (.aload_n 0, 1) := by decide +kernel
theorem dX8_seatOn_1 : decode cX8_seatOn 1 = .ok (.iload_n 2, 1) := by decide +kernel
theorem dX8_seatOn_2 : decode cX8_seatOn 2 = .ok (.invokevirtual 103, 3) := by decide +kernel
theorem dX8_seatOn_5 : decode cX8_seatOn 5 = .ok (.istore_n 3, 1) := by decide +kernel
theorem dX8_seatOn_6 : decode cX8_seatOn 6 = .ok (.aload_n 0, 1) := by decide +kernel
theorem dX8_seatOn_7 : decode cX8_seatOn 7 = .ok (.iload_n 1, 1) := by decide +kernel
theorem dX8_seatOn_8 : decode cX8_seatOn 8 = .ok (.invokevirtual 100, 3) := by decide +kernel
theorem dX8_seatOn_11 : decode cX8_seatOn 11 = .ok (.istore 4, 2) := by decide +kernel
theorem dX8_seatOn_13 : decode cX8_seatOn 13 = .ok (.iload_n 3, 1) := by decide +kernel
theorem dX8_seatOn_14 : decode cX8_seatOn 14 = .ok (.iconst 0, 1) := by decide +kernel
theorem dX8_seatOn_15 : decode cX8_seatOn 15 = .ok (.iconst 5, 1) := by decide +kernel
theorem dX8_seatOn_16 : decode cX8_seatOn 16 = .ok (.invokestatic 106, 3) := by decide +kernel
theorem dX8_seatOn_19 : decode cX8_seatOn 19 = .ok (.ifCond .eq 11, 3) := by decide +kernel
theorem dX8_seatOn_22 : decode cX8_seatOn 22 = .ok (.aload_n 0, 1) := by decide +kernel
theorem dX8_seatOn_23 : decode cX8_seatOn 23 = .ok (.getfield 15, 3) := by decide +kernel
theorem dX8_seatOn_26 : decode cX8_seatOn 26 = .ok (.iload_n 3, 1) := by decide +kernel
theorem dX8_seatOn_27 : decode cX8_seatOn 27 = .ok (.iload 4, 2) := by decide +kernel
theorem dX8_seatOn_29 : decode cX8_seatOn 29 = .ok (.iastore, 1) := by decide +kernel
theorem dX8_seatOn_30 : decode cX8_seatOn 30 = .ok (.iload_n 1, 1) := by decide +kernel
theorem dX8_seatOn_31 : decode cX8_seatOn 31 = .ok (.iconst 0, 1) := by decide +kernel
theorem dX8_seatOn_32 : decode cX8_seatOn 32 = .ok (.iconst 5, 1) := by decide +kernel
theorem dX8_seatOn_33 : decode cX8_seatOn 33 = .ok (.invokestatic 106, 3) := by decide +kernel
theorem dX8_seatOn_36 : decode cX8_seatOn 36 = .ok (.ifCond .eq 10, 3) := by decide +kernel
theorem dX8_seatOn_39 : decode cX8_seatOn 39 = .ok (.aload_n 0, 1) := by decide +kernel
theorem dX8_seatOn_40 : decode cX8_seatOn 40 = .ok (.getfield 15, 3) := by decide +kernel
theorem dX8_seatOn_43 : decode cX8_seatOn 43 = .ok (.iload_n 1, 1) := by decide +kernel
theorem dX8_seatOn_44 : decode cX8_seatOn 44 = .ok (.iload_n 2, 1) := by decide +kernel
theorem dX8_seatOn_45 : decode cX8_seatOn 45 = .ok (.iastore, 1) := by decide +kernel
theorem dX8_seatOn_46 : decode cX8_seatOn 46 = .ok (.iload 4, 2) := by decide +kernel
theorem dX8_seatOn_48 : decode cX8_seatOn 48 = .ok (.ireturn, 1) := by decide +kernel
theorem dX9_init_0 : decode cX9_init 0 = .ok (.aload_n 0, 1) := by decide +kernel
theorem dX9_init_1 : decode cX9_init 1 = .ok (.invokespecial 3, 3) := by decide +kernel
theorem dX9_init_4 : decode cX9_init 4 = .ok (.aload_n 0, 1) := by decide +kernel
theorem dX9_init_5 : decode cX9_init 5 = .ok (.iconst 0, 1) := by decide +kernel
theorem dX9_init_6 : decode cX9_init 6 = .ok (.putfield 9, 3) := by decide +kernel
theorem dX9_init_9 : decode cX9_init 9 = .ok (.aload_n 0, 1) := by decide +kernel
theorem dX9_init_10 : decode cX9_init 10 = .ok (.bipush 12, 2) := by decide +kernel
theorem dX9_init_12 : decode cX9_init 12 = .ok (.newarray .int, 2) := by decide +kernel
theorem dX9_init_14 : decode cX9_init 14 = .ok (.putfield 15, 3) := by decide +kernel
theorem dX9_init_17 : decode cX9_init 17 = .ok (.aload_n 0, 1) := by decide +kernel
theorem dX9_init_18 : decode cX9_init 18 = .ok (.bipush 12, 2) := by decide +kernel
theorem dX9_init_20 : decode cX9_init 20 = .ok (.newarray .int, 2) := by decide +kernel
theorem dX9_init_22 : decode cX9_init 22 = .ok (.putfield 19, 3) := by decide +kernel
theorem dX9_init_25 : decode cX9_init 25 = .ok (.aload_n 0, 1) := by decide +kernel
theorem dX9_init_26 : decode cX9_init 26 = .ok (.bipush 12, 2) := by decide +kernel
theorem dX9_init_28 : decode cX9_init 28 = .ok (.newarray .int, 2) := by decide +kernel
theorem dX9_init_30 : decode cX9_init 30 = .ok (.putfield 22, 3) := by decide +kernel
theorem dX9_init_33 : decode cX9_init 33 = .ok (.return_, 1) := by decide +kernel
theorem dX9_add_0 : decode cX9_add 0 = .ok (.aload_n 0, 1) := by decide +kernel
theorem dX9_add_1 : decode cX9_add 1 = .ok (.getfield 9, 3) := by decide +kernel
theorem dX9_add_4 : decode cX9_add 4 = .ok (.ifCond .lt 12, 3) := by decide +kernel
theorem dX9_add_7 : decode cX9_add 7 = .ok (.aload_n 0, 1) := by decide +kernel
theorem dX9_add_8 : decode cX9_add 8 = .ok (.getfield 9, 3) := by decide +kernel
theorem dX9_add_11 : decode cX9_add 11 = .ok (.bipush 12, 2) := by decide +kernel
theorem dX9_add_13 : decode cX9_add 13 = .ok (.if_icmp .lt 4, 3) := by decide +kernel
theorem dX9_add_16 : decode cX9_add 16 = .ok (.return_, 1) := by decide +kernel
theorem dX9_add_17 : decode cX9_add 17 = .ok (.aload_n 0, 1) := by decide +kernel
theorem dX9_add_18 : decode cX9_add 18 = .ok (.getfield 15, 3) := by decide +kernel
theorem dX9_add_21 : decode cX9_add 21 = .ok (.aload_n 0, 1) := by decide +kernel
theorem dX9_add_22 : decode cX9_add 22 = .ok (.getfield 9, 3) := by decide +kernel
theorem dX9_add_25 : decode cX9_add 25 = .ok (.iload_n 1, 1) := by decide +kernel
theorem dX9_add_26 : decode cX9_add 26 = .ok (.iastore, 1) := by decide +kernel
theorem dX9_add_27 : decode cX9_add 27 = .ok (.aload_n 0, 1) := by decide +kernel
theorem dX9_add_28 : decode cX9_add 28 = .ok (.getfield 19, 3) := by decide +kernel
theorem dX9_add_31 : decode cX9_add 31 = .ok (.aload_n 0, 1) := by decide +kernel
theorem dX9_add_32 : decode cX9_add 32 = .ok (.getfield 9, 3) := by decide +kernel
theorem dX9_add_35 : decode cX9_add 35 = .ok (.iload_n 2, 1) := by decide +kernel
theorem dX9_add_36 : decode cX9_add 36 = .ok (.iastore, 1) := by decide +kernel
theorem dX9_add_37 : decode cX9_add 37 = .ok (.aload_n 0, 1) := by decide +kernel
theorem dX9_add_38 : decode cX9_add 38 = .ok (.getfield 22, 3) := by decide +kernel
theorem dX9_add_41 : decode cX9_add 41 = .ok (.aload_n 0, 1) := by decide +kernel
theorem dX9_add_42 : decode cX9_add 42 = .ok (.getfield 9, 3) := by decide +kernel
theorem dX9_add_45 : decode cX9_add 45 = .ok (.iload_n 3, 1) := by decide +kernel
theorem dX9_add_46 : decode cX9_add 46 = .ok (.iastore, 1) := by decide +kernel
theorem dX9_add_47 : decode cX9_add 47 = .ok (.aload_n 0, 1) := by decide +kernel
theorem dX9_add_48 : decode cX9_add 48 = .ok (.dup, 1) := by decide +kernel
theorem dX9_add_49 : decode cX9_add 49 = .ok (.getfield 9, 3) := by decide +kernel
theorem dX9_add_52 : decode cX9_add 52 = .ok (.iconst 1, 1) := by decide +kernel
theorem dX9_add_53 : decode cX9_add 53 = .ok (.iadd, 1) := by decide +kernel
theorem dX9_add_54 : decode cX9_add 54 = .ok (.putfield 9, 3) := by decide +kernel
theorem dX9_add_57 : decode cX9_add 57 = .ok (.return_, 1) := by decide +kernel
theorem dX9_copyFrom_0 : decode cX9_copyFrom 0 = .ok (.aload_n 0, 1) := by decide +kernel
theorem dX9_copyFrom_1 : decode cX9_copyFrom 1 = .ok (.aload_n 1, 1) := by decide +kernel
theorem dX9_copyFrom_2 : decode cX9_copyFrom 2 = .ok (.getfield 9, 3) := by decide +kernel
theorem dX9_copyFrom_5 : decode cX9_copyFrom 5 = .ok (.putfield 9, 3) := by decide +kernel
theorem dX9_copyFrom_8 : decode cX9_copyFrom 8 = .ok (.aload_n 1, 1) := by decide +kernel
theorem dX9_copyFrom_9 : decode cX9_copyFrom 9 = .ok (.getfield 15, 3) := by decide +kernel
theorem dX9_copyFrom_12 : decode cX9_copyFrom 12 = .ok (.iconst 0, 1) := by decide +kernel
theorem dX9_copyFrom_13 : decode cX9_copyFrom 13 = .ok (.aload_n 0, 1) := by decide +kernel
theorem dX9_copyFrom_14 : decode cX9_copyFrom 14 = .ok (.getfield 15, 3) := by decide +kernel
theorem dX9_copyFrom_17 : decode cX9_copyFrom 17 = .ok (.iconst 0, 1) := by decide +kernel
theorem dX9_copyFrom_18 : decode cX9_copyFrom 18 = .ok (.bipush 12, 2) := by decide +kernel
theorem dX9_copyFrom_20 : decode cX9_copyFrom 20 = .ok (.invokestatic 25, 3) := by decide +kernel
theorem dX9_copyFrom_23 : decode cX9_copyFrom 23 = .ok (.aload_n 1, 1) := by decide +kernel
theorem dX9_copyFrom_24 : decode cX9_copyFrom 24 = .ok (.getfield 19, 3) := by decide +kernel
theorem dX9_copyFrom_27 : decode cX9_copyFrom 27 = .ok (.iconst 0, 1) := by decide +kernel
theorem dX9_copyFrom_28 : decode cX9_copyFrom 28 = .ok (.aload_n 0, 1) := by decide +kernel
theorem dX9_copyFrom_29 : decode cX9_copyFrom 29 = .ok (.getfield 19, 3) := by decide +kernel
theorem dX9_copyFrom_32 : decode cX9_copyFrom 32 = .ok (.iconst 0, 1) := by decide +kernel
theorem dX9_copyFrom_33 : decode cX9_copyFrom 33 = .ok (.bipush 12, 2) := by decide +kernel
theorem dX9_copyFrom_35 : decode cX9_copyFrom 35 = .ok (.invokestatic 25, 3) := by decide +kernel
theorem dX9_copyFrom_38 : decode cX9_copyFrom 38 = .ok (.aload_n 1, 1) := by decide +kernel
theorem dX9_copyFrom_39 : decode cX9_copyFrom 39 = .ok (.getfield 22, 3) := by decide +kernel
theorem dX9_copyFrom_42 : decode cX9_copyFrom 42 = .ok (.iconst 0, 1) := by decide +kernel
theorem dX9_copyFrom_43 : decode cX9_copyFrom 43 = .ok (.aload_n 0, 1) := by decide +kernel
theorem dX9_copyFrom_44 : decode cX9_copyFrom 44 = .ok (.getfield 22, 3) := by decide +kernel
theorem dX9_copyFrom_47 : decode cX9_copyFrom 47 = .ok (.iconst 0, 1) := by decide +kernel
theorem dX9_copyFrom_48 : decode cX9_copyFrom 48 = .ok (.bipush 12, 2) := by decide +kernel
theorem dX9_copyFrom_50 : decode cX9_copyFrom 50 = .ok (.invokestatic 25, 3) := by decide +kernel
theorem dX9_copyFrom_53 : decode cX9_copyFrom 53 = .ok (.return_, 1) := by decide +kernel
theorem dX9_part_0 : decode cX9_part 0 = .ok (.iload_n 1, 1) := by decide +kernel
theorem dX9_part_1 : decode cX9_part 1 = .ok (.ifCond .lt 17, 3) := by decide +kernel
theorem dX9_part_4 : decode cX9_part 4 = .ok (.iload_n 1, 1) := by decide +kernel
theorem dX9_part_5 : decode cX9_part 5 = .ok (.aload_n 0, 1) := by decide +kernel
theorem dX9_part_6 : decode cX9_part 6 = .ok (.getfield 9, 3) := by decide +kernel
theorem dX9_part_9 : decode cX9_part 9 = .ok (.if_icmp .ge 9, 3) := by decide +kernel
theorem dX9_part_12 : decode cX9_part 12 = .ok (.iload_n 1, 1) := by decide +kernel
theorem dX9_part_13 : decode cX9_part 13 = .ok (.bipush 12, 2) := by decide +kernel
theorem dX9_part_15 : decode cX9_part 15 = .ok (.if_icmp .lt 5, 3) := by decide +kernel
theorem dX9_part_18 : decode cX9_part 18 = .ok (.iconst (-1), 1) := by decide +kernel
theorem dX9_part_19 : decode cX9_part 19 = .ok (.ireturn, 1) := by decide +kernel
theorem dX9_part_20 : decode cX9_part 20 = .ok (.iload_n 2, 1) := by decide +kernel
theorem dX9_part_21 : decode cX9_part 21 = .ok (.tableswitch 48 0 2 #[27, 34, 41], 27) := by decide +kernel
theorem dX9_part_48 : decode cX9_part 48 = .ok (.aload_n 0, 1) := by decide +kernel
theorem dX9_part_49 : decode cX9_part 49 = .ok (.getfield 15, 3) := by decide +kernel
theorem dX9_part_52 : decode cX9_part 52 = .ok (.iload_n 1, 1) := by decide +kernel
theorem dX9_part_53 : decode cX9_part 53 = .ok (.iaload, 1) := by decide +kernel
theorem dX9_part_54 : decode cX9_part 54 = .ok (.ireturn, 1) := by decide +kernel
theorem dX9_part_55 : decode cX9_part 55 = .ok (.aload_n 0, 1) := by decide +kernel
theorem dX9_part_56 : decode cX9_part 56 = .ok (.getfield 19, 3) := by decide +kernel
theorem dX9_part_59 : decode cX9_part 59 = .ok (.iload_n 1, 1) := by decide +kernel
theorem dX9_part_60 : decode cX9_part 60 = .ok (.iaload, 1) := by decide +kernel
theorem dX9_part_61 : decode cX9_part 61 = .ok (.ireturn, 1) := by decide +kernel
theorem dX9_part_62 : decode cX9_part 62 = .ok (.aload_n 0, 1) := by decide +kernel
theorem dX9_part_63 : decode cX9_part 63 = .ok (.getfield 22, 3) := by decide +kernel
theorem dX9_part_66 : decode cX9_part 66 = .ok (.iload_n 1, 1) := by decide +kernel
theorem dX9_part_67 : decode cX9_part 67 = .ok (.iaload, 1) := by decide +kernel
theorem dX9_part_68 : decode cX9_part 68 = .ok (.ireturn, 1) := by decide +kernel
theorem dX9_part_69 : decode cX9_part 69 = .ok (.iconst (-1), 1) := by decide +kernel
theorem dX9_part_70 : decode cX9_part 70 = .ok (.ireturn, 1) := by decide +kernel
theorem dX10_init_0 : decode cX10_init 0 = .ok (.aload_n 0, 1) := by decide +kernel
theorem dX10_init_1 : decode cX10_init 1 = .ok (.invokespecial 1, 3) := by decide +kernel
theorem dX10_init_4 : decode cX10_init 4 = .ok (.aload_n 0, 1) := by decide +kernel
theorem dX10_init_5 : decode cX10_init 5 = .ok (.new 7, 3) := by decide +kernel
theorem dX10_init_8 : decode cX10_init 8 = .ok (.dup, 1) := by decide +kernel
theorem dX10_init_9 : decode cX10_init 9 = .ok (.invokespecial 9, 3) := by decide +kernel
theorem dX10_init_12 : decode cX10_init 12 = .ok (.putfield 10, 3) := by decide +kernel
theorem dX10_init_15 : decode cX10_init 15 = .ok (.aload_n 0, 1) := by decide +kernel
theorem dX10_init_16 : decode cX10_init 16 = .ok (.new 7, 3) := by decide +kernel
theorem dX10_init_19 : decode cX10_init 19 = .ok (.dup, 1) := by decide +kernel
theorem dX10_init_20 : decode cX10_init 20 = .ok (.invokespecial 9, 3) := by decide +kernel
theorem dX10_init_23 : decode cX10_init 23 = .ok (.putfield 16, 3) := by decide +kernel
theorem dX10_init_26 : decode cX10_init 26 = .ok (.aload_n 0, 1) := by decide +kernel
theorem dX10_init_27 : decode cX10_init 27 = .ok (.new 7, 3) := by decide +kernel
theorem dX10_init_30 : decode cX10_init 30 = .ok (.dup, 1) := by decide +kernel
theorem dX10_init_31 : decode cX10_init 31 = .ok (.invokespecial 9, 3) := by decide +kernel
theorem dX10_init_34 : decode cX10_init 34 = .ok (.putfield 19, 3) := by decide +kernel
theorem dX10_init_37 : decode cX10_init 37 = .ok (.aload_n 0, 1) := by decide +kernel
theorem dX10_init_38 : decode cX10_init 38 = .ok (.iconst 0, 1) := by decide +kernel
theorem dX10_init_39 : decode cX10_init 39 = .ok (.putfield 22, 3) := by decide +kernel
theorem dX10_init_42 : decode cX10_init 42 = .ok (.aload_n 0, 1) := by decide +kernel
theorem dX10_init_43 : decode cX10_init 43 = .ok (.new 26, 3) := by decide +kernel
theorem dX10_init_46 : decode cX10_init 46 = .ok (.dup, 1) := by decide +kernel
theorem dX10_init_47 : decode cX10_init 47 = .ok (.invokespecial 28, 3) := by decide +kernel
theorem dX10_init_50 : decode cX10_init 50 = .ok (.putfield 29, 3) := by decide +kernel
theorem dX10_init_53 : decode cX10_init 53 = .ok (.aload_n 0, 1) := by decide +kernel
theorem dX10_init_54 : decode cX10_init 54 = .ok (.new 33, 3) := by decide +kernel
theorem dX10_init_57 : decode cX10_init 57 = .ok (.dup, 1) := by decide +kernel
theorem dX10_init_58 : decode cX10_init 58 = .ok (.invokespecial 35, 3) := by decide +kernel
theorem dX10_init_61 : decode cX10_init 61 = .ok (.putfield 36, 3) := by decide +kernel
theorem dX10_init_64 : decode cX10_init 64 = .ok (.aload_n 0, 1) := by decide +kernel
theorem dX10_init_65 : decode cX10_init 65 = .ok (.new 40, 3) := by decide +kernel
theorem dX10_init_68 : decode cX10_init 68 = .ok (.dup, 1) := by decide +kernel
theorem dX10_init_69 : decode cX10_init 69 = .ok (.invokespecial 42, 3) := by decide +kernel
theorem dX10_init_72 : decode cX10_init 72 = .ok (.putfield 43, 3) := by decide +kernel
theorem dX10_init_75 : decode cX10_init 75 = .ok (.aload_n 0, 1) := by decide +kernel
theorem dX10_init_76 : decode cX10_init 76 = .ok (.new 47, 3) := by decide +kernel
theorem dX10_init_79 : decode cX10_init 79 = .ok (.dup, 1) := by decide +kernel
theorem dX10_init_80 : decode cX10_init 80 = .ok (.invokespecial 49, 3) := by decide +kernel
theorem dX10_init_83 : decode cX10_init 83 = .ok (.putfield 50, 3) := by decide +kernel
theorem dX10_init_86 : decode cX10_init 86 = .ok (.aload_n 0, 1) := by decide +kernel
theorem dX10_init_87 : decode cX10_init 87 = .ok (.new 54, 3) := by decide +kernel
theorem dX10_init_90 : decode cX10_init 90 = .ok (.dup, 1) := by decide +kernel
theorem dX10_init_91 : decode cX10_init 91 = .ok (.invokespecial 56, 3) := by decide +kernel
theorem dX10_init_94 : decode cX10_init 94 = .ok (.putfield 57, 3) := by decide +kernel
theorem dX10_init_97 : decode cX10_init 97 = .ok (.aload_n 0, 1) := by decide +kernel
theorem dX10_init_98 : decode cX10_init 98 = .ok (.iconst 0, 1) := by decide +kernel
theorem dX10_init_99 : decode cX10_init 99 = .ok (.putfield 61, 3) := by decide +kernel
theorem dX10_init_102 : decode cX10_init 102 = .ok (.return_, 1) := by decide +kernel
theorem dX10_feed_0 : decode cX10_feed 0 = .ok (.aload_n 0, 1) := by decide +kernel
theorem dX10_feed_1 : decode cX10_feed 1 = .ok (.getfield 29, 3) := by decide +kernel
theorem dX10_feed_4 : decode cX10_feed 4 = .ok (.getfield 64, 3) := by decide +kernel
theorem dX10_feed_7 : decode cX10_feed 7 = .ok (.lload_n 1, 1) := by decide +kernel
theorem dX10_feed_8 : decode cX10_feed 8 = .ok (.invokevirtual 68, 3) := by decide +kernel
theorem dX10_feed_11 : decode cX10_feed 11 = .ok (.ireturn, 1) := by decide +kernel
theorem dX10_end_0 : decode cX10_end 0 = .ok (.iload_n 1, 1) := by decide +kernel
theorem dX10_end_1 : decode cX10_end 1 = .ok (.iconst 0, 1) := by decide +kernel
theorem dX10_end_2 : decode cX10_end 2 = .ok (.aload_n 0, 1) := by decide +kernel
theorem dX10_end_3 : decode cX10_end 3 = .ok (.getfield 29, 3) := by decide +kernel
theorem dX10_end_6 : decode cX10_end 6 = .ok (.getfield 64, 3) := by decide +kernel
theorem dX10_end_9 : decode cX10_end 9 = .ok (.getfield 74, 3) := by decide +kernel
theorem dX10_end_12 : decode cX10_end 12 = .ok (.invokestatic 77, 3) := by decide +kernel
theorem dX10_end_15 : decode cX10_end 15 = .ok (.ifCond .ne 5, 3) := by decide +kernel
theorem dX10_end_18 : decode cX10_end 18 = .ok (.iconst (-1), 1) := by decide +kernel
theorem dX10_end_19 : decode cX10_end 19 = .ok (.ireturn, 1) := by decide +kernel
theorem dX10_end_20 : decode cX10_end 20 = .ok (.aload_n 0, 1) := by decide +kernel
theorem dX10_end_21 : decode cX10_end 21 = .ok (.getfield 29, 3) := by decide +kernel
theorem dX10_end_24 : decode cX10_end 24 = .ok (.getfield 64, 3) := by decide +kernel
theorem dX10_end_27 : decode cX10_end 27 = .ok (.getfield 74, 3) := by decide +kernel
theorem dX10_end_30 : decode cX10_end 30 = .ok (.istore_n 2, 1) := by decide +kernel
theorem dX10_end_31 : decode cX10_end 31 = .ok (.aload_n 0, 1) := by decide +kernel
theorem dX10_end_32 : decode cX10_end 32 = .ok (.getfield 29, 3) := by decide +kernel
theorem dX10_end_35 : decode cX10_end 35 = .ok (.getfield 64, 3) := by decide +kernel
theorem dX10_end_38 : decode cX10_end 38 = .ok (.iload_n 1, 1) := by decide +kernel
theorem dX10_end_39 : decode cX10_end 39 = .ok (.putfield 74, 3) := by decide +kernel
theorem dX10_end_42 : decode cX10_end 42 = .ok (.iload_n 2, 1) := by decide +kernel
theorem dX10_end_43 : decode cX10_end 43 = .ok (.ireturn, 1) := by decide +kernel
theorem dX10_text_0 : decode cX10_text 0 = .ok (.aload_n 0, 1) := by decide +kernel
theorem dX10_text_1 : decode cX10_text 1 = .ok (.getfield 29, 3) := by decide +kernel
theorem dX10_text_4 : decode cX10_text 4 = .ok (.invokevirtual 81, 3) := by decide +kernel
theorem dX10_text_7 : decode cX10_text 7 = .ok (.istore_n 1, 1) := by decide +kernel
theorem dX10_text_8 : decode cX10_text 8 = .ok (.aload_n 0, 1) := by decide +kernel
theorem dX10_text_9 : decode cX10_text 9 = .ok (.getfield 29, 3) := by decide +kernel
theorem dX10_text_12 : decode cX10_text 12 = .ok (.getfield 64, 3) := by decide +kernel
theorem dX10_text_15 : decode cX10_text 15 = .ok (.iconst 0, 1) := by decide +kernel
theorem dX10_text_16 : decode cX10_text 16 = .ok (.putfield 74, 3) := by decide +kernel
theorem dX10_text_19 : decode cX10_text 19 = .ok (.aload_n 0, 1) := by decide +kernel
theorem dX10_text_20 : decode cX10_text 20 = .ok (.getfield 29, 3) := by decide +kernel
theorem dX10_text_23 : decode cX10_text 23 = .ok (.getfield 64, 3) := by decide +kernel
theorem dX10_text_26 : decode cX10_text 26 = .ok (.getfield 85, 3) := by decide +kernel
theorem dX10_text_29 : decode cX10_text 29 = .ok (.ifCond .eq 17, 3) := by decide +kernel
theorem dX10_text_32 : decode cX10_text 32 = .ok (.bipush (-10), 2) := by decide +kernel
theorem dX10_text_34 : decode cX10_text 34 = .ok (.aload_n 0, 1) := by decide +kernel
theorem dX10_text_35 : decode cX10_text 35 = .ok (.getfield 29, 3) := by decide +kernel
theorem dX10_text_38 : decode cX10_text 38 = .ok (.getfield 64, 3) := by decide +kernel
theorem dX10_text_41 : decode cX10_text 41 = .ok (.getfield 88, 3) := by decide +kernel
theorem dX10_text_44 : decode cX10_text 44 = .ok (.isub, 1) := by decide +kernel
theorem dX10_text_45 : decode cX10_text 45 = .ok (.ireturn, 1) := by decide +kernel
theorem dX10_text_46 : decode cX10_text 46 = .ok (.aload_n 0, 1) := by decide +kernel
theorem dX10_text_47 : decode cX10_text 47 = .ok (.getfield 10, 3) := by decide +kernel
theorem dX10_text_50 : decode cX10_text 50 = .ok (.aload_n 0, 1) := by decide +kernel
theorem dX10_text_51 : decode cX10_text 51 = .ok (.getfield 29, 3) := by decide +kernel
theorem dX10_text_54 : decode cX10_text 54 = .ok (.getfield 91, 3) := by decide +kernel
theorem dX10_text_57 : decode cX10_text 57 = .ok (.invokevirtual 94, 3) := by decide +kernel
theorem dX10_text_60 : decode cX10_text 60 = .ok (.aload_n 0, 1) := by decide +kernel
theorem dX10_text_61 : decode cX10_text 61 = .ok (.iconst 0, 1) := by decide +kernel
theorem dX10_text_62 : decode cX10_text 62 = .ok (.putfield 22, 3) := by decide +kernel
theorem dX10_text_65 : decode cX10_text 65 = .ok (.iload_n 1, 1) := by decide +kernel
theorem dX10_text_66 : decode cX10_text 66 = .ok (.ireturn, 1) := by decide +kernel
theorem dX10_fault_0 : decode cX10_fault 0 = .ok (.aload_n 0, 1) := by decide +kernel
theorem dX10_fault_1 : decode cX10_fault 1 = .ok (.getfield 29, 3) := by decide +kernel
theorem dX10_fault_4 : decode cX10_fault 4 = .ok (.getfield 64, 3) := by decide +kernel
theorem dX10_fault_7 : decode cX10_fault 7 = .ok (.getfield 85, 3) := by decide +kernel
theorem dX10_fault_10 : decode cX10_fault 10 = .ok (.ireturn, 1) := by decide +kernel
theorem dX10_rule_0 : decode cX10_rule 0 = .ok (.iload_n 1, 1) := by decide +kernel
theorem dX10_rule_1 : decode cX10_rule 1 = .ok (.tableswitch 75 0 4 #[35, 43, 51, 59, 67], 35) := by decide +kernel
theorem dX10_rule_36 : decode cX10_rule 36 = .ok (.aload_n 0, 1) := by decide +kernel
theorem dX10_rule_37 : decode cX10_rule 37 = .ok (.getfield 10, 3) := by decide +kernel
theorem dX10_rule_40 : decode cX10_rule 40 = .ok (.getfield 98, 3) := by decide +kernel
theorem dX10_rule_43 : decode cX10_rule 43 = .ok (.ireturn, 1) := by decide +kernel
theorem dX10_rule_44 : decode cX10_rule 44 = .ok (.aload_n 0, 1) := by decide +kernel
theorem dX10_rule_45 : decode cX10_rule 45 = .ok (.getfield 10, 3) := by decide +kernel
theorem dX10_rule_48 : decode cX10_rule 48 = .ok (.getfield 101, 3) := by decide +kernel
theorem dX10_rule_51 : decode cX10_rule 51 = .ok (.ireturn, 1) := by decide +kernel
theorem dX10_rule_52 : decode cX10_rule 52 = .ok (.aload_n 0, 1) := by decide +kernel
theorem dX10_rule_53 : decode cX10_rule 53 = .ok (.getfield 10, 3) := by decide +kernel
theorem dX10_rule_56 : decode cX10_rule 56 = .ok (.getfield 104, 3) := by decide +kernel
theorem dX10_rule_59 : decode cX10_rule 59 = .ok (.ireturn, 1) := by decide +kernel
theorem dX10_rule_60 : decode cX10_rule 60 = .ok (.aload_n 0, 1) := by decide +kernel
theorem dX10_rule_61 : decode cX10_rule 61 = .ok (.getfield 10, 3) := by decide +kernel
theorem dX10_rule_64 : decode cX10_rule 64 = .ok (.getfield 107, 3) := by decide +kernel
theorem dX10_rule_67 : decode cX10_rule 67 = .ok (.ireturn, 1) := by decide +kernel
theorem dX10_rule_68 : decode cX10_rule 68 = .ok (.aload_n 0, 1) := by decide +kernel
theorem dX10_rule_69 : decode cX10_rule 69 = .ok (.getfield 10, 3) := by decide +kernel
theorem dX10_rule_72 : decode cX10_rule 72 = .ok (.getfield 110, 3) := by decide +kernel
theorem dX10_rule_75 : decode cX10_rule 75 = .ok (.ireturn, 1) := by decide +kernel
theorem dX10_rule_76 : decode cX10_rule 76 = .ok (.iconst (-1), 1) := by decide +kernel
theorem dX10_rule_77 : decode cX10_rule 77 = .ok (.ireturn, 1) := by decide +kernel
theorem dX10_cell_0 : decode cX10_cell 0 = .ok (.aload_n 0, 1) := by decide +kernel
theorem dX10_cell_1 : decode cX10_cell 1 = .ok (.getfield 10, 3) := by decide +kernel
theorem dX10_cell_4 : decode cX10_cell 4 = .ok (.iload_n 1, 1) := by decide +kernel
theorem dX10_cell_5 : decode cX10_cell 5 = .ok (.invokevirtual 113, 3) := by decide +kernel
theorem dX10_cell_8 : decode cX10_cell 8 = .ok (.ifCond .eq 14, 3) := by decide +kernel
theorem dX10_cell_11 : decode cX10_cell 11 = .ok (.aload_n 0, 1) := by decide +kernel
theorem dX10_cell_12 : decode cX10_cell 12 = .ok (.getfield 10, 3) := by decide +kernel
theorem dX10_cell_15 : decode cX10_cell 15 = .ok (.iload_n 1, 1) := by decide +kernel
theorem dX10_cell_16 : decode cX10_cell 16 = .ok (.invokevirtual 117, 3) := by decide +kernel
theorem dX10_cell_19 : decode cX10_cell 19 = .ok (.goto 4, 3) := by decide +kernel
theorem dX10_cell_22 : decode cX10_cell 22 = .ok (.iconst (-1), 1) := by decide +kernel
theorem dX10_cell_23 : decode cX10_cell 23 = .ok (.ireturn, 1) := by decide +kernel
theorem dX10_bench_0 : decode cX10_bench 0 = .ok (.aload_n 0, 1) := by decide +kernel
theorem dX10_bench_1 : decode cX10_bench 1 = .ok (.iload_n 1, 1) := by decide +kernel
theorem dX10_bench_2 : decode cX10_bench 2 = .ok (.invokevirtual 121, 3) := by decide +kernel
theorem dX10_bench_5 : decode cX10_bench 5 = .ok (.ifCond .eq 10, 3) := by decide +kernel
theorem dX10_bench_8 : decode cX10_bench 8 = .ok (.iload_n 2, 1) := by decide +kernel
theorem dX10_bench_9 : decode cX10_bench 9 = .ok (.invokestatic 124, 3) := by decide +kernel
theorem dX10_bench_12 : decode cX10_bench 12 = .ok (.ifCond .ne 5, 3) := by decide +kernel
theorem dX10_bench_15 : decode cX10_bench 15 = .ok (.iconst (-1), 1) := by decide +kernel
theorem dX10_bench_16 : decode cX10_bench 16 = .ok (.ireturn, 1) := by decide +kernel
theorem dX10_bench_17 : decode cX10_bench 17 = .ok (.iload_n 3, 1) := by decide +kernel
theorem dX10_bench_18 : decode cX10_bench 18 = .ok (.tableswitch 100 0 4 #[34, 54, 67, 79, 91], 34) := by decide +kernel
theorem dX10_bench_52 : decode cX10_bench 52 = .ok (.aload_n 0, 1) := by decide +kernel
theorem dX10_bench_53 : decode cX10_bench 53 = .ok (.getfield 10, 3) := by decide +kernel
theorem dX10_bench_56 : decode cX10_bench 56 = .ok (.getfield 127, 3) := by decide +kernel
theorem dX10_bench_59 : decode cX10_bench 59 = .ok (.iload_n 1, 1) := by decide +kernel
theorem dX10_bench_60 : decode cX10_bench 60 = .ok (.iload_n 2, 1) := by decide +kernel
theorem dX10_bench_61 : decode cX10_bench 61 = .ok (.aload_n 0, 1) := by decide +kernel
theorem dX10_bench_62 : decode cX10_bench 62 = .ok (.getfield 10, 3) := by decide +kernel
theorem dX10_bench_65 : decode cX10_bench 65 = .ok (.getfield 98, 3) := by decide +kernel
theorem dX10_bench_68 : decode cX10_bench 68 = .ok (.invokevirtual 131, 3) := by decide +kernel
theorem dX10_bench_71 : decode cX10_bench 71 = .ok (.ireturn, 1) := by decide +kernel
theorem dX10_bench_72 : decode cX10_bench 72 = .ok (.aload_n 0, 1) := by decide +kernel
theorem dX10_bench_73 : decode cX10_bench 73 = .ok (.getfield 10, 3) := by decide +kernel
theorem dX10_bench_76 : decode cX10_bench 76 = .ok (.getfield 127, 3) := by decide +kernel
theorem dX10_bench_79 : decode cX10_bench 79 = .ok (.iload_n 1, 1) := by decide +kernel
theorem dX10_bench_80 : decode cX10_bench 80 = .ok (.iload_n 2, 1) := by decide +kernel
theorem dX10_bench_81 : decode cX10_bench 81 = .ok (.invokevirtual 137, 3) := by decide +kernel
theorem dX10_bench_84 : decode cX10_bench 84 = .ok (.ireturn, 1) := by decide +kernel
theorem dX10_bench_85 : decode cX10_bench 85 = .ok (.aload_n 0, 1) := by decide +kernel
theorem dX10_bench_86 : decode cX10_bench 86 = .ok (.getfield 10, 3) := by decide +kernel
theorem dX10_bench_89 : decode cX10_bench 89 = .ok (.getfield 127, 3) := by decide +kernel
theorem dX10_bench_92 : decode cX10_bench 92 = .ok (.iload_n 1, 1) := by decide +kernel
theorem dX10_bench_93 : decode cX10_bench 93 = .ok (.invokevirtual 141, 3) := by decide +kernel
theorem dX10_bench_96 : decode cX10_bench 96 = .ok (.ireturn, 1) := by decide +kernel
theorem dX10_bench_97 : decode cX10_bench 97 = .ok (.aload_n 0, 1) := by decide +kernel
theorem dX10_bench_98 : decode cX10_bench 98 = .ok (.getfield 10, 3) := by decide +kernel
theorem dX10_bench_101 : decode cX10_bench 101 = .ok (.getfield 127, 3) := by decide +kernel
theorem dX10_bench_104 : decode cX10_bench 104 = .ok (.iload_n 1, 1) := by decide +kernel
theorem dX10_bench_105 : decode cX10_bench 105 = .ok (.invokevirtual 144, 3) := by decide +kernel
theorem dX10_bench_108 : decode cX10_bench 108 = .ok (.ireturn, 1) := by decide +kernel
theorem dX10_bench_109 : decode cX10_bench 109 = .ok (.aload_n 0, 1) := by decide +kernel
theorem dX10_bench_110 : decode cX10_bench 110 = .ok (.getfield 10, 3) := by decide +kernel
theorem dX10_bench_113 : decode cX10_bench 113 = .ok (.iload_n 1, 1) := by decide +kernel
theorem dX10_bench_114 : decode cX10_bench 114 = .ok (.invokevirtual 147, 3) := by decide +kernel
theorem dX10_bench_117 : decode cX10_bench 117 = .ok (.ireturn, 1) := by decide +kernel
theorem dX10_bench_118 : decode cX10_bench 118 = .ok (.iconst (-1), 1) := by decide +kernel
theorem dX10_bench_119 : decode cX10_bench 119 = .ok (.ireturn, 1) := by decide +kernel
theorem dX10_want_0 : decode cX10_want 0 = .ok (.aload_n 0, 1) := by decide +kernel
theorem dX10_want_1 : decode cX10_want 1 = .ok (.getfield 10, 3) := by decide +kernel
theorem dX10_want_4 : decode cX10_want 4 = .ok (.getfield 150, 3) := by decide +kernel
theorem dX10_want_7 : decode cX10_want 7 = .ok (.iload_n 1, 1) := by decide +kernel
theorem dX10_want_8 : decode cX10_want 8 = .ok (.iload_n 2, 1) := by decide +kernel
theorem dX10_want_9 : decode cX10_want 9 = .ok (.invokevirtual 154, 3) := by decide +kernel
theorem dX10_want_12 : decode cX10_want 12 = .ok (.ireturn, 1) := by decide +kernel
theorem dX10_hang_0 : decode cX10_hang 0 = .ok (.aload_n 0, 1) := by decide +kernel
theorem dX10_hang_1 : decode cX10_hang 1 = .ok (.getfield 10, 3) := by decide +kernel
theorem dX10_hang_4 : decode cX10_hang 4 = .ok (.iload_n 1, 1) := by decide +kernel
theorem dX10_hang_5 : decode cX10_hang 5 = .ok (.invokevirtual 113, 3) := by decide +kernel
theorem dX10_hang_8 : decode cX10_hang 8 = .ok (.ifCond .eq 12, 3) := by decide +kernel
theorem dX10_hang_11 : decode cX10_hang 11 = .ok (.iload_n 2, 1) := by decide +kernel
theorem dX10_hang_12 : decode cX10_hang 12 = .ok (.iconst 0, 1) := by decide +kernel
theorem dX10_hang_13 : decode cX10_hang 13 = .ok (.iconst 2, 1) := by decide +kernel
theorem dX10_hang_14 : decode cX10_hang 14 = .ok (.invokestatic 77, 3) := by decide +kernel
theorem dX10_hang_17 : decode cX10_hang 17 = .ok (.ifCond .ne 5, 3) := by decide +kernel
theorem dX10_hang_20 : decode cX10_hang 20 = .ok (.iconst (-1), 1) := by decide +kernel
theorem dX10_hang_21 : decode cX10_hang 21 = .ok (.ireturn, 1) := by decide +kernel
theorem dX10_hang_22 : decode cX10_hang 22 = .ok (.iload_n 2, 1) := by decide +kernel
theorem dX10_hang_23 : decode cX10_hang 23 = .ok (.ifCond .eq 20, 3) := by decide +kernel
theorem dX10_hang_26 : decode cX10_hang 26 = .ok (.aload_n 0, 1) := by decide +kernel
theorem dX10_hang_27 : decode cX10_hang 27 = .ok (.getfield 10, 3) := by decide +kernel
theorem dX10_hang_30 : decode cX10_hang 30 = .ok (.getfield 127, 3) := by decide +kernel
theorem dX10_hang_33 : decode cX10_hang 33 = .ok (.iload_n 1, 1) := by decide +kernel
theorem dX10_hang_34 : decode cX10_hang 34 = .ok (.invokevirtual 159, 3) := by decide +kernel
theorem dX10_hang_37 : decode cX10_hang 37 = .ok (.ifCond .eq 6, 3) := by decide +kernel
theorem dX10_hang_40 : decode cX10_hang 40 = .ok (.bipush (-2), 2) := by decide +kernel
theorem dX10_hang_42 : decode cX10_hang 42 = .ok (.ireturn, 1) := by decide +kernel
theorem dX10_hang_43 : decode cX10_hang 43 = .ok (.aload_n 0, 1) := by decide +kernel
theorem dX10_hang_44 : decode cX10_hang 44 = .ok (.getfield 10, 3) := by decide +kernel
theorem dX10_hang_47 : decode cX10_hang 47 = .ok (.iload_n 1, 1) := by decide +kernel
theorem dX10_hang_48 : decode cX10_hang 48 = .ok (.invokevirtual 117, 3) := by decide +kernel
theorem dX10_hang_51 : decode cX10_hang 51 = .ok (.istore_n 3, 1) := by decide +kernel
theorem dX10_hang_52 : decode cX10_hang 52 = .ok (.aload_n 0, 1) := by decide +kernel
theorem dX10_hang_53 : decode cX10_hang 53 = .ok (.getfield 10, 3) := by decide +kernel
theorem dX10_hang_56 : decode cX10_hang 56 = .ok (.iload_n 1, 1) := by decide +kernel
theorem dX10_hang_57 : decode cX10_hang 57 = .ok (.iload_n 2, 1) := by decide +kernel
theorem dX10_hang_58 : decode cX10_hang 58 = .ok (.invokevirtual 162, 3) := by decide +kernel
theorem dX10_hang_61 : decode cX10_hang 61 = .ok (.iload_n 3, 1) := by decide +kernel
theorem dX10_hang_62 : decode cX10_hang 62 = .ok (.ireturn, 1) := by decide +kernel
theorem dX10_warm_0 : decode cX10_warm 0 = .ok (.iload_n 1, 1) := by decide +kernel
theorem dX10_warm_1 : decode cX10_warm 1 = .ok (.iconst 0, 1) := by decide +kernel
theorem dX10_warm_2 : decode cX10_warm 2 = .ok (.bipush 9, 2) := by decide +kernel
theorem dX10_warm_4 : decode cX10_warm 4 = .ok (.invokestatic 77, 3) := by decide +kernel
theorem dX10_warm_7 : decode cX10_warm 7 = .ok (.ifCond .ne 5, 3) := by decide +kernel
theorem dX10_warm_10 : decode cX10_warm 10 = .ok (.iconst (-1), 1) := by decide +kernel
theorem dX10_warm_11 : decode cX10_warm 11 = .ok (.ireturn, 1) := by decide +kernel
theorem dX10_warm_12 : decode cX10_warm 12 = .ok (.aload_n 0, 1) := by decide +kernel
theorem dX10_warm_13 : decode cX10_warm 13 = .ok (.getfield 10, 3) := by decide +kernel
theorem dX10_warm_16 : decode cX10_warm 16 = .ok (.getfield 110, 3) := by decide +kernel
theorem dX10_warm_19 : decode cX10_warm 19 = .ok (.istore_n 2, 1) := by decide +kernel
theorem dX10_warm_20 : decode cX10_warm 20 = .ok (.aload_n 0, 1) := by decide +kernel
theorem dX10_warm_21 : decode cX10_warm 21 = .ok (.getfield 10, 3) := by decide +kernel
theorem dX10_warm_24 : decode cX10_warm 24 = .ok (.iload_n 1, 1) := by decide +kernel
theorem dX10_warm_25 : decode cX10_warm 25 = .ok (.putfield 110, 3) := by decide +kernel
theorem dX10_warm_28 : decode cX10_warm 28 = .ok (.iload_n 2, 1) := by decide +kernel
theorem dX10_warm_29 : decode cX10_warm 29 = .ok (.ireturn, 1) := by decide +kernel
theorem dX10_sit_0 : decode cX10_sit 0 = .ok (.aload_n 0, 1) := by decide +kernel
theorem dX10_sit_1 : decode cX10_sit 1 = .ok (.iload_n 1, 1) := by decide +kernel
theorem dX10_sit_2 : decode cX10_sit 2 = .ok (.invokevirtual 166, 3) := by decide +kernel
theorem dX10_sit_5 : decode cX10_sit 5 = .ok (.ifCond .eq 11, 3) := by decide +kernel
theorem dX10_sit_8 : decode cX10_sit 8 = .ok (.aload_n 0, 1) := by decide +kernel
theorem dX10_sit_9 : decode cX10_sit 9 = .ok (.iload_n 2, 1) := by decide +kernel
theorem dX10_sit_10 : decode cX10_sit 10 = .ok (.invokevirtual 121, 3) := by decide +kernel
theorem dX10_sit_13 : decode cX10_sit 13 = .ok (.ifCond .ne 5, 3) := by decide +kernel
theorem dX10_sit_16 : decode cX10_sit 16 = .ok (.iconst (-1), 1) := by decide +kernel
theorem dX10_sit_17 : decode cX10_sit 17 = .ok (.ireturn, 1) := by decide +kernel
theorem dX10_sit_18 : decode cX10_sit 18 = .ok (.aload_n 0, 1) := by decide +kernel
theorem dX10_sit_19 : decode cX10_sit 19 = .ok (.getfield 10, 3) := by decide +kernel
theorem dX10_sit_22 : decode cX10_sit 22 = .ok (.iload_n 1, 1) := by decide +kernel
theorem dX10_sit_23 : decode cX10_sit 23 = .ok (.iload_n 2, 1) := by decide +kernel
theorem dX10_sit_24 : decode cX10_sit 24 = .ok (.invokevirtual 169, 3) := by decide +kernel
theorem dX10_sit_27 : decode cX10_sit 27 = .ok (.ireturn, 1) := by decide +kernel
theorem dX10_way_0 : decode cX10_way 0 = .ok (.aload_n 0, 1) := by decide +kernel
theorem dX10_way_1 : decode cX10_way 1 = .ok (.iload_n 1, 1) := by decide +kernel
theorem dX10_way_2 : decode cX10_way 2 = .ok (.invokevirtual 121, 3) := by decide +kernel
theorem dX10_way_5 : decode cX10_way 5 = .ok (.ifCond .eq 20, 3) := by decide +kernel
theorem dX10_way_8 : decode cX10_way 8 = .ok (.iload_n 2, 1) := by decide +kernel
theorem dX10_way_9 : decode cX10_way 9 = .ok (.invokestatic 124, 3) := by decide +kernel
theorem dX10_way_12 : decode cX10_way 12 = .ok (.ifCond .eq 13, 3) := by decide +kernel
theorem dX10_way_15 : decode cX10_way 15 = .ok (.iload_n 3, 1) := by decide +kernel
theorem dX10_way_16 : decode cX10_way 16 = .ok (.iconst 0, 1) := by decide +kernel
theorem dX10_way_17 : decode cX10_way 17 = .ok (.bipush 40, 2) := by decide +kernel
theorem dX10_way_19 : decode cX10_way 19 = .ok (.invokestatic 77, 3) := by decide +kernel
theorem dX10_way_22 : decode cX10_way 22 = .ok (.ifCond .ne 5, 3) := by decide +kernel
theorem dX10_way_25 : decode cX10_way 25 = .ok (.iconst (-1), 1) := by decide +kernel
theorem dX10_way_26 : decode cX10_way 26 = .ok (.ireturn, 1) := by decide +kernel
theorem dX10_way_27 : decode cX10_way 27 = .ok (.aload_n 0, 1) := by decide +kernel
theorem dX10_way_28 : decode cX10_way 28 = .ok (.getfield 36, 3) := by decide +kernel
theorem dX10_way_31 : decode cX10_way 31 = .ok (.aload_n 0, 1) := by decide +kernel
theorem dX10_way_32 : decode cX10_way 32 = .ok (.getfield 10, 3) := by decide +kernel
theorem dX10_way_35 : decode cX10_way 35 = .ok (.iload_n 1, 1) := by decide +kernel
theorem dX10_way_36 : decode cX10_way 36 = .ok (.iload_n 2, 1) := by decide +kernel
theorem dX10_way_37 : decode cX10_way 37 = .ok (.invokevirtual 172, 3) := by decide +kernel
theorem dX10_way_40 : decode cX10_way 40 = .ok (.aload_n 0, 1) := by decide +kernel
theorem dX10_way_41 : decode cX10_way 41 = .ok (.getfield 36, 3) := by decide +kernel
theorem dX10_way_44 : decode cX10_way 44 = .ok (.getfield 176, 3) := by decide +kernel
theorem dX10_way_47 : decode cX10_way 47 = .ok (.iload_n 3, 1) := by decide +kernel
theorem dX10_way_48 : decode cX10_way 48 = .ok (.invokevirtual 180, 3) := by decide +kernel
theorem dX10_way_51 : decode cX10_way 51 = .ok (.ireturn, 1) := by decide +kernel
theorem dX10_steps_0 : decode cX10_steps 0 = .ok (.aload_n 0, 1) := by decide +kernel
theorem dX10_steps_1 : decode cX10_steps 1 = .ok (.iload_n 1, 1) := by decide +kernel
theorem dX10_steps_2 : decode cX10_steps 2 = .ok (.invokevirtual 121, 3) := by decide +kernel
theorem dX10_steps_5 : decode cX10_steps 5 = .ok (.ifCond .eq 10, 3) := by decide +kernel
theorem dX10_steps_8 : decode cX10_steps 8 = .ok (.iload_n 2, 1) := by decide +kernel
theorem dX10_steps_9 : decode cX10_steps 9 = .ok (.invokestatic 124, 3) := by decide +kernel
theorem dX10_steps_12 : decode cX10_steps 12 = .ok (.ifCond .ne 5, 3) := by decide +kernel
theorem dX10_steps_15 : decode cX10_steps 15 = .ok (.iconst (-1), 1) := by decide +kernel
theorem dX10_steps_16 : decode cX10_steps 16 = .ok (.ireturn, 1) := by decide +kernel
theorem dX10_steps_17 : decode cX10_steps 17 = .ok (.aload_n 0, 1) := by decide +kernel
theorem dX10_steps_18 : decode cX10_steps 18 = .ok (.getfield 36, 3) := by decide +kernel
theorem dX10_steps_21 : decode cX10_steps 21 = .ok (.aload_n 0, 1) := by decide +kernel
theorem dX10_steps_22 : decode cX10_steps 22 = .ok (.getfield 10, 3) := by decide +kernel
theorem dX10_steps_25 : decode cX10_steps 25 = .ok (.iload_n 1, 1) := by decide +kernel
theorem dX10_steps_26 : decode cX10_steps 26 = .ok (.iload_n 2, 1) := by decide +kernel
theorem dX10_steps_27 : decode cX10_steps 27 = .ok (.invokevirtual 172, 3) := by decide +kernel
theorem dX10_steps_30 : decode cX10_steps 30 = .ok (.aload_n 0, 1) := by decide +kernel
theorem dX10_steps_31 : decode cX10_steps 31 = .ok (.getfield 36, 3) := by decide +kernel
theorem dX10_steps_34 : decode cX10_steps 34 = .ok (.getfield 176, 3) := by decide +kernel
theorem dX10_steps_37 : decode cX10_steps 37 = .ok (.getfield 185, 3) := by decide +kernel
theorem dX10_steps_40 : decode cX10_steps 40 = .ok (.ireturn, 1) := by decide +kernel
theorem dX10_hears_0 : decode cX10_hears 0 = .ok (.aload_n 0, 1) := by decide +kernel
theorem dX10_hears_1 : decode cX10_hears 1 = .ok (.iload_n 1, 1) := by decide +kernel
theorem dX10_hears_2 : decode cX10_hears 2 = .ok (.invokevirtual 121, 3) := by decide +kernel
theorem dX10_hears_5 : decode cX10_hears 5 = .ok (.ifCond .eq 33, 3) := by decide +kernel
theorem dX10_hears_8 : decode cX10_hears 8 = .ok (.aload_n 0, 1) := by decide +kernel
theorem dX10_hears_9 : decode cX10_hears 9 = .ok (.iload_n 2, 1) := by decide +kernel
theorem dX10_hears_10 : decode cX10_hears 10 = .ok (.invokevirtual 121, 3) := by decide +kernel
theorem dX10_hears_13 : decode cX10_hears 13 = .ok (.ifCond .eq 25, 3) := by decide +kernel
theorem dX10_hears_16 : decode cX10_hears 16 = .ok (.iload_n 1, 1) := by decide +kernel
theorem dX10_hears_17 : decode cX10_hears 17 = .ok (.iload_n 2, 1) := by decide +kernel
theorem dX10_hears_18 : decode cX10_hears 18 = .ok (.if_icmp .eq 20, 3) := by decide +kernel
theorem dX10_hears_21 : decode cX10_hears 21 = .ok (.iload_n 3, 1) := by decide +kernel
theorem dX10_hears_22 : decode cX10_hears 22 = .ok (.invokestatic 124, 3) := by decide +kernel
theorem dX10_hears_25 : decode cX10_hears 25 = .ok (.ifCond .eq 13, 3) := by decide +kernel
theorem dX10_hears_28 : decode cX10_hears 28 = .ok (.iload 4, 2) := by decide +kernel
theorem dX10_hears_30 : decode cX10_hears 30 = .ok (.iconst 0, 1) := by decide +kernel
theorem dX10_hears_31 : decode cX10_hears 31 = .ok (.iconst 2, 1) := by decide +kernel
theorem dX10_hears_32 : decode cX10_hears 32 = .ok (.invokestatic 77, 3) := by decide +kernel
theorem dX10_hears_35 : decode cX10_hears 35 = .ok (.ifCond .ne 5, 3) := by decide +kernel
theorem dX10_hears_38 : decode cX10_hears 38 = .ok (.iconst (-1), 1) := by decide +kernel
theorem dX10_hears_39 : decode cX10_hears 39 = .ok (.ireturn, 1) := by decide +kernel
theorem dX10_hears_40 : decode cX10_hears 40 = .ok (.aload_n 0, 1) := by decide +kernel
theorem dX10_hears_41 : decode cX10_hears 41 = .ok (.getfield 36, 3) := by decide +kernel
theorem dX10_hears_44 : decode cX10_hears 44 = .ok (.aload_n 0, 1) := by decide +kernel
theorem dX10_hears_45 : decode cX10_hears 45 = .ok (.getfield 10, 3) := by decide +kernel
theorem dX10_hears_48 : decode cX10_hears 48 = .ok (.iload_n 1, 1) := by decide +kernel
theorem dX10_hears_49 : decode cX10_hears 49 = .ok (.iload_n 3, 1) := by decide +kernel
theorem dX10_hears_50 : decode cX10_hears 50 = .ok (.invokevirtual 172, 3) := by decide +kernel
theorem dX10_hears_53 : decode cX10_hears 53 = .ok (.aload_n 0, 1) := by decide +kernel
theorem dX10_hears_54 : decode cX10_hears 54 = .ok (.getfield 36, 3) := by decide +kernel
theorem dX10_hears_57 : decode cX10_hears 57 = .ok (.aload_n 0, 1) := by decide +kernel
theorem dX10_hears_58 : decode cX10_hears 58 = .ok (.getfield 10, 3) := by decide +kernel
theorem dX10_hears_61 : decode cX10_hears 61 = .ok (.iload_n 2, 1) := by decide +kernel
theorem dX10_hears_62 : decode cX10_hears 62 = .ok (.iload_n 3, 1) := by decide +kernel
theorem dX10_hears_63 : decode cX10_hears 63 = .ok (.invokevirtual 186, 3) := by decide +kernel
theorem dX10_hears_66 : decode cX10_hears 66 = .ok (.istore 5, 2) := by decide +kernel
theorem dX10_hears_68 : decode cX10_hears 68 = .ok (.iload 5, 2) := by decide +kernel
theorem dX10_hears_70 : decode cX10_hears 70 = .ok (.ifCond .ne 6, 3) := by decide +kernel
theorem dX10_hears_73 : decode cX10_hears 73 = .ok (.bipush (-4), 2) := by decide +kernel
theorem dX10_hears_75 : decode cX10_hears 75 = .ok (.ireturn, 1) := by decide +kernel
theorem dX10_hears_76 : decode cX10_hears 76 = .ok (.iload 4, 2) := by decide +kernel
theorem dX10_hears_78 : decode cX10_hears 78 = .ok (.ifCond .ne 16, 3) := by decide +kernel
theorem dX10_hears_81 : decode cX10_hears 81 = .ok (.aload_n 0, 1) := by decide +kernel
theorem dX10_hears_82 : decode cX10_hears 82 = .ok (.getfield 36, 3) := by decide +kernel
theorem dX10_hears_85 : decode cX10_hears 85 = .ok (.getfield 176, 3) := by decide +kernel
theorem dX10_hears_88 : decode cX10_hears 88 = .ok (.iload 5, 2) := by decide +kernel
theorem dX10_hears_90 : decode cX10_hears 90 = .ok (.invokevirtual 190, 3) := by decide +kernel
theorem dX10_hears_93 : decode cX10_hears 93 = .ok (.ireturn, 1) := by decide +kernel
theorem dX10_hears_94 : decode cX10_hears 94 = .ok (.iload 4, 2) := by decide +kernel
theorem dX10_hears_96 : decode cX10_hears 96 = .ok (.iconst 1, 1) := by decide +kernel
theorem dX10_hears_97 : decode cX10_hears 97 = .ok (.if_icmp .ne 8, 3) := by decide +kernel
theorem dX10_hears_100 : decode cX10_hears 100 = .ok (.iload 5, 2) := by decide +kernel
theorem dX10_hears_102 : decode cX10_hears 102 = .ok (.goto 15, 3) := by decide +kernel
theorem dX10_hears_105 : decode cX10_hears 105 = .ok (.aload_n 0, 1) := by decide +kernel
theorem dX10_hears_106 : decode cX10_hears 106 = .ok (.getfield 36, 3) := by decide +kernel
theorem dX10_hears_109 : decode cX10_hears 109 = .ok (.getfield 176, 3) := by decide +kernel
theorem dX10_hears_112 : decode cX10_hears 112 = .ok (.iload 5, 2) := by decide +kernel
theorem dX10_hears_114 : decode cX10_hears 114 = .ok (.invokevirtual 193, 3) := by decide +kernel
theorem dX10_hears_117 : decode cX10_hears 117 = .ok (.ireturn, 1) := by decide +kernel
theorem dX10_heard_0 : decode cX10_heard 0 = .ok (.aload_n 0, 1) := by decide +kernel
theorem dX10_heard_1 : decode cX10_heard 1 = .ok (.iload_n 1, 1) := by decide +kernel
theorem dX10_heard_2 : decode cX10_heard 2 = .ok (.invokevirtual 121, 3) := by decide +kernel
theorem dX10_heard_5 : decode cX10_heard 5 = .ok (.ifCond .eq 26, 3) := by decide +kernel
theorem dX10_heard_8 : decode cX10_heard 8 = .ok (.iload_n 2, 1) := by decide +kernel
theorem dX10_heard_9 : decode cX10_heard 9 = .ok (.invokestatic 124, 3) := by decide +kernel
theorem dX10_heard_12 : decode cX10_heard 12 = .ok (.ifCond .eq 19, 3) := by decide +kernel
theorem dX10_heard_15 : decode cX10_heard 15 = .ok (.aload_n 0, 1) := by decide +kernel
theorem dX10_heard_16 : decode cX10_heard 16 = .ok (.getfield 36, 3) := by decide +kernel
theorem dX10_heard_19 : decode cX10_heard 19 = .ok (.aload_n 0, 1) := by decide +kernel
theorem dX10_heard_20 : decode cX10_heard 20 = .ok (.getfield 10, 3) := by decide +kernel
theorem dX10_heard_23 : decode cX10_heard 23 = .ok (.iload_n 1, 1) := by decide +kernel
theorem dX10_heard_24 : decode cX10_heard 24 = .ok (.iload_n 2, 1) := by decide +kernel
theorem dX10_heard_25 : decode cX10_heard 25 = .ok (.invokevirtual 196, 3) := by decide +kernel
theorem dX10_heard_28 : decode cX10_heard 28 = .ok (.goto 4, 3) := by decide +kernel
theorem dX10_heard_31 : decode cX10_heard 31 = .ok (.iconst (-1), 1) := by decide +kernel
theorem dX10_heard_32 : decode cX10_heard 32 = .ok (.ireturn, 1) := by decide +kernel
theorem dX10_answer_0 : decode cX10_answer 0 = .ok (.aload_n 0, 1) := by decide +kernel
theorem dX10_answer_1 : decode cX10_answer 1 = .ok (.iload_n 1, 1) := by decide +kernel
theorem dX10_answer_2 : decode cX10_answer 2 = .ok (.invokevirtual 121, 3) := by decide +kernel
theorem dX10_answer_5 : decode cX10_answer 5 = .ok (.ifCond .eq 10, 3) := by decide +kernel
theorem dX10_answer_8 : decode cX10_answer 8 = .ok (.iload_n 2, 1) := by decide +kernel
theorem dX10_answer_9 : decode cX10_answer 9 = .ok (.invokestatic 124, 3) := by decide +kernel
theorem dX10_answer_12 : decode cX10_answer 12 = .ok (.ifCond .ne 5, 3) := by decide +kernel
theorem dX10_answer_15 : decode cX10_answer 15 = .ok (.iconst (-1), 1) := by decide +kernel
theorem dX10_answer_16 : decode cX10_answer 16 = .ok (.ireturn, 1) := by decide +kernel
theorem dX10_answer_17 : decode cX10_answer 17 = .ok (.aload_n 0, 1) := by decide +kernel
theorem dX10_answer_18 : decode cX10_answer 18 = .ok (.getfield 36, 3) := by decide +kernel
theorem dX10_answer_21 : decode cX10_answer 21 = .ok (.aload_n 0, 1) := by decide +kernel
theorem dX10_answer_22 : decode cX10_answer 22 = .ok (.getfield 10, 3) := by decide +kernel
theorem dX10_answer_25 : decode cX10_answer 25 = .ok (.iload_n 1, 1) := by decide +kernel
theorem dX10_answer_26 : decode cX10_answer 26 = .ok (.iload_n 2, 1) := by decide +kernel
theorem dX10_answer_27 : decode cX10_answer 27 = .ok (.invokevirtual 196, 3) := by decide +kernel
theorem dX10_answer_30 : decode cX10_answer 30 = .ok (.istore_n 3, 1) := by decide +kernel
theorem dX10_answer_31 : decode cX10_answer 31 = .ok (.iconst 0, 1) := by decide +kernel
theorem dX10_answer_32 : decode cX10_answer 32 = .ok (.istore 4, 2) := by decide +kernel
theorem dX10_answer_34 : decode cX10_answer 34 = .ok (.iload 4, 2) := by decide +kernel
theorem dX10_answer_36 : decode cX10_answer 36 = .ok (.aload_n 0, 1) := by decide +kernel
theorem dX10_answer_37 : decode cX10_answer 37 = .ok (.getfield 10, 3) := by decide +kernel
theorem dX10_answer_40 : decode cX10_answer 40 = .ok (.getfield 127, 3) := by decide +kernel
theorem dX10_answer_43 : decode cX10_answer 43 = .ok (.getfield 199, 3) := by decide +kernel
theorem dX10_answer_46 : decode cX10_answer 46 = .ok (.if_icmp .ge 45, 3) := by decide +kernel
theorem dX10_answer_49 : decode cX10_answer 49 = .ok (.iload_n 3, 1) := by decide +kernel
theorem dX10_answer_50 : decode cX10_answer 50 = .ok (.iconst 1, 1) := by decide +kernel
theorem dX10_answer_51 : decode cX10_answer 51 = .ok (.iload 4, 2) := by decide +kernel
theorem dX10_answer_53 : decode cX10_answer 53 = .ok (.ishl, 1) := by decide +kernel
theorem dX10_answer_54 : decode cX10_answer 54 = .ok (.if_icmp .ne 31, 3) := by decide +kernel
theorem dX10_answer_57 : decode cX10_answer 57 = .ok (.aload_n 0, 1) := by decide +kernel
theorem dX10_answer_58 : decode cX10_answer 58 = .ok (.getfield 36, 3) := by decide +kernel
theorem dX10_answer_61 : decode cX10_answer 61 = .ok (.aload_n 0, 1) := by decide +kernel
theorem dX10_answer_62 : decode cX10_answer 62 = .ok (.getfield 10, 3) := by decide +kernel
theorem dX10_answer_65 : decode cX10_answer 65 = .ok (.iload 4, 2) := by decide +kernel
theorem dX10_answer_67 : decode cX10_answer 67 = .ok (.iload_n 2, 1) := by decide +kernel
theorem dX10_answer_68 : decode cX10_answer 68 = .ok (.invokevirtual 196, 3) := by decide +kernel
theorem dX10_answer_71 : decode cX10_answer 71 = .ok (.iconst 1, 1) := by decide +kernel
theorem dX10_answer_72 : decode cX10_answer 72 = .ok (.iload_n 1, 1) := by decide +kernel
theorem dX10_answer_73 : decode cX10_answer 73 = .ok (.ishl, 1) := by decide +kernel
theorem dX10_answer_74 : decode cX10_answer 74 = .ok (.if_icmp .ne 8, 3) := by decide +kernel
theorem dX10_answer_77 : decode cX10_answer 77 = .ok (.iload 4, 2) := by decide +kernel
theorem dX10_answer_79 : decode cX10_answer 79 = .ok (.goto 5, 3) := by decide +kernel
theorem dX10_answer_82 : decode cX10_answer 82 = .ok (.bipush (-4), 2) := by decide +kernel
theorem dX10_answer_84 : decode cX10_answer 84 = .ok (.ireturn, 1) := by decide +kernel
theorem dX10_answer_85 : decode cX10_answer 85 = .ok (.iinc 4 1, 3) := by decide +kernel
theorem dX10_answer_88 : decode cX10_answer 88 = .ok (.goto (-54), 3) := by decide +kernel
theorem dX10_answer_91 : decode cX10_answer 91 = .ok (.bipush (-4), 2) := by decide +kernel
theorem dX10_answer_93 : decode cX10_answer 93 = .ok (.ireturn, 1) := by decide +kernel
theorem dX10_can_0 : decode cX10_can 0 = .ok (.aload_n 0, 1) := by decide +kernel
theorem dX10_can_1 : decode cX10_can 1 = .ok (.iload_n 1, 1) := by decide +kernel
theorem dX10_can_2 : decode cX10_can 2 = .ok (.invokevirtual 166, 3) := by decide +kernel
theorem dX10_can_5 : decode cX10_can 5 = .ok (.ifCond .eq 23, 3) := by decide +kernel
theorem dX10_can_8 : decode cX10_can 8 = .ok (.aload_n 0, 1) := by decide +kernel
theorem dX10_can_9 : decode cX10_can 9 = .ok (.iload_n 2, 1) := by decide +kernel
theorem dX10_can_10 : decode cX10_can 10 = .ok (.invokevirtual 166, 3) := by decide +kernel
theorem dX10_can_13 : decode cX10_can 13 = .ok (.ifCond .eq 15, 3) := by decide +kernel
theorem dX10_can_16 : decode cX10_can 16 = .ok (.iload_n 1, 1) := by decide +kernel
theorem dX10_can_17 : decode cX10_can 17 = .ok (.iload_n 2, 1) := by decide +kernel
theorem dX10_can_18 : decode cX10_can 18 = .ok (.if_icmp .eq 10, 3) := by decide +kernel
theorem dX10_can_21 : decode cX10_can 21 = .ok (.iload_n 3, 1) := by decide +kernel
theorem dX10_can_22 : decode cX10_can 22 = .ok (.invokestatic 124, 3) := by decide +kernel
theorem dX10_can_25 : decode cX10_can 25 = .ok (.ifCond .ne 5, 3) := by decide +kernel
theorem dX10_can_28 : decode cX10_can 28 = .ok (.iconst (-1), 1) := by decide +kernel
theorem dX10_can_29 : decode cX10_can 29 = .ok (.ireturn, 1) := by decide +kernel
theorem dX10_can_30 : decode cX10_can 30 = .ok (.aload_n 0, 1) := by decide +kernel
theorem dX10_can_31 : decode cX10_can 31 = .ok (.getfield 36, 3) := by decide +kernel
theorem dX10_can_34 : decode cX10_can 34 = .ok (.aload_n 0, 1) := by decide +kernel
theorem dX10_can_35 : decode cX10_can 35 = .ok (.getfield 10, 3) := by decide +kernel
theorem dX10_can_38 : decode cX10_can 38 = .ok (.iload_n 1, 1) := by decide +kernel
theorem dX10_can_39 : decode cX10_can 39 = .ok (.iload_n 3, 1) := by decide +kernel
theorem dX10_can_40 : decode cX10_can 40 = .ok (.invokevirtual 202, 3) := by decide +kernel
theorem dX10_can_43 : decode cX10_can 43 = .ok (.iload_n 2, 1) := by decide +kernel
theorem dX10_can_44 : decode cX10_can 44 = .ok (.invokestatic 205, 3) := by decide +kernel
theorem dX10_can_47 : decode cX10_can 47 = .ok (.ireturn, 1) := by decide +kernel
theorem dX10_broken_0 : decode cX10_broken 0 = .ok (.iload_n 1, 1) := by decide +kernel
theorem dX10_broken_1 : decode cX10_broken 1 = .ok (.invokestatic 124, 3) := by decide +kernel
theorem dX10_broken_4 : decode cX10_broken 4 = .ok (.ifCond .eq 18, 3) := by decide +kernel
theorem dX10_broken_7 : decode cX10_broken 7 = .ok (.aload_n 0, 1) := by decide +kernel
theorem dX10_broken_8 : decode cX10_broken 8 = .ok (.getfield 36, 3) := by decide +kernel
theorem dX10_broken_11 : decode cX10_broken 11 = .ok (.aload_n 0, 1) := by decide +kernel
theorem dX10_broken_12 : decode cX10_broken 12 = .ok (.getfield 10, 3) := by decide +kernel
theorem dX10_broken_15 : decode cX10_broken 15 = .ok (.iload_n 1, 1) := by decide +kernel
theorem dX10_broken_16 : decode cX10_broken 16 = .ok (.invokevirtual 208, 3) := by decide +kernel
theorem dX10_broken_19 : decode cX10_broken 19 = .ok (.goto 4, 3) := by decide +kernel
theorem dX10_broken_22 : decode cX10_broken 22 = .ok (.iconst (-1), 1) := by decide +kernel
theorem dX10_broken_23 : decode cX10_broken 23 = .ok (.ireturn, 1) := by decide +kernel
theorem dX10_seating_0 : decode cX10_seating 0 = .ok (.iload_n 2, 1) := by decide +kernel
theorem dX10_seating_1 : decode cX10_seating 1 = .ok (.bipush 10, 2) := by decide +kernel
theorem dX10_seating_3 : decode cX10_seating 3 = .ok (.if_icmp .lt 18, 3) := by decide +kernel
theorem dX10_seating_6 : decode cX10_seating 6 = .ok (.aload_n 0, 1) := by decide +kernel
theorem dX10_seating_7 : decode cX10_seating 7 = .ok (.iload_n 2, 1) := by decide +kernel
theorem dX10_seating_8 : decode cX10_seating 8 = .ok (.bipush 10, 2) := by decide +kernel
theorem dX10_seating_10 : decode cX10_seating 10 = .ok (.isub, 1) := by decide +kernel
theorem dX10_seating_11 : decode cX10_seating 11 = .ok (.invokevirtual 166, 3) := by decide +kernel
theorem dX10_seating_14 : decode cX10_seating 14 = .ok (.ifCond .eq 7, 3) := by decide +kernel
theorem dX10_seating_17 : decode cX10_seating 17 = .ok (.iconst 1, 1) := by decide +kernel
theorem dX10_seating_18 : decode cX10_seating 18 = .ok (.goto 4, 3) := by decide +kernel
theorem dX10_seating_21 : decode cX10_seating 21 = .ok (.iconst 0, 1) := by decide +kernel
theorem dX10_seating_22 : decode cX10_seating 22 = .ok (.istore_n 3, 1) := by decide +kernel
theorem dX10_seating_23 : decode cX10_seating 23 = .ok (.iload_n 1, 1) := by decide +kernel
theorem dX10_seating_24 : decode cX10_seating 24 = .ok (.invokestatic 124, 3) := by decide +kernel
theorem dX10_seating_27 : decode cX10_seating 27 = .ok (.ifCond .eq 16, 3) := by decide +kernel
theorem dX10_seating_30 : decode cX10_seating 30 = .ok (.iload_n 2, 1) := by decide +kernel
theorem dX10_seating_31 : decode cX10_seating 31 = .ok (.iconst 0, 1) := by decide +kernel
theorem dX10_seating_32 : decode cX10_seating 32 = .ok (.iconst 1, 1) := by decide +kernel
theorem dX10_seating_33 : decode cX10_seating 33 = .ok (.invokestatic 77, 3) := by decide +kernel
theorem dX10_seating_36 : decode cX10_seating 36 = .ok (.ifCond .ne 9, 3) := by decide +kernel
theorem dX10_seating_39 : decode cX10_seating 39 = .ok (.iload_n 3, 1) := by decide +kernel
theorem dX10_seating_40 : decode cX10_seating 40 = .ok (.ifCond .ne 5, 3) := by decide +kernel
theorem dX10_seating_43 : decode cX10_seating 43 = .ok (.iconst (-1), 1) := by decide +kernel
theorem dX10_seating_44 : decode cX10_seating 44 = .ok (.ireturn, 1) := by decide +kernel
theorem dX10_seating_45 : decode cX10_seating 45 = .ok (.aload_n 0, 1) := by decide +kernel
theorem dX10_seating_46 : decode cX10_seating 46 = .ok (.getfield 50, 3) := by decide +kernel
theorem dX10_seating_49 : decode cX10_seating 49 = .ok (.aload_n 0, 1) := by decide +kernel
theorem dX10_seating_50 : decode cX10_seating 50 = .ok (.getfield 10, 3) := by decide +kernel
theorem dX10_seating_53 : decode cX10_seating 53 = .ok (.iload_n 1, 1) := by decide +kernel
theorem dX10_seating_54 : decode cX10_seating 54 = .ok (.invokevirtual 212, 3) := by decide +kernel
theorem dX10_seating_57 : decode cX10_seating 57 = .ok (.iload_n 3, 1) := by decide +kernel
theorem dX10_seating_58 : decode cX10_seating 58 = .ok (.ifCond .eq 15, 3) := by decide +kernel
theorem dX10_seating_61 : decode cX10_seating 61 = .ok (.aload_n 0, 1) := by decide +kernel
theorem dX10_seating_62 : decode cX10_seating 62 = .ok (.getfield 50, 3) := by decide +kernel
theorem dX10_seating_65 : decode cX10_seating 65 = .ok (.iload_n 2, 1) := by decide +kernel
theorem dX10_seating_66 : decode cX10_seating 66 = .ok (.bipush 10, 2) := by decide +kernel
theorem dX10_seating_68 : decode cX10_seating 68 = .ok (.isub, 1) := by decide +kernel
theorem dX10_seating_69 : decode cX10_seating 69 = .ok (.invokevirtual 216, 3) := by decide +kernel
theorem dX10_seating_72 : decode cX10_seating 72 = .ok (.ireturn, 1) := by decide +kernel
theorem dX10_seating_73 : decode cX10_seating 73 = .ok (.iload_n 2, 1) := by decide +kernel
theorem dX10_seating_74 : decode cX10_seating 74 = .ok (.ifCond .ne 13, 3) := by decide +kernel
theorem dX10_seating_77 : decode cX10_seating 77 = .ok (.aload_n 0, 1) := by decide +kernel
theorem dX10_seating_78 : decode cX10_seating 78 = .ok (.getfield 50, 3) := by decide +kernel
theorem dX10_seating_81 : decode cX10_seating 81 = .ok (.getfield 219, 3) := by decide +kernel
theorem dX10_seating_84 : decode cX10_seating 84 = .ok (.goto 10, 3) := by decide +kernel
theorem dX10_seating_87 : decode cX10_seating 87 = .ok (.aload_n 0, 1) := by decide +kernel
theorem dX10_seating_88 : decode cX10_seating 88 = .ok (.getfield 50, 3) := by decide +kernel
theorem dX10_seating_91 : decode cX10_seating 91 = .ok (.getfield 222, 3) := by decide +kernel
theorem dX10_seating_94 : decode cX10_seating 94 = .ok (.ireturn, 1) := by decide +kernel
theorem dX10_curtain_0 : decode cX10_curtain 0 = .ok (.iload_n 1, 1) := by decide +kernel
theorem dX10_curtain_1 : decode cX10_curtain 1 = .ok (.invokestatic 124, 3) := by decide +kernel
theorem dX10_curtain_4 : decode cX10_curtain 4 = .ok (.ifCond .eq 22, 3) := by decide +kernel
theorem dX10_curtain_7 : decode cX10_curtain 7 = .ok (.iload_n 2, 1) := by decide +kernel
theorem dX10_curtain_8 : decode cX10_curtain 8 = .ok (.iconst 0, 1) := by decide +kernel
theorem dX10_curtain_9 : decode cX10_curtain 9 = .ok (.iconst 1, 1) := by decide +kernel
theorem dX10_curtain_10 : decode cX10_curtain 10 = .ok (.invokestatic 77, 3) := by decide +kernel
theorem dX10_curtain_13 : decode cX10_curtain 13 = .ok (.ifCond .eq 13, 3) := by decide +kernel
theorem dX10_curtain_16 : decode cX10_curtain 16 = .ok (.aload_n 0, 1) := by decide +kernel
theorem dX10_curtain_17 : decode cX10_curtain 17 = .ok (.iload_n 1, 1) := by decide +kernel
theorem dX10_curtain_18 : decode cX10_curtain 18 = .ok (.iload_n 2, 1) := by decide +kernel
theorem dX10_curtain_19 : decode cX10_curtain 19 = .ok (.iconst 2, 1) := by decide +kernel
theorem dX10_curtain_20 : decode cX10_curtain 20 = .ok (.invokevirtual 225, 3) := by decide +kernel
theorem dX10_curtain_23 : decode cX10_curtain 23 = .ok (.goto 4, 3) := by decide +kernel
theorem dX10_curtain_26 : decode cX10_curtain 26 = .ok (.iconst (-1), 1) := by decide +kernel
theorem dX10_curtain_27 : decode cX10_curtain 27 = .ok (.ireturn, 1) := by decide +kernel
theorem dX10_clear_0 : decode cX10_clear 0 = .ok (.iload_n 1, 1) := by decide +kernel
theorem dX10_clear_1 : decode cX10_clear 1 = .ok (.invokestatic 124, 3) := by decide +kernel
theorem dX10_clear_4 : decode cX10_clear 4 = .ok (.ifCond .eq 22, 3) := by decide +kernel
theorem dX10_clear_7 : decode cX10_clear 7 = .ok (.iload_n 2, 1) := by decide +kernel
theorem dX10_clear_8 : decode cX10_clear 8 = .ok (.iconst 0, 1) := by decide +kernel
theorem dX10_clear_9 : decode cX10_clear 9 = .ok (.iconst 1, 1) := by decide +kernel
theorem dX10_clear_10 : decode cX10_clear 10 = .ok (.invokestatic 77, 3) := by decide +kernel
theorem dX10_clear_13 : decode cX10_clear 13 = .ok (.ifCond .eq 13, 3) := by decide +kernel
theorem dX10_clear_16 : decode cX10_clear 16 = .ok (.aload_n 0, 1) := by decide +kernel
theorem dX10_clear_17 : decode cX10_clear 17 = .ok (.iload_n 1, 1) := by decide +kernel
theorem dX10_clear_18 : decode cX10_clear 18 = .ok (.iload_n 2, 1) := by decide +kernel
theorem dX10_clear_19 : decode cX10_clear 19 = .ok (.iconst 0, 1) := by decide +kernel
theorem dX10_clear_20 : decode cX10_clear 20 = .ok (.invokevirtual 225, 3) := by decide +kernel
theorem dX10_clear_23 : decode cX10_clear 23 = .ok (.goto 4, 3) := by decide +kernel
theorem dX10_clear_26 : decode cX10_clear 26 = .ok (.iconst (-1), 1) := by decide +kernel
theorem dX10_clear_27 : decode cX10_clear 27 = .ok (.ireturn, 1) := by decide +kernel
theorem dX10_hours_0 : decode cX10_hours 0 = .ok (.iconst 0, 1) := by decide +kernel
theorem dX10_hours_1 : decode cX10_hours 1 = .ok (.istore_n 1, 1) := by decide +kernel
theorem dX10_hours_2 : decode cX10_hours 2 = .ok (.iconst 0, 1) := by decide +kernel
theorem dX10_hours_3 : decode cX10_hours 3 = .ok (.istore_n 2, 1) := by decide +kernel
theorem dX10_hours_4 : decode cX10_hours 4 = .ok (.iload_n 2, 1) := by decide +kernel
theorem dX10_hours_5 : decode cX10_hours 5 = .ok (.bipush 12, 2) := by decide +kernel
theorem dX10_hours_7 : decode cX10_hours 7 = .ok (.if_icmp .ge 30, 3) := by decide +kernel
theorem dX10_hours_10 : decode cX10_hours 10 = .ok (.aload_n 0, 1) := by decide +kernel
theorem dX10_hours_11 : decode cX10_hours 11 = .ok (.getfield 36, 3) := by decide +kernel
theorem dX10_hours_14 : decode cX10_hours 14 = .ok (.aload_n 0, 1) := by decide +kernel
theorem dX10_hours_15 : decode cX10_hours 15 = .ok (.getfield 10, 3) := by decide +kernel
theorem dX10_hours_18 : decode cX10_hours 18 = .ok (.iload_n 2, 1) := by decide +kernel
theorem dX10_hours_19 : decode cX10_hours 19 = .ok (.invokevirtual 208, 3) := by decide +kernel
theorem dX10_hours_22 : decode cX10_hours 22 = .ok (.ifCond .ne 9, 3) := by decide +kernel
theorem dX10_hours_25 : decode cX10_hours 25 = .ok (.iload_n 1, 1) := by decide +kernel
theorem dX10_hours_26 : decode cX10_hours 26 = .ok (.iconst 1, 1) := by decide +kernel
theorem dX10_hours_27 : decode cX10_hours 27 = .ok (.iload_n 2, 1) := by decide +kernel
theorem dX10_hours_28 : decode cX10_hours 28 = .ok (.ishl, 1) := by decide +kernel
theorem dX10_hours_29 : decode cX10_hours 29 = .ok (.ior, 1) := by decide +kernel
theorem dX10_hours_30 : decode cX10_hours 30 = .ok (.istore_n 1, 1) := by decide +kernel
theorem dX10_hours_31 : decode cX10_hours 31 = .ok (.iinc 2 1, 3) := by decide +kernel
theorem dX10_hours_34 : decode cX10_hours 34 = .ok (.goto (-30), 3) := by decide +kernel
theorem dX10_hours_37 : decode cX10_hours 37 = .ok (.iload_n 1, 1) := by decide +kernel
theorem dX10_hours_38 : decode cX10_hours 38 = .ok (.ireturn, 1) := by decide +kernel
theorem dX10_days_0 : decode cX10_days 0 = .ok (.iload_n 1, 1) := by decide +kernel
theorem dX10_days_1 : decode cX10_days 1 = .ok (.invokestatic 124, 3) := by decide +kernel
theorem dX10_days_4 : decode cX10_days 4 = .ok (.ifCond .eq 22, 3) := by decide +kernel
theorem dX10_days_7 : decode cX10_days 7 = .ok (.iload_n 2, 1) := by decide +kernel
theorem dX10_days_8 : decode cX10_days 8 = .ok (.iconst 0, 1) := by decide +kernel
theorem dX10_days_9 : decode cX10_days 9 = .ok (.bipush 9, 2) := by decide +kernel
theorem dX10_days_11 : decode cX10_days 11 = .ok (.invokestatic 77, 3) := by decide +kernel
theorem dX10_days_14 : decode cX10_days 14 = .ok (.ifCond .eq 12, 3) := by decide +kernel
theorem dX10_days_17 : decode cX10_days 17 = .ok (.iload_n 3, 1) := by decide +kernel
theorem dX10_days_18 : decode cX10_days 18 = .ok (.iconst 0, 1) := by decide +kernel
theorem dX10_days_19 : decode cX10_days 19 = .ok (.iconst 2, 1) := by decide +kernel
theorem dX10_days_20 : decode cX10_days 20 = .ok (.invokestatic 77, 3) := by decide +kernel
theorem dX10_days_23 : decode cX10_days 23 = .ok (.ifCond .ne 5, 3) := by decide +kernel
theorem dX10_days_26 : decode cX10_days 26 = .ok (.iconst (-1), 1) := by decide +kernel
theorem dX10_days_27 : decode cX10_days 27 = .ok (.ireturn, 1) := by decide +kernel
theorem dX10_days_28 : decode cX10_days 28 = .ok (.iconst 0, 1) := by decide +kernel
theorem dX10_days_29 : decode cX10_days 29 = .ok (.istore 4, 2) := by decide +kernel
theorem dX10_days_31 : decode cX10_days 31 = .ok (.iconst 0, 1) := by decide +kernel
theorem dX10_days_32 : decode cX10_days 32 = .ok (.istore 5, 2) := by decide +kernel
theorem dX10_days_34 : decode cX10_days 34 = .ok (.iconst 0, 1) := by decide +kernel
theorem dX10_days_35 : decode cX10_days 35 = .ok (.istore 6, 2) := by decide +kernel
theorem dX10_days_37 : decode cX10_days 37 = .ok (.iconst 0, 1) := by decide +kernel
theorem dX10_days_38 : decode cX10_days 38 = .ok (.istore 7, 2) := by decide +kernel
theorem dX10_days_40 : decode cX10_days 40 = .ok (.iload 7, 2) := by decide +kernel
theorem dX10_days_42 : decode cX10_days 42 = .ok (.aload_n 0, 1) := by decide +kernel
theorem dX10_days_43 : decode cX10_days 43 = .ok (.getfield 10, 3) := by decide +kernel
theorem dX10_days_46 : decode cX10_days 46 = .ok (.getfield 127, 3) := by decide +kernel
theorem dX10_days_49 : decode cX10_days 49 = .ok (.getfield 199, 3) := by decide +kernel
theorem dX10_days_52 : decode cX10_days 52 = .ok (.if_icmp .ge 68, 3) := by decide +kernel
theorem dX10_days_55 : decode cX10_days 55 = .ok (.aload_n 0, 1) := by decide +kernel
theorem dX10_days_56 : decode cX10_days 56 = .ok (.getfield 36, 3) := by decide +kernel
theorem dX10_days_59 : decode cX10_days 59 = .ok (.aload_n 0, 1) := by decide +kernel
theorem dX10_days_60 : decode cX10_days 60 = .ok (.getfield 10, 3) := by decide +kernel
theorem dX10_days_63 : decode cX10_days 63 = .ok (.iload 7, 2) := by decide +kernel
theorem dX10_days_65 : decode cX10_days 65 = .ok (.iload_n 1, 1) := by decide +kernel
theorem dX10_days_66 : decode cX10_days 66 = .ok (.invokevirtual 196, 3) := by decide +kernel
theorem dX10_days_69 : decode cX10_days 69 = .ok (.istore 8, 2) := by decide +kernel
theorem dX10_days_71 : decode cX10_days 71 = .ok (.aload_n 0, 1) := by decide +kernel
end
section
theorem dX10_days_72 : decode cX10_days 72 = .ok (.iload 7, 2) := by decide +kernel
theorem dX10_days_74 : decode cX10_days 74 = .ok (.iload_n 1, 1) := by decide +kernel
theorem dX10_days_75 : decode cX10_days 75 = .ok (.iload_n 2, 1) := by decide +kernel
theorem dX10_days_76 : decode cX10_days 76 = .ok (.invokevirtual 228, 3) := by decide +kernel
theorem dX10_days_79 : decode cX10_days 79 = .ok (.istore 9, 2) := by decide +kernel
theorem dX10_days_81 : decode cX10_days 81 = .ok (.iload 4, 2) := by decide +kernel
theorem dX10_days_83 : decode cX10_days 83 = .ok (.iload 8, 2) := by decide +kernel
theorem dX10_days_85 : decode cX10_days 85 = .ok (.invokestatic 231, 3) := by decide +kernel
theorem dX10_days_88 : decode cX10_days 88 = .ok (.iadd, 1) := by decide +kernel
theorem dX10_days_89 : decode cX10_days 89 = .ok (.istore 4, 2) := by decide +kernel
theorem dX10_days_91 : decode cX10_days 91 = .ok (.iload 5, 2) := by decide +kernel
theorem dX10_days_93 : decode cX10_days 93 = .ok (.iload 8, 2) := by decide +kernel
theorem dX10_days_95 : decode cX10_days 95 = .ok (.iload 9, 2) := by decide +kernel
theorem dX10_days_97 : decode cX10_days 97 = .ok (.iand, 1) := by decide +kernel
theorem dX10_days_98 : decode cX10_days 98 = .ok (.invokestatic 231, 3) := by decide +kernel
theorem dX10_days_101 : decode cX10_days 101 = .ok (.iadd, 1) := by decide +kernel
theorem dX10_days_102 : decode cX10_days 102 = .ok (.istore 5, 2) := by decide +kernel
theorem dX10_days_104 : decode cX10_days 104 = .ok (.iload 6, 2) := by decide +kernel
theorem dX10_days_106 : decode cX10_days 106 = .ok (.iload 9, 2) := by decide +kernel
theorem dX10_days_108 : decode cX10_days 108 = .ok (.invokestatic 231, 3) := by decide +kernel
theorem dX10_days_111 : decode cX10_days 111 = .ok (.iadd, 1) := by decide +kernel
theorem dX10_days_112 : decode cX10_days 112 = .ok (.istore 6, 2) := by decide +kernel
theorem dX10_days_114 : decode cX10_days 114 = .ok (.iinc 7 1, 3) := by decide +kernel
theorem dX10_days_117 : decode cX10_days 117 = .ok (.goto (-77), 3) := by decide +kernel
theorem dX10_days_120 : decode cX10_days 120 = .ok (.iload_n 3, 1) := by decide +kernel
theorem dX10_days_121 : decode cX10_days 121 = .ok (.ifCond .ne 6, 3) := by decide +kernel
theorem dX10_days_124 : decode cX10_days 124 = .ok (.iload 4, 2) := by decide +kernel
theorem dX10_days_126 : decode cX10_days 126 = .ok (.ireturn, 1) := by decide +kernel
theorem dX10_days_127 : decode cX10_days 127 = .ok (.iload_n 3, 1) := by decide +kernel
theorem dX10_days_128 : decode cX10_days 128 = .ok (.iconst 1, 1) := by decide +kernel
theorem dX10_days_129 : decode cX10_days 129 = .ok (.if_icmp .ne 8, 3) := by decide +kernel
theorem dX10_days_132 : decode cX10_days 132 = .ok (.iload 5, 2) := by decide +kernel
theorem dX10_days_134 : decode cX10_days 134 = .ok (.goto 8, 3) := by decide +kernel
theorem dX10_days_137 : decode cX10_days 137 = .ok (.iload 6, 2) := by decide +kernel
theorem dX10_days_139 : decode cX10_days 139 = .ok (.iload 5, 2) := by decide +kernel
theorem dX10_days_141 : decode cX10_days 141 = .ok (.isub, 1) := by decide +kernel
theorem dX10_days_142 : decode cX10_days 142 = .ok (.ireturn, 1) := by decide +kernel
theorem dX10_best_0 : decode cX10_best 0 = .ok (.iload_n 1, 1) := by decide +kernel
theorem dX10_best_1 : decode cX10_best 1 = .ok (.invokestatic 124, 3) := by decide +kernel
theorem dX10_best_4 : decode cX10_best 4 = .ok (.ifCond .eq 12, 3) := by decide +kernel
theorem dX10_best_7 : decode cX10_best 7 = .ok (.iload_n 2, 1) := by decide +kernel
theorem dX10_best_8 : decode cX10_best 8 = .ok (.iconst 0, 1) := by decide +kernel
theorem dX10_best_9 : decode cX10_best 9 = .ok (.iconst 1, 1) := by decide +kernel
theorem dX10_best_10 : decode cX10_best 10 = .ok (.invokestatic 77, 3) := by decide +kernel
theorem dX10_best_13 : decode cX10_best 13 = .ok (.ifCond .ne 5, 3) := by decide +kernel
theorem dX10_best_16 : decode cX10_best 16 = .ok (.iconst (-1), 1) := by decide +kernel
theorem dX10_best_17 : decode cX10_best 17 = .ok (.ireturn, 1) := by decide +kernel
theorem dX10_best_18 : decode cX10_best 18 = .ok (.iconst 0, 1) := by decide +kernel
theorem dX10_best_19 : decode cX10_best 19 = .ok (.istore_n 3, 1) := by decide +kernel
theorem dX10_best_20 : decode cX10_best 20 = .ok (.bipush 9, 2) := by decide +kernel
theorem dX10_best_22 : decode cX10_best 22 = .ok (.istore 4, 2) := by decide +kernel
theorem dX10_best_24 : decode cX10_best 24 = .ok (.iconst 0, 1) := by decide +kernel
theorem dX10_best_25 : decode cX10_best 25 = .ok (.istore 5, 2) := by decide +kernel
theorem dX10_best_27 : decode cX10_best 27 = .ok (.iload 5, 2) := by decide +kernel
theorem dX10_best_29 : decode cX10_best 29 = .ok (.bipush 9, 2) := by decide +kernel
theorem dX10_best_31 : decode cX10_best 31 = .ok (.if_icmp .gt 32, 3) := by decide +kernel
theorem dX10_best_34 : decode cX10_best 34 = .ok (.aload_n 0, 1) := by decide +kernel
theorem dX10_best_35 : decode cX10_best 35 = .ok (.iload_n 1, 1) := by decide +kernel
theorem dX10_best_36 : decode cX10_best 36 = .ok (.iload 5, 2) := by decide +kernel
theorem dX10_best_38 : decode cX10_best 38 = .ok (.invokevirtual 236, 3) := by decide +kernel
theorem dX10_best_41 : decode cX10_best 41 = .ok (.istore 6, 2) := by decide +kernel
theorem dX10_best_43 : decode cX10_best 43 = .ok (.iload 6, 2) := by decide +kernel
theorem dX10_best_45 : decode cX10_best 45 = .ok (.iload 4, 2) := by decide +kernel
theorem dX10_best_47 : decode cX10_best 47 = .ok (.if_icmp .ge 10, 3) := by decide +kernel
theorem dX10_best_50 : decode cX10_best 50 = .ok (.iload 6, 2) := by decide +kernel
theorem dX10_best_52 : decode cX10_best 52 = .ok (.istore 4, 2) := by decide +kernel
theorem dX10_best_54 : decode cX10_best 54 = .ok (.iload 5, 2) := by decide +kernel
theorem dX10_best_56 : decode cX10_best 56 = .ok (.istore_n 3, 1) := by decide +kernel
theorem dX10_best_57 : decode cX10_best 57 = .ok (.iinc 5 1, 3) := by decide +kernel
theorem dX10_best_60 : decode cX10_best 60 = .ok (.goto (-33), 3) := by decide +kernel
theorem dX10_best_63 : decode cX10_best 63 = .ok (.iload_n 2, 1) := by decide +kernel
theorem dX10_best_64 : decode cX10_best 64 = .ok (.ifCond .ne 7, 3) := by decide +kernel
theorem dX10_best_67 : decode cX10_best 67 = .ok (.iload_n 3, 1) := by decide +kernel
theorem dX10_best_68 : decode cX10_best 68 = .ok (.goto 5, 3) := by decide +kernel
theorem dX10_best_71 : decode cX10_best 71 = .ok (.iload 4, 2) := by decide +kernel
theorem dX10_best_73 : decode cX10_best 73 = .ok (.ireturn, 1) := by decide +kernel
theorem dX10_say_0 : decode cX10_say 0 = .ok (.aload_n 0, 1) := by decide +kernel
theorem dX10_say_1 : decode cX10_say 1 = .ok (.iload_n 1, 1) := by decide +kernel
theorem dX10_say_2 : decode cX10_say 2 = .ok (.iload_n 2, 1) := by decide +kernel
theorem dX10_say_3 : decode cX10_say 3 = .ok (.iload_n 3, 1) := by decide +kernel
theorem dX10_say_4 : decode cX10_say 4 = .ok (.invokevirtual 239, 3) := by decide +kernel
theorem dX10_say_7 : decode cX10_say 7 = .ok (.ireturn, 1) := by decide +kernel
theorem dX10_unsay_0 : decode cX10_unsay 0 = .ok (.iload_n 1, 1) := by decide +kernel
theorem dX10_unsay_1 : decode cX10_unsay 1 = .ok (.iconst 0, 1) := by decide +kernel
theorem dX10_unsay_2 : decode cX10_unsay 2 = .ok (.aload_n 0, 1) := by decide +kernel
theorem dX10_unsay_3 : decode cX10_unsay 3 = .ok (.getfield 10, 3) := by decide +kernel
theorem dX10_unsay_6 : decode cX10_unsay 6 = .ok (.getfield 242, 3) := by decide +kernel
theorem dX10_unsay_9 : decode cX10_unsay 9 = .ok (.getfield 245, 3) := by decide +kernel
theorem dX10_unsay_12 : decode cX10_unsay 12 = .ok (.invokestatic 77, 3) := by decide +kernel
theorem dX10_unsay_15 : decode cX10_unsay 15 = .ok (.ifCond .ne 5, 3) := by decide +kernel
theorem dX10_unsay_18 : decode cX10_unsay 18 = .ok (.iconst (-1), 1) := by decide +kernel
theorem dX10_unsay_19 : decode cX10_unsay 19 = .ok (.ireturn, 1) := by decide +kernel
theorem dX10_unsay_20 : decode cX10_unsay 20 = .ok (.aload_n 0, 1) := by decide +kernel
theorem dX10_unsay_21 : decode cX10_unsay 21 = .ok (.getfield 10, 3) := by decide +kernel
theorem dX10_unsay_24 : decode cX10_unsay 24 = .ok (.getfield 242, 3) := by decide +kernel
theorem dX10_unsay_27 : decode cX10_unsay 27 = .ok (.getfield 245, 3) := by decide +kernel
theorem dX10_unsay_30 : decode cX10_unsay 30 = .ok (.istore_n 2, 1) := by decide +kernel
theorem dX10_unsay_31 : decode cX10_unsay 31 = .ok (.aload_n 0, 1) := by decide +kernel
theorem dX10_unsay_32 : decode cX10_unsay 32 = .ok (.getfield 10, 3) := by decide +kernel
theorem dX10_unsay_35 : decode cX10_unsay 35 = .ok (.getfield 242, 3) := by decide +kernel
theorem dX10_unsay_38 : decode cX10_unsay 38 = .ok (.iload_n 1, 1) := by decide +kernel
theorem dX10_unsay_39 : decode cX10_unsay 39 = .ok (.putfield 245, 3) := by decide +kernel
theorem dX10_unsay_42 : decode cX10_unsay 42 = .ok (.iload_n 2, 1) := by decide +kernel
theorem dX10_unsay_43 : decode cX10_unsay 43 = .ok (.ireturn, 1) := by decide +kernel
theorem dX10_said_0 : decode cX10_said 0 = .ok (.aload_n 0, 1) := by decide +kernel
theorem dX10_said_1 : decode cX10_said 1 = .ok (.iload_n 1, 1) := by decide +kernel
theorem dX10_said_2 : decode cX10_said 2 = .ok (.invokevirtual 246, 3) := by decide +kernel
theorem dX10_said_5 : decode cX10_said 5 = .ok (.ifCond .eq 12, 3) := by decide +kernel
theorem dX10_said_8 : decode cX10_said 8 = .ok (.iload_n 2, 1) := by decide +kernel
theorem dX10_said_9 : decode cX10_said 9 = .ok (.iconst 0, 1) := by decide +kernel
theorem dX10_said_10 : decode cX10_said 10 = .ok (.iconst 3, 1) := by decide +kernel
theorem dX10_said_11 : decode cX10_said 11 = .ok (.invokestatic 77, 3) := by decide +kernel
theorem dX10_said_14 : decode cX10_said 14 = .ok (.ifCond .ne 5, 3) := by decide +kernel
theorem dX10_said_17 : decode cX10_said 17 = .ok (.iconst (-1), 1) := by decide +kernel
theorem dX10_said_18 : decode cX10_said 18 = .ok (.ireturn, 1) := by decide +kernel
theorem dX10_said_19 : decode cX10_said 19 = .ok (.iload_n 2, 1) := by decide +kernel
theorem dX10_said_20 : decode cX10_said 20 = .ok (.iconst 3, 1) := by decide +kernel
theorem dX10_said_21 : decode cX10_said 21 = .ok (.if_icmp .ge 16, 3) := by decide +kernel
theorem dX10_said_24 : decode cX10_said 24 = .ok (.aload_n 0, 1) := by decide +kernel
theorem dX10_said_25 : decode cX10_said 25 = .ok (.getfield 10, 3) := by decide +kernel
theorem dX10_said_28 : decode cX10_said 28 = .ok (.getfield 242, 3) := by decide +kernel
theorem dX10_said_31 : decode cX10_said 31 = .ok (.iload_n 1, 1) := by decide +kernel
theorem dX10_said_32 : decode cX10_said 32 = .ok (.iload_n 2, 1) := by decide +kernel
theorem dX10_said_33 : decode cX10_said 33 = .ok (.invokevirtual 154, 3) := by decide +kernel
theorem dX10_said_36 : decode cX10_said 36 = .ok (.ireturn, 1) := by decide +kernel
theorem dX10_said_37 : decode cX10_said 37 = .ok (.aload_n 0, 1) := by decide +kernel
theorem dX10_said_38 : decode cX10_said 38 = .ok (.getfield 43, 3) := by decide +kernel
theorem dX10_said_41 : decode cX10_said 41 = .ok (.aload_n 0, 1) := by decide +kernel
theorem dX10_said_42 : decode cX10_said 42 = .ok (.getfield 10, 3) := by decide +kernel
theorem dX10_said_45 : decode cX10_said 45 = .ok (.iload_n 1, 1) := by decide +kernel
theorem dX10_said_46 : decode cX10_said 46 = .ok (.invokevirtual 249, 3) := by decide +kernel
theorem dX10_said_49 : decode cX10_said 49 = .ok (.pop, 1) := by decide +kernel
theorem dX10_said_50 : decode cX10_said 50 = .ok (.aload_n 0, 1) := by decide +kernel
theorem dX10_said_51 : decode cX10_said 51 = .ok (.getfield 43, 3) := by decide +kernel
theorem dX10_said_54 : decode cX10_said 54 = .ok (.aload_n 0, 1) := by decide +kernel
theorem dX10_said_55 : decode cX10_said 55 = .ok (.getfield 10, 3) := by decide +kernel
theorem dX10_said_58 : decode cX10_said 58 = .ok (.iload_n 1, 1) := by decide +kernel
theorem dX10_said_59 : decode cX10_said 59 = .ok (.invokevirtual 252, 3) := by decide +kernel
theorem dX10_said_62 : decode cX10_said 62 = .ok (.ireturn, 1) := by decide +kernel
theorem dX10_knows_0 : decode cX10_knows 0 = .ok (.aload_n 0, 1) := by decide +kernel
theorem dX10_knows_1 : decode cX10_knows 1 = .ok (.iload_n 1, 1) := by decide +kernel
theorem dX10_knows_2 : decode cX10_knows 2 = .ok (.invokevirtual 166, 3) := by decide +kernel
theorem dX10_knows_5 : decode cX10_knows 5 = .ok (.ifCond .eq 21, 3) := by decide +kernel
theorem dX10_knows_8 : decode cX10_knows 8 = .ok (.iload_n 2, 1) := by decide +kernel
theorem dX10_knows_9 : decode cX10_knows 9 = .ok (.iconst 0, 1) := by decide +kernel
theorem dX10_knows_10 : decode cX10_knows 10 = .ok (.aload_n 0, 1) := by decide +kernel
theorem dX10_knows_11 : decode cX10_knows 11 = .ok (.getfield 10, 3) := by decide +kernel
theorem dX10_knows_14 : decode cX10_knows 14 = .ok (.getfield 242, 3) := by decide +kernel
theorem dX10_knows_17 : decode cX10_knows 17 = .ok (.getfield 245, 3) := by decide +kernel
theorem dX10_knows_20 : decode cX10_knows 20 = .ok (.invokestatic 77, 3) := by decide +kernel
theorem dX10_knows_23 : decode cX10_knows 23 = .ok (.ifCond .ne 5, 3) := by decide +kernel
theorem dX10_knows_26 : decode cX10_knows 26 = .ok (.iconst (-1), 1) := by decide +kernel
theorem dX10_knows_27 : decode cX10_knows 27 = .ok (.ireturn, 1) := by decide +kernel
theorem dX10_knows_28 : decode cX10_knows 28 = .ok (.aload_n 0, 1) := by decide +kernel
theorem dX10_knows_29 : decode cX10_knows 29 = .ok (.getfield 43, 3) := by decide +kernel
theorem dX10_knows_32 : decode cX10_knows 32 = .ok (.aload_n 0, 1) := by decide +kernel
theorem dX10_knows_33 : decode cX10_knows 33 = .ok (.getfield 10, 3) := by decide +kernel
theorem dX10_knows_36 : decode cX10_knows 36 = .ok (.iload_n 2, 1) := by decide +kernel
theorem dX10_knows_37 : decode cX10_knows 37 = .ok (.invokevirtual 249, 3) := by decide +kernel
theorem dX10_knows_40 : decode cX10_knows 40 = .ok (.pop, 1) := by decide +kernel
theorem dX10_knows_41 : decode cX10_knows 41 = .ok (.aload_n 0, 1) := by decide +kernel
theorem dX10_knows_42 : decode cX10_knows 42 = .ok (.getfield 43, 3) := by decide +kernel
theorem dX10_knows_45 : decode cX10_knows 45 = .ok (.iload_n 1, 1) := by decide +kernel
theorem dX10_knows_46 : decode cX10_knows 46 = .ok (.invokevirtual 255, 3) := by decide +kernel
theorem dX10_knows_49 : decode cX10_knows 49 = .ok (.ireturn, 1) := by decide +kernel
theorem dX10_since_0 : decode cX10_since 0 = .ok (.aload_n 0, 1) := by decide +kernel
theorem dX10_since_1 : decode cX10_since 1 = .ok (.iload_n 1, 1) := by decide +kernel
theorem dX10_since_2 : decode cX10_since 2 = .ok (.invokevirtual 166, 3) := by decide +kernel
theorem dX10_since_5 : decode cX10_since 5 = .ok (.ifCond .eq 10, 3) := by decide +kernel
theorem dX10_since_8 : decode cX10_since 8 = .ok (.iload_n 2, 1) := by decide +kernel
theorem dX10_since_9 : decode cX10_since 9 = .ok (.invokestatic 258, 3) := by decide +kernel
theorem dX10_since_12 : decode cX10_since 12 = .ok (.ifCond .ne 5, 3) := by decide +kernel
theorem dX10_since_15 : decode cX10_since 15 = .ok (.iconst (-1), 1) := by decide +kernel
theorem dX10_since_16 : decode cX10_since 16 = .ok (.ireturn, 1) := by decide +kernel
theorem dX10_since_17 : decode cX10_since 17 = .ok (.aload_n 0, 1) := by decide +kernel
theorem dX10_since_18 : decode cX10_since 18 = .ok (.getfield 43, 3) := by decide +kernel
theorem dX10_since_21 : decode cX10_since 21 = .ok (.aload_n 0, 1) := by decide +kernel
theorem dX10_since_22 : decode cX10_since 22 = .ok (.getfield 10, 3) := by decide +kernel
theorem dX10_since_25 : decode cX10_since 25 = .ok (.iload_n 2, 1) := by decide +kernel
theorem dX10_since_26 : decode cX10_since 26 = .ok (.iconst 1, 1) := by decide +kernel
theorem dX10_since_27 : decode cX10_since 27 = .ok (.iload_n 1, 1) := by decide +kernel
theorem dX10_since_28 : decode cX10_since 28 = .ok (.ishl, 1) := by decide +kernel
theorem dX10_since_29 : decode cX10_since 29 = .ok (.iconst (-1), 1) := by decide +kernel
theorem dX10_since_30 : decode cX10_since 30 = .ok (.ixor, 1) := by decide +kernel
theorem dX10_since_31 : decode cX10_since 31 = .ok (.invokevirtual 261, 3) := by decide +kernel
theorem dX10_since_34 : decode cX10_since 34 = .ok (.ireturn, 1) := by decide +kernel
theorem dX10_leak_0 : decode cX10_leak 0 = .ok (.iload_n 1, 1) := by decide +kernel
theorem dX10_leak_1 : decode cX10_leak 1 = .ok (.invokestatic 258, 3) := by decide +kernel
theorem dX10_leak_4 : decode cX10_leak 4 = .ok (.ifCond .eq 26, 3) := by decide +kernel
theorem dX10_leak_7 : decode cX10_leak 7 = .ok (.iload_n 2, 1) := by decide +kernel
theorem dX10_leak_8 : decode cX10_leak 8 = .ok (.aload_n 0, 1) := by decide +kernel
theorem dX10_leak_9 : decode cX10_leak 9 = .ok (.getfield 10, 3) := by decide +kernel
theorem dX10_leak_12 : decode cX10_leak 12 = .ok (.getfield 264, 3) := by decide +kernel
theorem dX10_leak_15 : decode cX10_leak 15 = .ok (.invokestatic 267, 3) := by decide +kernel
theorem dX10_leak_18 : decode cX10_leak 18 = .ok (.ifCond .eq 12, 3) := by decide +kernel
theorem dX10_leak_21 : decode cX10_leak 21 = .ok (.iload_n 3, 1) := by decide +kernel
theorem dX10_leak_22 : decode cX10_leak 22 = .ok (.iconst 0, 1) := by decide +kernel
theorem dX10_leak_23 : decode cX10_leak 23 = .ok (.iconst 2, 1) := by decide +kernel
theorem dX10_leak_24 : decode cX10_leak 24 = .ok (.invokestatic 77, 3) := by decide +kernel
theorem dX10_leak_27 : decode cX10_leak 27 = .ok (.ifCond .ne 5, 3) := by decide +kernel
theorem dX10_leak_30 : decode cX10_leak 30 = .ok (.iconst (-1), 1) := by decide +kernel
theorem dX10_leak_31 : decode cX10_leak 31 = .ok (.ireturn, 1) := by decide +kernel
theorem dX10_leak_32 : decode cX10_leak 32 = .ok (.aload_n 0, 1) := by decide +kernel
theorem dX10_leak_33 : decode cX10_leak 33 = .ok (.getfield 43, 3) := by decide +kernel
theorem dX10_leak_36 : decode cX10_leak 36 = .ok (.aload_n 0, 1) := by decide +kernel
theorem dX10_leak_37 : decode cX10_leak 37 = .ok (.getfield 10, 3) := by decide +kernel
theorem dX10_leak_40 : decode cX10_leak 40 = .ok (.iload_n 1, 1) := by decide +kernel
theorem dX10_leak_41 : decode cX10_leak 41 = .ok (.iload_n 2, 1) := by decide +kernel
theorem dX10_leak_42 : decode cX10_leak 42 = .ok (.invokevirtual 261, 3) := by decide +kernel
theorem dX10_leak_45 : decode cX10_leak 45 = .ok (.istore 4, 2) := by decide +kernel
theorem dX10_leak_47 : decode cX10_leak 47 = .ok (.iload 4, 2) := by decide +kernel
theorem dX10_leak_49 : decode cX10_leak 49 = .ok (.bipush (-4), 2) := by decide +kernel
theorem dX10_leak_51 : decode cX10_leak 51 = .ok (.if_icmp .eq 7, 3) := by decide +kernel
theorem dX10_leak_54 : decode cX10_leak 54 = .ok (.iload_n 3, 1) := by decide +kernel
theorem dX10_leak_55 : decode cX10_leak 55 = .ok (.ifCond .ne 6, 3) := by decide +kernel
theorem dX10_leak_58 : decode cX10_leak 58 = .ok (.iload 4, 2) := by decide +kernel
theorem dX10_leak_60 : decode cX10_leak 60 = .ok (.ireturn, 1) := by decide +kernel
theorem dX10_leak_61 : decode cX10_leak 61 = .ok (.iload_n 3, 1) := by decide +kernel
theorem dX10_leak_62 : decode cX10_leak 62 = .ok (.iconst 1, 1) := by decide +kernel
theorem dX10_leak_63 : decode cX10_leak 63 = .ok (.if_icmp .ne 19, 3) := by decide +kernel
theorem dX10_leak_66 : decode cX10_leak 66 = .ok (.aload_n 0, 1) := by decide +kernel
theorem dX10_leak_67 : decode cX10_leak 67 = .ok (.getfield 10, 3) := by decide +kernel
theorem dX10_leak_70 : decode cX10_leak 70 = .ok (.getfield 242, 3) := by decide +kernel
theorem dX10_leak_73 : decode cX10_leak 73 = .ok (.iload 4, 2) := by decide +kernel
theorem dX10_leak_75 : decode cX10_leak 75 = .ok (.iconst 1, 1) := by decide +kernel
theorem dX10_leak_76 : decode cX10_leak 76 = .ok (.invokevirtual 154, 3) := by decide +kernel
theorem dX10_leak_79 : decode cX10_leak 79 = .ok (.goto 15, 3) := by decide +kernel
theorem dX10_leak_82 : decode cX10_leak 82 = .ok (.aload_n 0, 1) := by decide +kernel
theorem dX10_leak_83 : decode cX10_leak 83 = .ok (.getfield 43, 3) := by decide +kernel
theorem dX10_leak_86 : decode cX10_leak 86 = .ok (.iload_n 1, 1) := by decide +kernel
theorem dX10_leak_87 : decode cX10_leak 87 = .ok (.invokevirtual 271, 3) := by decide +kernel
theorem dX10_leak_90 : decode cX10_leak 90 = .ok (.iload_n 2, 1) := by decide +kernel
theorem dX10_leak_91 : decode cX10_leak 91 = .ok (.iconst (-1), 1) := by decide +kernel
theorem dX10_leak_92 : decode cX10_leak 92 = .ok (.ixor, 1) := by decide +kernel
theorem dX10_leak_93 : decode cX10_leak 93 = .ok (.iand, 1) := by decide +kernel
theorem dX10_leak_94 : decode cX10_leak 94 = .ok (.ireturn, 1) := by decide +kernel
theorem dX10_without_0 : decode cX10_without 0 = .ok (.aload_n 0, 1) := by decide +kernel
theorem dX10_without_1 : decode cX10_without 1 = .ok (.iload_n 1, 1) := by decide +kernel
theorem dX10_without_2 : decode cX10_without 2 = .ok (.invokevirtual 246, 3) := by decide +kernel
theorem dX10_without_5 : decode cX10_without 5 = .ok (.ifCond .ne 5, 3) := by decide +kernel
theorem dX10_without_8 : decode cX10_without 8 = .ok (.iconst (-1), 1) := by decide +kernel
theorem dX10_without_9 : decode cX10_without 9 = .ok (.ireturn, 1) := by decide +kernel
theorem dX10_without_10 : decode cX10_without 10 = .ok (.aload_n 0, 1) := by decide +kernel
theorem dX10_without_11 : decode cX10_without 11 = .ok (.getfield 10, 3) := by decide +kernel
theorem dX10_without_14 : decode cX10_without 14 = .ok (.getfield 242, 3) := by decide +kernel
theorem dX10_without_17 : decode cX10_without 17 = .ok (.iload_n 1, 1) := by decide +kernel
theorem dX10_without_18 : decode cX10_without 18 = .ok (.iconst 2, 1) := by decide +kernel
theorem dX10_without_19 : decode cX10_without 19 = .ok (.invokevirtual 154, 3) := by decide +kernel
theorem dX10_without_22 : decode cX10_without 22 = .ok (.istore_n 2, 1) := by decide +kernel
theorem dX10_without_23 : decode cX10_without 23 = .ok (.aload_n 0, 1) := by decide +kernel
theorem dX10_without_24 : decode cX10_without 24 = .ok (.getfield 43, 3) := by decide +kernel
theorem dX10_without_27 : decode cX10_without 27 = .ok (.aload_n 0, 1) := by decide +kernel
theorem dX10_without_28 : decode cX10_without 28 = .ok (.getfield 10, 3) := by decide +kernel
theorem dX10_without_31 : decode cX10_without 31 = .ok (.aload_n 0, 1) := by decide +kernel
theorem dX10_without_32 : decode cX10_without 32 = .ok (.getfield 10, 3) := by decide +kernel
theorem dX10_without_35 : decode cX10_without 35 = .ok (.getfield 242, 3) := by decide +kernel
theorem dX10_without_38 : decode cX10_without 38 = .ok (.getfield 245, 3) := by decide +kernel
theorem dX10_without_41 : decode cX10_without 41 = .ok (.invokevirtual 249, 3) := by decide +kernel
theorem dX10_without_44 : decode cX10_without 44 = .ok (.pop, 1) := by decide +kernel
theorem dX10_without_45 : decode cX10_without 45 = .ok (.aload_n 0, 1) := by decide +kernel
theorem dX10_without_46 : decode cX10_without 46 = .ok (.getfield 43, 3) := by decide +kernel
theorem dX10_without_49 : decode cX10_without 49 = .ok (.iload_n 2, 1) := by decide +kernel
theorem dX10_without_50 : decode cX10_without 50 = .ok (.invokevirtual 271, 3) := by decide +kernel
theorem dX10_without_53 : decode cX10_without 53 = .ok (.invokestatic 231, 3) := by decide +kernel
theorem dX10_without_56 : decode cX10_without 56 = .ok (.istore_n 3, 1) := by decide +kernel
theorem dX10_without_57 : decode cX10_without 57 = .ok (.aload_n 0, 1) := by decide +kernel
theorem dX10_without_58 : decode cX10_without 58 = .ok (.getfield 43, 3) := by decide +kernel
theorem dX10_without_61 : decode cX10_without 61 = .ok (.aload_n 0, 1) := by decide +kernel
theorem dX10_without_62 : decode cX10_without 62 = .ok (.getfield 10, 3) := by decide +kernel
theorem dX10_without_65 : decode cX10_without 65 = .ok (.iload_n 1, 1) := by decide +kernel
theorem dX10_without_66 : decode cX10_without 66 = .ok (.invokevirtual 274, 3) := by decide +kernel
theorem dX10_without_69 : decode cX10_without 69 = .ok (.iload_n 3, 1) := by decide +kernel
theorem dX10_without_70 : decode cX10_without 70 = .ok (.aload_n 0, 1) := by decide +kernel
theorem dX10_without_71 : decode cX10_without 71 = .ok (.getfield 43, 3) := by decide +kernel
theorem dX10_without_74 : decode cX10_without 74 = .ok (.iload_n 2, 1) := by decide +kernel
theorem dX10_without_75 : decode cX10_without 75 = .ok (.invokevirtual 271, 3) := by decide +kernel
theorem dX10_without_78 : decode cX10_without 78 = .ok (.invokestatic 231, 3) := by decide +kernel
theorem dX10_without_81 : decode cX10_without 81 = .ok (.isub, 1) := by decide +kernel
theorem dX10_without_82 : decode cX10_without 82 = .ok (.istore 4, 2) := by decide +kernel
theorem dX10_without_84 : decode cX10_without 84 = .ok (.iload 4, 2) := by decide +kernel
theorem dX10_without_86 : decode cX10_without 86 = .ok (.ifCond .ge 11, 3) := by decide +kernel
theorem dX10_without_89 : decode cX10_without 89 = .ok (.iload 4, 2) := by decide +kernel
theorem dX10_without_91 : decode cX10_without 91 = .ok (.bipush 100, 2) := by decide +kernel
theorem dX10_without_93 : decode cX10_without 93 = .ok (.isub, 1) := by decide +kernel
theorem dX10_without_94 : decode cX10_without 94 = .ok (.goto 5, 3) := by decide +kernel
theorem dX10_without_97 : decode cX10_without 97 = .ok (.iload 4, 2) := by decide +kernel
theorem dX10_without_99 : decode cX10_without 99 = .ok (.ireturn, 1) := by decide +kernel
theorem dX10_murmur_0 : decode cX10_murmur 0 = .ok (.iload_n 2, 1) := by decide +kernel
theorem dX10_murmur_1 : decode cX10_murmur 1 = .ok (.iconst 1, 1) := by decide +kernel
theorem dX10_murmur_2 : decode cX10_murmur 2 = .ok (.bipush 12, 2) := by decide +kernel
theorem dX10_murmur_4 : decode cX10_murmur 4 = .ok (.invokestatic 77, 3) := by decide +kernel
theorem dX10_murmur_7 : decode cX10_murmur 7 = .ok (.ifCond .eq 10, 3) := by decide +kernel
theorem dX10_murmur_10 : decode cX10_murmur 10 = .ok (.iload_n 3, 1) := by decide +kernel
theorem dX10_murmur_11 : decode cX10_murmur 11 = .ok (.invokestatic 124, 3) := by decide +kernel
theorem dX10_murmur_14 : decode cX10_murmur 14 = .ok (.ifCond .ne 5, 3) := by decide +kernel
theorem dX10_murmur_17 : decode cX10_murmur 17 = .ok (.iconst (-1), 1) := by decide +kernel
theorem dX10_murmur_18 : decode cX10_murmur 18 = .ok (.ireturn, 1) := by decide +kernel
theorem dX10_murmur_19 : decode cX10_murmur 19 = .ok (.aload_n 0, 1) := by decide +kernel
theorem dX10_murmur_20 : decode cX10_murmur 20 = .ok (.getfield 10, 3) := by decide +kernel
theorem dX10_murmur_23 : decode cX10_murmur 23 = .ok (.getfield 264, 3) := by decide +kernel
theorem dX10_murmur_26 : decode cX10_murmur 26 = .ok (.ifCond .gt 6, 3) := by decide +kernel
theorem dX10_murmur_29 : decode cX10_murmur 29 = .ok (.bipush (-2), 2) := by decide +kernel
theorem dX10_murmur_31 : decode cX10_murmur 31 = .ok (.ireturn, 1) := by decide +kernel
theorem dX10_murmur_32 : decode cX10_murmur 32 = .ok (.aload_n 0, 1) := by decide +kernel
theorem dX10_murmur_33 : decode cX10_murmur 33 = .ok (.getfield 10, 3) := by decide +kernel
theorem dX10_murmur_36 : decode cX10_murmur 36 = .ok (.getfield 242, 3) := by decide +kernel
theorem dX10_murmur_39 : decode cX10_murmur 39 = .ok (.iconst 0, 1) := by decide +kernel
theorem dX10_murmur_40 : decode cX10_murmur 40 = .ok (.putfield 245, 3) := by decide +kernel
theorem dX10_murmur_43 : decode cX10_murmur 43 = .ok (.iload_n 1, 1) := by decide +kernel
theorem dX10_murmur_44 : decode cX10_murmur 44 = .ok (.istore 4, 2) := by decide +kernel
theorem dX10_murmur_46 : decode cX10_murmur 46 = .ok (.iconst 0, 1) := by decide +kernel
theorem dX10_murmur_47 : decode cX10_murmur 47 = .ok (.istore 5, 2) := by decide +kernel
theorem dX10_murmur_49 : decode cX10_murmur 49 = .ok (.iload 5, 2) := by decide +kernel
theorem dX10_murmur_51 : decode cX10_murmur 51 = .ok (.iload_n 2, 1) := by decide +kernel
theorem dX10_murmur_52 : decode cX10_murmur 52 = .ok (.if_icmp .ge 59, 3) := by decide +kernel
theorem dX10_murmur_55 : decode cX10_murmur 55 = .ok (.iload 4, 2) := by decide +kernel
theorem dX10_murmur_57 : decode cX10_murmur 57 = .ok (.invokestatic 277, 3) := by decide +kernel
theorem dX10_murmur_60 : decode cX10_murmur 60 = .ok (.istore 4, 2) := by decide +kernel
theorem dX10_murmur_62 : decode cX10_murmur 62 = .ok (.iload 4, 2) := by decide +kernel
theorem dX10_murmur_64 : decode cX10_murmur 64 = .ok (.invokestatic 280, 3) := by decide +kernel
theorem dX10_murmur_67 : decode cX10_murmur 67 = .ok (.aload_n 0, 1) := by decide +kernel
theorem dX10_murmur_68 : decode cX10_murmur 68 = .ok (.getfield 10, 3) := by decide +kernel
theorem dX10_murmur_71 : decode cX10_murmur 71 = .ok (.getfield 264, 3) := by decide +kernel
theorem dX10_murmur_74 : decode cX10_murmur 74 = .ok (.irem, 1) := by decide +kernel
theorem dX10_murmur_75 : decode cX10_murmur 75 = .ok (.istore 6, 2) := by decide +kernel
theorem dX10_murmur_77 : decode cX10_murmur 77 = .ok (.iload 4, 2) := by decide +kernel
theorem dX10_murmur_79 : decode cX10_murmur 79 = .ok (.invokestatic 277, 3) := by decide +kernel
theorem dX10_murmur_82 : decode cX10_murmur 82 = .ok (.istore 4, 2) := by decide +kernel
theorem dX10_murmur_84 : decode cX10_murmur 84 = .ok (.aload_n 0, 1) := by decide +kernel
theorem dX10_murmur_85 : decode cX10_murmur 85 = .ok (.getfield 10, 3) := by decide +kernel
theorem dX10_murmur_88 : decode cX10_murmur 88 = .ok (.getfield 242, 3) := by decide +kernel
theorem dX10_murmur_91 : decode cX10_murmur 91 = .ok (.iload_n 3, 1) := by decide +kernel
theorem dX10_murmur_92 : decode cX10_murmur 92 = .ok (.iload 6, 2) := by decide +kernel
theorem dX10_murmur_94 : decode cX10_murmur 94 = .ok (.iload 4, 2) := by decide +kernel
theorem dX10_murmur_96 : decode cX10_murmur 96 = .ok (.invokestatic 280, 3) := by decide +kernel
theorem dX10_murmur_99 : decode cX10_murmur 99 = .ok (.bipush 8, 2) := by decide +kernel
theorem dX10_murmur_101 : decode cX10_murmur 101 = .ok (.irem, 1) := by decide +kernel
theorem dX10_murmur_102 : decode cX10_murmur 102 = .ok (.invokevirtual 283, 3) := by decide +kernel
theorem dX10_murmur_105 : decode cX10_murmur 105 = .ok (.iinc 5 1, 3) := by decide +kernel
theorem dX10_murmur_108 : decode cX10_murmur 108 = .ok (.goto (-59), 3) := by decide +kernel
theorem dX10_murmur_111 : decode cX10_murmur 111 = .ok (.aload_n 0, 1) := by decide +kernel
theorem dX10_murmur_112 : decode cX10_murmur 112 = .ok (.getfield 43, 3) := by decide +kernel
theorem dX10_murmur_115 : decode cX10_murmur 115 = .ok (.aload_n 0, 1) := by decide +kernel
theorem dX10_murmur_116 : decode cX10_murmur 116 = .ok (.getfield 10, 3) := by decide +kernel
theorem dX10_murmur_119 : decode cX10_murmur 119 = .ok (.iload_n 2, 1) := by decide +kernel
theorem dX10_murmur_120 : decode cX10_murmur 120 = .ok (.invokevirtual 249, 3) := by decide +kernel
theorem dX10_murmur_123 : decode cX10_murmur 123 = .ok (.ireturn, 1) := by decide +kernel
theorem dX10_from_0 : decode cX10_from 0 = .ok (.iload_n 1, 1) := by decide +kernel
theorem dX10_from_1 : decode cX10_from 1 = .ok (.aload_n 0, 1) := by decide +kernel
theorem dX10_from_2 : decode cX10_from 2 = .ok (.getfield 10, 3) := by decide +kernel
theorem dX10_from_5 : decode cX10_from 5 = .ok (.getfield 127, 3) := by decide +kernel
theorem dX10_from_8 : decode cX10_from 8 = .ok (.getfield 199, 3) := by decide +kernel
theorem dX10_from_11 : decode cX10_from 11 = .ok (.invokestatic 267, 3) := by decide +kernel
theorem dX10_from_14 : decode cX10_from 14 = .ok (.ifCond .eq 10, 3) := by decide +kernel
theorem dX10_from_17 : decode cX10_from 17 = .ok (.iload_n 2, 1) := by decide +kernel
theorem dX10_from_18 : decode cX10_from 18 = .ok (.invokestatic 124, 3) := by decide +kernel
theorem dX10_from_21 : decode cX10_from 21 = .ok (.ifCond .ne 5, 3) := by decide +kernel
theorem dX10_from_24 : decode cX10_from 24 = .ok (.iconst (-1), 1) := by decide +kernel
theorem dX10_from_25 : decode cX10_from 25 = .ok (.ireturn, 1) := by decide +kernel
theorem dX10_from_26 : decode cX10_from 26 = .ok (.iconst 0, 1) := by decide +kernel
theorem dX10_from_27 : decode cX10_from 27 = .ok (.istore_n 3, 1) := by decide +kernel
theorem dX10_from_28 : decode cX10_from 28 = .ok (.iconst 0, 1) := by decide +kernel
theorem dX10_from_29 : decode cX10_from 29 = .ok (.istore 4, 2) := by decide +kernel
theorem dX10_from_31 : decode cX10_from 31 = .ok (.iload 4, 2) := by decide +kernel
theorem dX10_from_33 : decode cX10_from 33 = .ok (.aload_n 0, 1) := by decide +kernel
theorem dX10_from_34 : decode cX10_from 34 = .ok (.getfield 10, 3) := by decide +kernel
theorem dX10_from_37 : decode cX10_from 37 = .ok (.getfield 127, 3) := by decide +kernel
theorem dX10_from_40 : decode cX10_from 40 = .ok (.getfield 199, 3) := by decide +kernel
theorem dX10_from_43 : decode cX10_from 43 = .ok (.if_icmp .ge 34, 3) := by decide +kernel
theorem dX10_from_46 : decode cX10_from 46 = .ok (.aload_n 0, 1) := by decide +kernel
theorem dX10_from_47 : decode cX10_from 47 = .ok (.getfield 36, 3) := by decide +kernel
theorem dX10_from_50 : decode cX10_from 50 = .ok (.aload_n 0, 1) := by decide +kernel
theorem dX10_from_51 : decode cX10_from 51 = .ok (.getfield 10, 3) := by decide +kernel
theorem dX10_from_54 : decode cX10_from 54 = .ok (.iload 4, 2) := by decide +kernel
theorem dX10_from_56 : decode cX10_from 56 = .ok (.iload_n 2, 1) := by decide +kernel
theorem dX10_from_57 : decode cX10_from 57 = .ok (.invokevirtual 196, 3) := by decide +kernel
theorem dX10_from_60 : decode cX10_from 60 = .ok (.iload_n 1, 1) := by decide +kernel
theorem dX10_from_61 : decode cX10_from 61 = .ok (.if_icmp .ne 10, 3) := by decide +kernel
theorem dX10_from_64 : decode cX10_from 64 = .ok (.iload_n 3, 1) := by decide +kernel
theorem dX10_from_65 : decode cX10_from 65 = .ok (.iconst 1, 1) := by decide +kernel
theorem dX10_from_66 : decode cX10_from 66 = .ok (.iload 4, 2) := by decide +kernel
theorem dX10_from_68 : decode cX10_from 68 = .ok (.ishl, 1) := by decide +kernel
theorem dX10_from_69 : decode cX10_from 69 = .ok (.ior, 1) := by decide +kernel
theorem dX10_from_70 : decode cX10_from 70 = .ok (.istore_n 3, 1) := by decide +kernel
theorem dX10_from_71 : decode cX10_from 71 = .ok (.iinc 4 1, 3) := by decide +kernel
theorem dX10_from_74 : decode cX10_from 74 = .ok (.goto (-43), 3) := by decide +kernel
theorem dX10_from_77 : decode cX10_from 77 = .ok (.iload_n 3, 1) := by decide +kernel
theorem dX10_from_78 : decode cX10_from 78 = .ok (.ireturn, 1) := by decide +kernel
theorem dX10_where_0 : decode cX10_where 0 = .ok (.iload_n 1, 1) := by decide +kernel
theorem dX10_where_1 : decode cX10_where 1 = .ok (.aload_n 0, 1) := by decide +kernel
theorem dX10_where_2 : decode cX10_where 2 = .ok (.getfield 10, 3) := by decide +kernel
theorem dX10_where_5 : decode cX10_where 5 = .ok (.getfield 127, 3) := by decide +kernel
theorem dX10_where_8 : decode cX10_where 8 = .ok (.getfield 199, 3) := by decide +kernel
theorem dX10_where_11 : decode cX10_where 11 = .ok (.invokestatic 267, 3) := by decide +kernel
theorem dX10_where_14 : decode cX10_where 14 = .ok (.ifCond .eq 23, 3) := by decide +kernel
theorem dX10_where_17 : decode cX10_where 17 = .ok (.iload_n 1, 1) := by decide +kernel
theorem dX10_where_18 : decode cX10_where 18 = .ok (.ifCond .eq 19, 3) := by decide +kernel
theorem dX10_where_21 : decode cX10_where 21 = .ok (.iload_n 2, 1) := by decide +kernel
theorem dX10_where_22 : decode cX10_where 22 = .ok (.invokestatic 124, 3) := by decide +kernel
theorem dX10_where_25 : decode cX10_where 25 = .ok (.ifCond .eq 12, 3) := by decide +kernel
theorem dX10_where_28 : decode cX10_where 28 = .ok (.iload_n 3, 1) := by decide +kernel
theorem dX10_where_29 : decode cX10_where 29 = .ok (.iconst 0, 1) := by decide +kernel
theorem dX10_where_30 : decode cX10_where 30 = .ok (.iconst 2, 1) := by decide +kernel
theorem dX10_where_31 : decode cX10_where 31 = .ok (.invokestatic 77, 3) := by decide +kernel
theorem dX10_where_34 : decode cX10_where 34 = .ok (.ifCond .ne 5, 3) := by decide +kernel
theorem dX10_where_37 : decode cX10_where 37 = .ok (.iconst (-1), 1) := by decide +kernel
theorem dX10_where_38 : decode cX10_where 38 = .ok (.ireturn, 1) := by decide +kernel
theorem dX10_where_39 : decode cX10_where 39 = .ok (.iconst 0, 1) := by decide +kernel
theorem dX10_where_40 : decode cX10_where 40 = .ok (.istore 4, 2) := by decide +kernel
theorem dX10_where_42 : decode cX10_where 42 = .ok (.bipush (-4), 2) := by decide +kernel
theorem dX10_where_44 : decode cX10_where 44 = .ok (.istore 5, 2) := by decide +kernel
theorem dX10_where_46 : decode cX10_where 46 = .ok (.bipush (-4), 2) := by decide +kernel
theorem dX10_where_48 : decode cX10_where 48 = .ok (.istore 6, 2) := by decide +kernel
theorem dX10_where_50 : decode cX10_where 50 = .ok (.iconst 0, 1) := by decide +kernel
theorem dX10_where_51 : decode cX10_where 51 = .ok (.istore 7, 2) := by decide +kernel
theorem dX10_where_53 : decode cX10_where 53 = .ok (.iload 7, 2) := by decide +kernel
theorem dX10_where_55 : decode cX10_where 55 = .ok (.bipush 81, 2) := by decide +kernel
theorem dX10_where_57 : decode cX10_where 57 = .ok (.if_icmp .ge 73, 3) := by decide +kernel
theorem dX10_where_60 : decode cX10_where 60 = .ok (.aload_n 0, 1) := by decide +kernel
theorem dX10_where_61 : decode cX10_where 61 = .ok (.getfield 10, 3) := by decide +kernel
theorem dX10_where_64 : decode cX10_where 64 = .ok (.iload 7, 2) := by decide +kernel
theorem dX10_where_66 : decode cX10_where 66 = .ok (.invokevirtual 287, 3) := by decide +kernel
theorem dX10_where_69 : decode cX10_where 69 = .ok (.ifCond .eq 14, 3) := by decide +kernel
theorem dX10_where_72 : decode cX10_where 72 = .ok (.aload_n 0, 1) := by decide +kernel
theorem dX10_where_73 : decode cX10_where 73 = .ok (.iload_n 1, 1) := by decide +kernel
theorem dX10_where_74 : decode cX10_where 74 = .ok (.iload 7, 2) := by decide +kernel
theorem dX10_where_76 : decode cX10_where 76 = .ok (.iload_n 2, 1) := by decide +kernel
theorem dX10_where_77 : decode cX10_where 77 = .ok (.invokevirtual 290, 3) := by decide +kernel
theorem dX10_where_80 : decode cX10_where 80 = .ok (.goto 5, 3) := by decide +kernel
theorem dX10_where_83 : decode cX10_where 83 = .ok (.bipush (-4), 2) := by decide +kernel
theorem dX10_where_85 : decode cX10_where 85 = .ok (.istore 8, 2) := by decide +kernel
theorem dX10_where_87 : decode cX10_where 87 = .ok (.iload 8, 2) := by decide +kernel
theorem dX10_where_89 : decode cX10_where 89 = .ok (.bipush (-4), 2) := by decide +kernel
theorem dX10_where_91 : decode cX10_where 91 = .ok (.if_icmp .eq 16, 3) := by decide +kernel
theorem dX10_where_94 : decode cX10_where 94 = .ok (.iload 4, 2) := by decide +kernel
theorem dX10_where_96 : decode cX10_where 96 = .ok (.ifCond .ne 11, 3) := by decide +kernel
theorem dX10_where_99 : decode cX10_where 99 = .ok (.iload 7, 2) := by decide +kernel
theorem dX10_where_101 : decode cX10_where 101 = .ok (.istore 5, 2) := by decide +kernel
theorem dX10_where_103 : decode cX10_where 103 = .ok (.iload 8, 2) := by decide +kernel
theorem dX10_where_105 : decode cX10_where 105 = .ok (.istore 6, 2) := by decide +kernel
theorem dX10_where_107 : decode cX10_where 107 = .ok (.iload 4, 2) := by decide +kernel
theorem dX10_where_109 : decode cX10_where 109 = .ok (.iload 8, 2) := by decide +kernel
theorem dX10_where_111 : decode cX10_where 111 = .ok (.bipush (-4), 2) := by decide +kernel
theorem dX10_where_113 : decode cX10_where 113 = .ok (.if_icmp .ne 7, 3) := by decide +kernel
theorem dX10_where_116 : decode cX10_where 116 = .ok (.iconst 0, 1) := by decide +kernel
theorem dX10_where_117 : decode cX10_where 117 = .ok (.goto 4, 3) := by decide +kernel
theorem dX10_where_120 : decode cX10_where 120 = .ok (.iconst 1, 1) := by decide +kernel
theorem dX10_where_121 : decode cX10_where 121 = .ok (.iadd, 1) := by decide +kernel
theorem dX10_where_122 : decode cX10_where 122 = .ok (.istore 4, 2) := by decide +kernel
theorem dX10_where_124 : decode cX10_where 124 = .ok (.iinc 7 1, 3) := by decide +kernel
theorem dX10_where_127 : decode cX10_where 127 = .ok (.goto (-74), 3) := by decide +kernel
theorem dX10_where_130 : decode cX10_where 130 = .ok (.iload_n 3, 1) := by decide +kernel
theorem dX10_where_131 : decode cX10_where 131 = .ok (.ifCond .ne 6, 3) := by decide +kernel
theorem dX10_where_134 : decode cX10_where 134 = .ok (.iload 4, 2) := by decide +kernel
theorem dX10_where_136 : decode cX10_where 136 = .ok (.ireturn, 1) := by decide +kernel
theorem dX10_where_137 : decode cX10_where 137 = .ok (.iload_n 3, 1) := by decide +kernel
theorem dX10_where_138 : decode cX10_where 138 = .ok (.iconst 1, 1) := by decide +kernel
theorem dX10_where_139 : decode cX10_where 139 = .ok (.if_icmp .ne 8, 3) := by decide +kernel
theorem dX10_where_142 : decode cX10_where 142 = .ok (.iload 5, 2) := by decide +kernel
theorem dX10_where_144 : decode cX10_where 144 = .ok (.goto 5, 3) := by decide +kernel
theorem dX10_where_147 : decode cX10_where 147 = .ok (.iload 6, 2) := by decide +kernel
theorem dX10_where_149 : decode cX10_where 149 = .ok (.ireturn, 1) := by decide +kernel
theorem dX10_keep_0 : decode cX10_keep 0 = .ok (.iload_n 1, 1) := by decide +kernel
theorem dX10_keep_1 : decode cX10_keep 1 = .ok (.iconst 0, 1) := by decide +kernel
theorem dX10_keep_2 : decode cX10_keep 2 = .ok (.iconst 1, 1) := by decide +kernel
theorem dX10_keep_3 : decode cX10_keep 3 = .ok (.invokestatic 77, 3) := by decide +kernel
theorem dX10_keep_6 : decode cX10_keep 6 = .ok (.ifCond .ne 5, 3) := by decide +kernel
theorem dX10_keep_9 : decode cX10_keep 9 = .ok (.iconst (-1), 1) := by decide +kernel
theorem dX10_keep_10 : decode cX10_keep 10 = .ok (.ireturn, 1) := by decide +kernel
theorem dX10_keep_11 : decode cX10_keep 11 = .ok (.aload_n 0, 1) := by decide +kernel
theorem dX10_keep_12 : decode cX10_keep 12 = .ok (.getfield 22, 3) := by decide +kernel
theorem dX10_keep_15 : decode cX10_keep 15 = .ok (.iload_n 1, 1) := by decide +kernel
theorem dX10_keep_16 : decode cX10_keep 16 = .ok (.invokestatic 205, 3) := by decide +kernel
theorem dX10_keep_19 : decode cX10_keep 19 = .ok (.istore_n 2, 1) := by decide +kernel
theorem dX10_keep_20 : decode cX10_keep 20 = .ok (.aload_n 0, 1) := by decide +kernel
theorem dX10_keep_21 : decode cX10_keep 21 = .ok (.iload_n 1, 1) := by decide +kernel
theorem dX10_keep_22 : decode cX10_keep 22 = .ok (.invokevirtual 293, 3) := by decide +kernel
theorem dX10_keep_25 : decode cX10_keep 25 = .ok (.aload_n 0, 1) := by decide +kernel
theorem dX10_keep_26 : decode cX10_keep 26 = .ok (.getfield 10, 3) := by decide +kernel
theorem dX10_keep_29 : decode cX10_keep 29 = .ok (.invokevirtual 297, 3) := by decide +kernel
theorem dX10_keep_32 : decode cX10_keep 32 = .ok (.aload_n 0, 1) := by decide +kernel
theorem dX10_keep_33 : decode cX10_keep 33 = .ok (.dup, 1) := by decide +kernel
theorem dX10_keep_34 : decode cX10_keep 34 = .ok (.getfield 22, 3) := by decide +kernel
theorem dX10_keep_37 : decode cX10_keep 37 = .ok (.iconst 1, 1) := by decide +kernel
theorem dX10_keep_38 : decode cX10_keep 38 = .ok (.iload_n 1, 1) := by decide +kernel
theorem dX10_keep_39 : decode cX10_keep 39 = .ok (.ishl, 1) := by decide +kernel
theorem dX10_keep_40 : decode cX10_keep 40 = .ok (.ior, 1) := by decide +kernel
theorem dX10_keep_41 : decode cX10_keep 41 = .ok (.putfield 22, 3) := by decide +kernel
theorem dX10_keep_44 : decode cX10_keep 44 = .ok (.iload_n 2, 1) := by decide +kernel
theorem dX10_keep_45 : decode cX10_keep 45 = .ok (.ireturn, 1) := by decide +kernel
theorem dX10_back_0 : decode cX10_back 0 = .ok (.iload_n 1, 1) := by decide +kernel
theorem dX10_back_1 : decode cX10_back 1 = .ok (.iconst 0, 1) := by decide +kernel
theorem dX10_back_2 : decode cX10_back 2 = .ok (.iconst 1, 1) := by decide +kernel
theorem dX10_back_3 : decode cX10_back 3 = .ok (.invokestatic 77, 3) := by decide +kernel
theorem dX10_back_6 : decode cX10_back 6 = .ok (.ifCond .ne 5, 3) := by decide +kernel
theorem dX10_back_9 : decode cX10_back 9 = .ok (.iconst (-1), 1) := by decide +kernel
theorem dX10_back_10 : decode cX10_back 10 = .ok (.ireturn, 1) := by decide +kernel
theorem dX10_back_11 : decode cX10_back 11 = .ok (.aload_n 0, 1) := by decide +kernel
theorem dX10_back_12 : decode cX10_back 12 = .ok (.getfield 22, 3) := by decide +kernel
theorem dX10_back_15 : decode cX10_back 15 = .ok (.iload_n 1, 1) := by decide +kernel
theorem dX10_back_16 : decode cX10_back 16 = .ok (.invokestatic 205, 3) := by decide +kernel
theorem dX10_back_19 : decode cX10_back 19 = .ok (.ifCond .ne 6, 3) := by decide +kernel
theorem dX10_back_22 : decode cX10_back 22 = .ok (.bipush (-2), 2) := by decide +kernel
theorem dX10_back_24 : decode cX10_back 24 = .ok (.ireturn, 1) := by decide +kernel
theorem dX10_back_25 : decode cX10_back 25 = .ok (.aload_n 0, 1) := by decide +kernel
theorem dX10_back_26 : decode cX10_back 26 = .ok (.getfield 10, 3) := by decide +kernel
theorem dX10_back_29 : decode cX10_back 29 = .ok (.aload_n 0, 1) := by decide +kernel
theorem dX10_back_30 : decode cX10_back 30 = .ok (.iload_n 1, 1) := by decide +kernel
theorem dX10_back_31 : decode cX10_back 31 = .ok (.invokevirtual 293, 3) := by decide +kernel
theorem dX10_back_34 : decode cX10_back 34 = .ok (.invokevirtual 297, 3) := by decide +kernel
theorem dX10_back_37 : decode cX10_back 37 = .ok (.aload_n 0, 1) := by decide +kernel
theorem dX10_back_38 : decode cX10_back 38 = .ok (.getfield 10, 3) := by decide +kernel
theorem dX10_back_41 : decode cX10_back 41 = .ok (.getfield 242, 3) := by decide +kernel
theorem dX10_back_44 : decode cX10_back 44 = .ok (.getfield 245, 3) := by decide +kernel
theorem dX10_back_47 : decode cX10_back 47 = .ok (.ireturn, 1) := by decide +kernel
theorem dX10_sheet_0 : decode cX10_sheet 0 = .ok (.iload_n 1, 1) := by decide +kernel
theorem dX10_sheet_1 : decode cX10_sheet 1 = .ok (.iconst 0, 1) := by decide +kernel
theorem dX10_sheet_2 : decode cX10_sheet 2 = .ok (.iconst 3, 1) := by decide +kernel
theorem dX10_sheet_3 : decode cX10_sheet 3 = .ok (.invokestatic 77, 3) := by decide +kernel
theorem dX10_sheet_6 : decode cX10_sheet 6 = .ok (.ifCond .eq 18, 3) := by decide +kernel
theorem dX10_sheet_9 : decode cX10_sheet 9 = .ok (.iload_n 2, 1) := by decide +kernel
theorem dX10_sheet_10 : decode cX10_sheet 10 = .ok (.iconst 0, 1) := by decide +kernel
theorem dX10_sheet_11 : decode cX10_sheet 11 = .ok (.iconst 2, 1) := by decide +kernel
theorem dX10_sheet_12 : decode cX10_sheet 12 = .ok (.invokestatic 77, 3) := by decide +kernel
theorem dX10_sheet_15 : decode cX10_sheet 15 = .ok (.ifCond .eq 9, 3) := by decide +kernel
theorem dX10_sheet_18 : decode cX10_sheet 18 = .ok (.iload_n 3, 1) := by decide +kernel
theorem dX10_sheet_19 : decode cX10_sheet 19 = .ok (.bipush 40, 2) := by decide +kernel
theorem dX10_sheet_21 : decode cX10_sheet 21 = .ok (.if_icmp .le 5, 3) := by decide +kernel
theorem dX10_sheet_24 : decode cX10_sheet 24 = .ok (.iconst (-1), 1) := by decide +kernel
theorem dX10_sheet_25 : decode cX10_sheet 25 = .ok (.ireturn, 1) := by decide +kernel
theorem dX10_sheet_26 : decode cX10_sheet 26 = .ok (.iload_n 3, 1) := by decide +kernel
theorem dX10_sheet_27 : decode cX10_sheet 27 = .ok (.ifCond .ge 6, 3) := by decide +kernel
theorem dX10_sheet_30 : decode cX10_sheet 30 = .ok (.bipush (-14), 2) := by decide +kernel
theorem dX10_sheet_32 : decode cX10_sheet 32 = .ok (.ireturn, 1) := by decide +kernel
theorem dX10_sheet_33 : decode cX10_sheet 33 = .ok (.aload_n 0, 1) := by decide +kernel
theorem dX10_sheet_34 : decode cX10_sheet 34 = .ok (.getfield 57, 3) := by decide +kernel
theorem dX10_sheet_37 : decode cX10_sheet 37 = .ok (.iload_n 1, 1) := by decide +kernel
theorem dX10_sheet_38 : decode cX10_sheet 38 = .ok (.iload_n 2, 1) := by decide +kernel
theorem dX10_sheet_39 : decode cX10_sheet 39 = .ok (.iload_n 3, 1) := by decide +kernel
theorem dX10_sheet_40 : decode cX10_sheet 40 = .ok (.invokevirtual 300, 3) := by decide +kernel
theorem dX10_sheet_43 : decode cX10_sheet 43 = .ok (.iconst 1, 1) := by decide +kernel
theorem dX10_sheet_44 : decode cX10_sheet 44 = .ok (.ireturn, 1) := by decide +kernel
theorem dX10_lay_0 : decode cX10_lay 0 = .ok (.iload_n 1, 1) := by decide +kernel
theorem dX10_lay_1 : decode cX10_lay 1 = .ok (.iconst 0, 1) := by decide +kernel
theorem dX10_lay_2 : decode cX10_lay 2 = .ok (.iconst 3, 1) := by decide +kernel
theorem dX10_lay_3 : decode cX10_lay 3 = .ok (.invokestatic 77, 3) := by decide +kernel
theorem dX10_lay_6 : decode cX10_lay 6 = .ok (.ifCond .ne 5, 3) := by decide +kernel
theorem dX10_lay_9 : decode cX10_lay 9 = .ok (.iconst (-1), 1) := by decide +kernel
theorem dX10_lay_10 : decode cX10_lay 10 = .ok (.ireturn, 1) := by decide +kernel
theorem dX10_lay_11 : decode cX10_lay 11 = .ok (.aload_n 0, 1) := by decide +kernel
theorem dX10_lay_12 : decode cX10_lay 12 = .ok (.getfield 57, 3) := by decide +kernel
theorem dX10_lay_15 : decode cX10_lay 15 = .ok (.iload_n 1, 1) := by decide +kernel
theorem dX10_lay_16 : decode cX10_lay 16 = .ok (.iload_n 2, 1) := by decide +kernel
theorem dX10_lay_17 : decode cX10_lay 17 = .ok (.iconst 1, 1) := by decide +kernel
theorem dX10_lay_18 : decode cX10_lay 18 = .ok (.invokevirtual 303, 3) := by decide +kernel
theorem dX10_lay_21 : decode cX10_lay 21 = .ok (.istore 4, 2) := by decide +kernel
theorem dX10_lay_23 : decode cX10_lay 23 = .ok (.iload 4, 2) := by decide +kernel
theorem dX10_lay_25 : decode cX10_lay 25 = .ok (.ifCond .eq 9, 3) := by decide +kernel
theorem dX10_lay_28 : decode cX10_lay 28 = .ok (.bipush (-10), 2) := by decide +kernel
theorem dX10_lay_30 : decode cX10_lay 30 = .ok (.iload 4, 2) := by decide +kernel
theorem dX10_lay_32 : decode cX10_lay 32 = .ok (.isub, 1) := by decide +kernel
theorem dX10_lay_33 : decode cX10_lay 33 = .ok (.ireturn, 1) := by decide +kernel
theorem dX10_lay_34 : decode cX10_lay 34 = .ok (.aload_n 0, 1) := by decide +kernel
theorem dX10_lay_35 : decode cX10_lay 35 = .ok (.getfield 57, 3) := by decide +kernel
theorem dX10_lay_38 : decode cX10_lay 38 = .ok (.iload_n 1, 1) := by decide +kernel
theorem dX10_lay_39 : decode cX10_lay 39 = .ok (.iload_n 2, 1) := by decide +kernel
theorem dX10_lay_40 : decode cX10_lay 40 = .ok (.iload_n 3, 1) := by decide +kernel
theorem dX10_lay_41 : decode cX10_lay 41 = .ok (.invokevirtual 306, 3) := by decide +kernel
theorem dX10_lay_44 : decode cX10_lay 44 = .ok (.iconst 1, 1) := by decide +kernel
theorem dX10_lay_45 : decode cX10_lay 45 = .ok (.ireturn, 1) := by decide +kernel
theorem dX10_read_0 : decode cX10_read 0 = .ok (.iload_n 1, 1) := by decide +kernel
theorem dX10_read_1 : decode cX10_read 1 = .ok (.iconst 0, 1) := by decide +kernel
theorem dX10_read_2 : decode cX10_read 2 = .ok (.iconst 3, 1) := by decide +kernel
theorem dX10_read_3 : decode cX10_read 3 = .ok (.invokestatic 77, 3) := by decide +kernel
theorem dX10_read_6 : decode cX10_read 6 = .ok (.ifCond .eq 23, 3) := by decide +kernel
theorem dX10_read_9 : decode cX10_read 9 = .ok (.iload_n 2, 1) := by decide +kernel
theorem dX10_read_10 : decode cX10_read 10 = .ok (.iconst 0, 1) := by decide +kernel
theorem dX10_read_11 : decode cX10_read 11 = .ok (.iconst 2, 1) := by decide +kernel
theorem dX10_read_12 : decode cX10_read 12 = .ok (.invokestatic 77, 3) := by decide +kernel
theorem dX10_read_15 : decode cX10_read 15 = .ok (.ifCond .eq 14, 3) := by decide +kernel
theorem dX10_read_18 : decode cX10_read 18 = .ok (.iload 4, 2) := by decide +kernel
theorem dX10_read_20 : decode cX10_read 20 = .ok (.iconst 0, 1) := by decide +kernel
theorem dX10_read_21 : decode cX10_read 21 = .ok (.bipush 12, 2) := by decide +kernel
theorem dX10_read_23 : decode cX10_read 23 = .ok (.invokestatic 77, 3) := by decide +kernel
theorem dX10_read_26 : decode cX10_read 26 = .ok (.ifCond .ne 5, 3) := by decide +kernel
theorem dX10_read_29 : decode cX10_read 29 = .ok (.iconst (-1), 1) := by decide +kernel
theorem dX10_read_30 : decode cX10_read 30 = .ok (.ireturn, 1) := by decide +kernel
theorem dX10_read_31 : decode cX10_read 31 = .ok (.aload_n 0, 1) := by decide +kernel
theorem dX10_read_32 : decode cX10_read 32 = .ok (.getfield 10, 3) := by decide +kernel
theorem dX10_read_35 : decode cX10_read 35 = .ok (.getfield 242, 3) := by decide +kernel
theorem dX10_read_38 : decode cX10_read 38 = .ok (.getfield 245, 3) := by decide +kernel
theorem dX10_read_41 : decode cX10_read 41 = .ok (.istore 5, 2) := by decide +kernel
theorem dX10_read_43 : decode cX10_read 43 = .ok (.iconst 0, 1) := by decide +kernel
theorem dX10_read_44 : decode cX10_read 44 = .ok (.istore 6, 2) := by decide +kernel
theorem dX10_read_46 : decode cX10_read 46 = .ok (.iload 4, 2) := by decide +kernel
theorem dX10_read_48 : decode cX10_read 48 = .ok (.ifCond .ne 7, 3) := by decide +kernel
theorem dX10_read_51 : decode cX10_read 51 = .ok (.iconst 0, 1) := by decide +kernel
theorem dX10_read_52 : decode cX10_read 52 = .ok (.goto 12, 3) := by decide +kernel
theorem dX10_read_55 : decode cX10_read 55 = .ok (.aload_n 0, 1) := by decide +kernel
theorem dX10_read_56 : decode cX10_read 56 = .ok (.getfield 57, 3) := by decide +kernel
theorem dX10_read_59 : decode cX10_read 59 = .ok (.iload_n 1, 1) := by decide +kernel
theorem dX10_read_60 : decode cX10_read 60 = .ok (.iload_n 2, 1) := by decide +kernel
theorem dX10_read_61 : decode cX10_read 61 = .ok (.invokevirtual 309, 3) := by decide +kernel
theorem dX10_read_64 : decode cX10_read 64 = .ok (.istore 7, 2) := by decide +kernel
theorem dX10_read_66 : decode cX10_read 66 = .ok (.iconst 0, 1) := by decide +kernel
theorem dX10_read_67 : decode cX10_read 67 = .ok (.istore 8, 2) := by decide +kernel
theorem dX10_read_69 : decode cX10_read 69 = .ok (.iload 8, 2) := by decide +kernel
theorem dX10_read_71 : decode cX10_read 71 = .ok (.iload 4, 2) := by decide +kernel
theorem dX10_read_73 : decode cX10_read 73 = .ok (.if_icmp .ge 71, 3) := by decide +kernel
theorem dX10_read_76 : decode cX10_read 76 = .ok (.iload 7, 2) := by decide +kernel
theorem dX10_read_78 : decode cX10_read 78 = .ok (.ifCond .ne 66, 3) := by decide +kernel
theorem dX10_read_81 : decode cX10_read 81 = .ok (.aload_n 0, 1) := by decide +kernel
theorem dX10_read_82 : decode cX10_read 82 = .ok (.getfield 57, 3) := by decide +kernel
theorem dX10_read_85 : decode cX10_read 85 = .ok (.iload_n 1, 1) := by decide +kernel
theorem dX10_read_86 : decode cX10_read 86 = .ok (.iload_n 3, 1) := by decide +kernel
theorem dX10_read_87 : decode cX10_read 87 = .ok (.iconst 3, 1) := by decide +kernel
theorem dX10_read_88 : decode cX10_read 88 = .ok (.iload 8, 2) := by decide +kernel
theorem dX10_read_90 : decode cX10_read 90 = .ok (.imul, 1) := by decide +kernel
theorem dX10_read_91 : decode cX10_read 91 = .ok (.iadd, 1) := by decide +kernel
theorem dX10_read_92 : decode cX10_read 92 = .ok (.iconst 3, 1) := by decide +kernel
theorem dX10_read_93 : decode cX10_read 93 = .ok (.invokevirtual 303, 3) := by decide +kernel
theorem dX10_read_96 : decode cX10_read 96 = .ok (.istore 7, 2) := by decide +kernel
theorem dX10_read_98 : decode cX10_read 98 = .ok (.iload 7, 2) := by decide +kernel
theorem dX10_read_100 : decode cX10_read 100 = .ok (.ifCond .ne 38, 3) := by decide +kernel
theorem dX10_read_103 : decode cX10_read 103 = .ok (.aload_n 0, 1) := by decide +kernel
theorem dX10_read_104 : decode cX10_read 104 = .ok (.iload_n 1, 1) := by decide +kernel
theorem dX10_read_105 : decode cX10_read 105 = .ok (.iload_n 3, 1) := by decide +kernel
theorem dX10_read_106 : decode cX10_read 106 = .ok (.iconst 3, 1) := by decide +kernel
theorem dX10_read_107 : decode cX10_read 107 = .ok (.iload 8, 2) := by decide +kernel
theorem dX10_read_109 : decode cX10_read 109 = .ok (.imul, 1) := by decide +kernel
theorem dX10_read_110 : decode cX10_read 110 = .ok (.iadd, 1) := by decide +kernel
theorem dX10_read_111 : decode cX10_read 111 = .ok (.invokevirtual 312, 3) := by decide +kernel
theorem dX10_read_114 : decode cX10_read 114 = .ok (.ifCond .ge 21, 3) := by decide +kernel
theorem dX10_read_117 : decode cX10_read 117 = .ok (.aload_n 0, 1) := by decide +kernel
theorem dX10_read_118 : decode cX10_read 118 = .ok (.getfield 10, 3) := by decide +kernel
theorem dX10_read_121 : decode cX10_read 121 = .ok (.getfield 242, 3) := by decide +kernel
theorem dX10_read_124 : decode cX10_read 124 = .ok (.iload 5, 2) := by decide +kernel
theorem dX10_read_126 : decode cX10_read 126 = .ok (.putfield 245, 3) := by decide +kernel
theorem dX10_read_129 : decode cX10_read 129 = .ok (.bipush (-20), 2) := by decide +kernel
theorem dX10_read_131 : decode cX10_read 131 = .ok (.iload 8, 2) := by decide +kernel
theorem dX10_read_133 : decode cX10_read 133 = .ok (.isub, 1) := by decide +kernel
theorem dX10_read_134 : decode cX10_read 134 = .ok (.ireturn, 1) := by decide +kernel
theorem dX10_read_135 : decode cX10_read 135 = .ok (.iinc 6 1, 3) := by decide +kernel
theorem dX10_read_138 : decode cX10_read 138 = .ok (.iinc 8 1, 3) := by decide +kernel
theorem dX10_read_141 : decode cX10_read 141 = .ok (.goto (-72), 3) := by decide +kernel
theorem dX10_read_144 : decode cX10_read 144 = .ok (.aload_n 0, 1) := by decide +kernel
theorem dX10_read_145 : decode cX10_read 145 = .ok (.iload 7, 2) := by decide +kernel
theorem dX10_read_147 : decode cX10_read 147 = .ok (.putfield 61, 3) := by decide +kernel
theorem dX10_read_150 : decode cX10_read 150 = .ok (.iload 6, 2) := by decide +kernel
theorem dX10_read_152 : decode cX10_read 152 = .ok (.ireturn, 1) := by decide +kernel
theorem dX10_torn_0 : decode cX10_torn 0 = .ok (.aload_n 0, 1) := by decide +kernel
theorem dX10_torn_1 : decode cX10_torn 1 = .ok (.getfield 61, 3) := by decide +kernel
theorem dX10_torn_4 : decode cX10_torn 4 = .ok (.ireturn, 1) := by decide +kernel
theorem dX10_count_0 : decode cX10_count 0 = .ok (.iload_n 1, 1) := by decide +kernel
theorem dX10_count_1 : decode cX10_count 1 = .ok (.tableswitch 124 0 7 #[47, 58, 66, 74, 85, 96, 104, 115], 47) := by decide +kernel
theorem dX10_count_48 : decode cX10_count 48 = .ok (.aload_n 0, 1) := by decide +kernel
theorem dX10_count_49 : decode cX10_count 49 = .ok (.getfield 10, 3) := by decide +kernel
theorem dX10_count_52 : decode cX10_count 52 = .ok (.getfield 127, 3) := by decide +kernel
theorem dX10_count_55 : decode cX10_count 55 = .ok (.getfield 199, 3) := by decide +kernel
theorem dX10_count_58 : decode cX10_count 58 = .ok (.ireturn, 1) := by decide +kernel
theorem dX10_count_59 : decode cX10_count 59 = .ok (.aload_n 0, 1) := by decide +kernel
theorem dX10_count_60 : decode cX10_count 60 = .ok (.getfield 10, 3) := by decide +kernel
theorem dX10_count_63 : decode cX10_count 63 = .ok (.getfield 264, 3) := by decide +kernel
theorem dX10_count_66 : decode cX10_count 66 = .ok (.ireturn, 1) := by decide +kernel
theorem dX10_count_67 : decode cX10_count 67 = .ok (.aload_n 0, 1) := by decide +kernel
theorem dX10_count_68 : decode cX10_count 68 = .ok (.getfield 10, 3) := by decide +kernel
theorem dX10_count_71 : decode cX10_count 71 = .ok (.invokevirtual 315, 3) := by decide +kernel
theorem dX10_count_74 : decode cX10_count 74 = .ok (.ireturn, 1) := by decide +kernel
theorem dX10_count_75 : decode cX10_count 75 = .ok (.aload_n 0, 1) := by decide +kernel
theorem dX10_count_76 : decode cX10_count 76 = .ok (.getfield 10, 3) := by decide +kernel
theorem dX10_count_79 : decode cX10_count 79 = .ok (.getfield 150, 3) := by decide +kernel
theorem dX10_count_82 : decode cX10_count 82 = .ok (.getfield 245, 3) := by decide +kernel
theorem dX10_count_85 : decode cX10_count 85 = .ok (.ireturn, 1) := by decide +kernel
theorem dX10_count_86 : decode cX10_count 86 = .ok (.aload_n 0, 1) := by decide +kernel
theorem dX10_count_87 : decode cX10_count 87 = .ok (.getfield 10, 3) := by decide +kernel
theorem dX10_count_90 : decode cX10_count 90 = .ok (.getfield 242, 3) := by decide +kernel
theorem dX10_count_93 : decode cX10_count 93 = .ok (.getfield 245, 3) := by decide +kernel
theorem dX10_count_96 : decode cX10_count 96 = .ok (.ireturn, 1) := by decide +kernel
theorem dX10_count_97 : decode cX10_count 97 = .ok (.aload_n 0, 1) := by decide +kernel
theorem dX10_count_98 : decode cX10_count 98 = .ok (.getfield 22, 3) := by decide +kernel
theorem dX10_count_101 : decode cX10_count 101 = .ok (.invokestatic 231, 3) := by decide +kernel
theorem dX10_count_104 : decode cX10_count 104 = .ok (.ireturn, 1) := by decide +kernel
theorem dX10_count_105 : decode cX10_count 105 = .ok (.aload_n 0, 1) := by decide +kernel
theorem dX10_count_106 : decode cX10_count 106 = .ok (.getfield 29, 3) := by decide +kernel
theorem dX10_count_109 : decode cX10_count 109 = .ok (.getfield 64, 3) := by decide +kernel
theorem dX10_count_112 : decode cX10_count 112 = .ok (.getfield 74, 3) := by decide +kernel
theorem dX10_count_115 : decode cX10_count 115 = .ok (.ireturn, 1) := by decide +kernel
theorem dX10_count_116 : decode cX10_count 116 = .ok (.aload_n 0, 1) := by decide +kernel
theorem dX10_count_117 : decode cX10_count 117 = .ok (.getfield 57, 3) := by decide +kernel
theorem dX10_count_120 : decode cX10_count 120 = .ok (.iconst 0, 1) := by decide +kernel
theorem dX10_count_121 : decode cX10_count 121 = .ok (.invokevirtual 318, 3) := by decide +kernel
theorem dX10_count_124 : decode cX10_count 124 = .ok (.ireturn, 1) := by decide +kernel
theorem dX10_count_125 : decode cX10_count 125 = .ok (.iconst (-1), 1) := by decide +kernel
theorem dX10_count_126 : decode cX10_count 126 = .ok (.ireturn, 1) := by decide +kernel
theorem dX10_within_0 : decode cX10_within 0 = .ok (.iload_n 0, 1) := by decide +kernel
theorem dX10_within_1 : decode cX10_within 1 = .ok (.iload_n 1, 1) := by decide +kernel
theorem dX10_within_2 : decode cX10_within 2 = .ok (.if_icmp .lt 12, 3) := by decide +kernel
theorem dX10_within_5 : decode cX10_within 5 = .ok (.iload_n 0, 1) := by decide +kernel
theorem dX10_within_6 : decode cX10_within 6 = .ok (.iload_n 2, 1) := by decide +kernel
theorem dX10_within_7 : decode cX10_within 7 = .ok (.if_icmp .gt 7, 3) := by decide +kernel
theorem dX10_within_10 : decode cX10_within 10 = .ok (.iconst 1, 1) := by decide +kernel
theorem dX10_within_11 : decode cX10_within 11 = .ok (.goto 4, 3) := by decide +kernel
theorem dX10_within_14 : decode cX10_within 14 = .ok (.iconst 0, 1) := by decide +kernel
theorem dX10_within_15 : decode cX10_within 15 = .ok (.ireturn, 1) := by decide +kernel
theorem dX10_isHour_0 : decode cX10_isHour 0 = .ok (.iload_n 0, 1) := by decide +kernel
theorem dX10_isHour_1 : decode cX10_isHour 1 = .ok (.iconst 0, 1) := by decide +kernel
theorem dX10_isHour_2 : decode cX10_isHour 2 = .ok (.bipush 11, 2) := by decide +kernel
theorem dX10_isHour_4 : decode cX10_isHour 4 = .ok (.invokestatic 77, 3) := by decide +kernel
theorem dX10_isHour_7 : decode cX10_isHour 7 = .ok (.ireturn, 1) := by decide +kernel
theorem dX10_isSecret_0 : decode cX10_isSecret 0 = .ok (.iload_n 0, 1) := by decide +kernel
theorem dX10_isSecret_1 : decode cX10_isSecret 1 = .ok (.iconst 0, 1) := by decide +kernel
theorem dX10_isSecret_2 : decode cX10_isSecret 2 = .ok (.bipush 7, 2) := by decide +kernel
theorem dX10_isSecret_4 : decode cX10_isSecret 4 = .ok (.invokestatic 77, 3) := by decide +kernel
theorem dX10_isSecret_7 : decode cX10_isSecret 7 = .ok (.ireturn, 1) := by decide +kernel
theorem dX10_isBench_0 : decode cX10_isBench 0 = .ok (.iload_n 1, 1) := by decide +kernel
theorem dX10_isBench_1 : decode cX10_isBench 1 = .ok (.iconst 0, 1) := by decide +kernel
theorem dX10_isBench_2 : decode cX10_isBench 2 = .ok (.aload_n 0, 1) := by decide +kernel
theorem dX10_isBench_3 : decode cX10_isBench 3 = .ok (.getfield 10, 3) := by decide +kernel
theorem dX10_isBench_6 : decode cX10_isBench 6 = .ok (.getfield 127, 3) := by decide +kernel
theorem dX10_isBench_9 : decode cX10_isBench 9 = .ok (.getfield 199, 3) := by decide +kernel
theorem dX10_isBench_12 : decode cX10_isBench 12 = .ok (.iconst 1, 1) := by decide +kernel
theorem dX10_isBench_13 : decode cX10_isBench 13 = .ok (.isub, 1) := by decide +kernel
theorem dX10_isBench_14 : decode cX10_isBench 14 = .ok (.invokestatic 77, 3) := by decide +kernel
theorem dX10_isBench_17 : decode cX10_isBench 17 = .ok (.ireturn, 1) := by decide +kernel
theorem dX10_isOne_0 : decode cX10_isOne 0 = .ok (.iload_n 1, 1) := by decide +kernel
theorem dX10_isOne_1 : decode cX10_isOne 1 = .ok (.iconst 0, 1) := by decide +kernel
theorem dX10_isOne_2 : decode cX10_isOne 2 = .ok (.aload_n 0, 1) := by decide +kernel
theorem dX10_isOne_3 : decode cX10_isOne 3 = .ok (.getfield 10, 3) := by decide +kernel
theorem dX10_isOne_6 : decode cX10_isOne 6 = .ok (.getfield 264, 3) := by decide +kernel
theorem dX10_isOne_9 : decode cX10_isOne 9 = .ok (.iconst 1, 1) := by decide +kernel
theorem dX10_isOne_10 : decode cX10_isOne 10 = .ok (.isub, 1) := by decide +kernel
theorem dX10_isOne_11 : decode cX10_isOne 11 = .ok (.invokestatic 77, 3) := by decide +kernel
theorem dX10_isOne_14 : decode cX10_isOne 14 = .ok (.ireturn, 1) := by decide +kernel
theorem dX10_isWhisper_0 : decode cX10_isWhisper 0 = .ok (.iload_n 1, 1) := by decide +kernel
theorem dX10_isWhisper_1 : decode cX10_isWhisper 1 = .ok (.iconst 0, 1) := by decide +kernel
theorem dX10_isWhisper_2 : decode cX10_isWhisper 2 = .ok (.aload_n 0, 1) := by decide +kernel
theorem dX10_isWhisper_3 : decode cX10_isWhisper 3 = .ok (.getfield 10, 3) := by decide +kernel
theorem dX10_isWhisper_6 : decode cX10_isWhisper 6 = .ok (.getfield 242, 3) := by decide +kernel
theorem dX10_isWhisper_9 : decode cX10_isWhisper 9 = .ok (.getfield 245, 3) := by decide +kernel
theorem dX10_isWhisper_12 : decode cX10_isWhisper 12 = .ok (.iconst 1, 1) := by decide +kernel
theorem dX10_isWhisper_13 : decode cX10_isWhisper 13 = .ok (.isub, 1) := by decide +kernel
theorem dX10_isWhisper_14 : decode cX10_isWhisper 14 = .ok (.invokestatic 77, 3) := by decide +kernel
theorem dX10_isWhisper_17 : decode cX10_isWhisper 17 = .ok (.ireturn, 1) := by decide +kernel
theorem dX10_areBitsBelow_0 : decode cX10_areBitsBelow 0 = .ok (.iload_n 0, 1) := by decide +kernel
theorem dX10_areBitsBelow_1 : decode cX10_areBitsBelow 1 = .ok (.iconst 0, 1) := by decide +kernel
theorem dX10_areBitsBelow_2 : decode cX10_areBitsBelow 2 = .ok (.iconst 1, 1) := by decide +kernel
theorem dX10_areBitsBelow_3 : decode cX10_areBitsBelow 3 = .ok (.iload_n 1, 1) := by decide +kernel
theorem dX10_areBitsBelow_4 : decode cX10_areBitsBelow 4 = .ok (.ishl, 1) := by decide +kernel
theorem dX10_areBitsBelow_5 : decode cX10_areBitsBelow 5 = .ok (.iconst 1, 1) := by decide +kernel
theorem dX10_areBitsBelow_6 : decode cX10_areBitsBelow 6 = .ok (.isub, 1) := by decide +kernel
theorem dX10_areBitsBelow_7 : decode cX10_areBitsBelow 7 = .ok (.invokestatic 77, 3) := by decide +kernel
theorem dX10_areBitsBelow_10 : decode cX10_areBitsBelow 10 = .ok (.ireturn, 1) := by decide +kernel
theorem dX10_bit_0 : decode cX10_bit 0 = .ok (.iload_n 0, 1) := by decide +kernel
theorem dX10_bit_1 : decode cX10_bit 1 = .ok (.iload_n 1, 1) := by decide +kernel
theorem dX10_bit_2 : decode cX10_bit 2 = .ok (.ishr, 1) := by decide +kernel
theorem dX10_bit_3 : decode cX10_bit 3 = .ok (.iconst 1, 1) := by decide +kernel
theorem dX10_bit_4 : decode cX10_bit 4 = .ok (.iand, 1) := by decide +kernel
theorem dX10_bit_5 : decode cX10_bit 5 = .ok (.ireturn, 1) := by decide +kernel
theorem dX10_imageOf_0 : decode cX10_imageOf 0 = .ok (.iload_n 1, 1) := by decide +kernel
theorem dX10_imageOf_1 : decode cX10_imageOf 1 = .ok (.ifCond .ne 10, 3) := by decide +kernel
theorem dX10_imageOf_4 : decode cX10_imageOf 4 = .ok (.aload_n 0, 1) := by decide +kernel
theorem dX10_imageOf_5 : decode cX10_imageOf 5 = .ok (.getfield 16, 3) := by decide +kernel
theorem dX10_imageOf_8 : decode cX10_imageOf 8 = .ok (.goto 7, 3) := by decide +kernel
theorem dX10_imageOf_11 : decode cX10_imageOf 11 = .ok (.aload_n 0, 1) := by decide +kernel
theorem dX10_imageOf_12 : decode cX10_imageOf 12 = .ok (.getfield 19, 3) := by decide +kernel
theorem dX10_imageOf_15 : decode cX10_imageOf 15 = .ok (.areturn, 1) := by decide +kernel
theorem dX10_nextSeed_0 : decode cX10_nextSeed 0 = .ok (.iload_n 0, 1) := by decide +kernel
theorem dX10_nextSeed_1 : decode cX10_nextSeed 1 = .ok (.ldc_w 321, 3) := by decide +kernel
theorem dX10_nextSeed_4 : decode cX10_nextSeed 4 = .ok (.imul, 1) := by decide +kernel
theorem dX10_nextSeed_5 : decode cX10_nextSeed 5 = .ok (.sipush 12345, 3) := by decide +kernel
theorem dX10_nextSeed_8 : decode cX10_nextSeed 8 = .ok (.iadd, 1) := by decide +kernel
theorem dX10_nextSeed_9 : decode cX10_nextSeed 9 = .ok (.ireturn, 1) := by decide +kernel
theorem dX10_drawnFrom_0 : decode cX10_drawnFrom 0 = .ok (.iload_n 0, 1) := by decide +kernel
theorem dX10_drawnFrom_1 : decode cX10_drawnFrom 1 = .ok (.bipush 16, 2) := by decide +kernel
theorem dX10_drawnFrom_3 : decode cX10_drawnFrom 3 = .ok (.ishr, 1) := by decide +kernel
theorem dX10_drawnFrom_4 : decode cX10_drawnFrom 4 = .ok (.sipush 32767, 3) := by decide +kernel
theorem dX10_drawnFrom_7 : decode cX10_drawnFrom 7 = .ok (.iand, 1) := by decide +kernel
theorem dX10_drawnFrom_8 : decode cX10_drawnFrom 8 = .ok (.ireturn, 1) := by decide +kernel
theorem dX10_whisperMore_0 : decode cX10_whisperMore 0 = .ok (.iload_n 1, 1) := by decide +kernel
theorem dX10_whisperMore_1 : decode cX10_whisperMore 1 = .ok (.invokestatic 124, 3) := by decide +kernel
theorem dX10_whisperMore_4 : decode cX10_whisperMore 4 = .ok (.ifCond .eq 29, 3) := by decide +kernel
theorem dX10_whisperMore_7 : decode cX10_whisperMore 7 = .ok (.iload_n 1, 1) := by decide +kernel
theorem dX10_whisperMore_8 : decode cX10_whisperMore 8 = .ok (.aload_n 0, 1) := by decide +kernel
theorem dX10_whisperMore_9 : decode cX10_whisperMore 9 = .ok (.getfield 10, 3) := by decide +kernel
theorem dX10_whisperMore_12 : decode cX10_whisperMore 12 = .ok (.invokevirtual 322, 3) := by decide +kernel
theorem dX10_whisperMore_15 : decode cX10_whisperMore 15 = .ok (.if_icmp .lt 18, 3) := by decide +kernel
theorem dX10_whisperMore_18 : decode cX10_whisperMore 18 = .ok (.aload_n 0, 1) := by decide +kernel
theorem dX10_whisperMore_19 : decode cX10_whisperMore 19 = .ok (.iload_n 2, 1) := by decide +kernel
theorem dX10_whisperMore_20 : decode cX10_whisperMore 20 = .ok (.invokevirtual 166, 3) := by decide +kernel
theorem dX10_whisperMore_23 : decode cX10_whisperMore 23 = .ok (.ifCond .eq 10, 3) := by decide +kernel
theorem dX10_whisperMore_26 : decode cX10_whisperMore 26 = .ok (.iload_n 3, 1) := by decide +kernel
theorem dX10_whisperMore_27 : decode cX10_whisperMore 27 = .ok (.invokestatic 258, 3) := by decide +kernel
theorem dX10_whisperMore_30 : decode cX10_whisperMore 30 = .ok (.ifCond .ne 5, 3) := by decide +kernel
theorem dX10_whisperMore_33 : decode cX10_whisperMore 33 = .ok (.iconst (-1), 1) := by decide +kernel
theorem dX10_whisperMore_34 : decode cX10_whisperMore 34 = .ok (.ireturn, 1) := by decide +kernel
theorem dX10_whisperMore_35 : decode cX10_whisperMore 35 = .ok (.aload_n 0, 1) := by decide +kernel
theorem dX10_whisperMore_36 : decode cX10_whisperMore 36 = .ok (.getfield 10, 3) := by decide +kernel
theorem dX10_whisperMore_39 : decode cX10_whisperMore 39 = .ok (.getfield 242, 3) := by decide +kernel
theorem dX10_whisperMore_42 : decode cX10_whisperMore 42 = .ok (.getfield 245, 3) := by decide +kernel
theorem dX10_whisperMore_45 : decode cX10_whisperMore 45 = .ok (.bipush 12, 2) := by decide +kernel
theorem dX10_whisperMore_47 : decode cX10_whisperMore 47 = .ok (.if_icmp .lt 6, 3) := by decide +kernel
theorem dX10_whisperMore_50 : decode cX10_whisperMore 50 = .ok (.bipush (-3), 2) := by decide +kernel
theorem dX10_whisperMore_52 : decode cX10_whisperMore 52 = .ok (.ireturn, 1) := by decide +kernel
theorem dX10_whisperMore_53 : decode cX10_whisperMore 53 = .ok (.aload_n 0, 1) := by decide +kernel
theorem dX10_whisperMore_54 : decode cX10_whisperMore 54 = .ok (.getfield 10, 3) := by decide +kernel
theorem dX10_whisperMore_57 : decode cX10_whisperMore 57 = .ok (.getfield 242, 3) := by decide +kernel
theorem dX10_whisperMore_60 : decode cX10_whisperMore 60 = .ok (.iload_n 1, 1) := by decide +kernel
theorem dX10_whisperMore_61 : decode cX10_whisperMore 61 = .ok (.iload_n 2, 1) := by decide +kernel
theorem dX10_whisperMore_62 : decode cX10_whisperMore 62 = .ok (.iload_n 3, 1) := by decide +kernel
theorem dX10_whisperMore_63 : decode cX10_whisperMore 63 = .ok (.invokevirtual 283, 3) := by decide +kernel
theorem dX10_whisperMore_66 : decode cX10_whisperMore 66 = .ok (.aload_n 0, 1) := by decide +kernel
theorem dX10_whisperMore_67 : decode cX10_whisperMore 67 = .ok (.getfield 10, 3) := by decide +kernel
theorem dX10_whisperMore_70 : decode cX10_whisperMore 70 = .ok (.getfield 242, 3) := by decide +kernel
theorem dX10_whisperMore_73 : decode cX10_whisperMore 73 = .ok (.getfield 245, 3) := by decide +kernel
theorem dX10_whisperMore_76 : decode cX10_whisperMore 76 = .ok (.ireturn, 1) := by decide +kernel
theorem dX10_whisperOfSheet_0 : decode cX10_whisperOfSheet 0 = .ok (.aload_n 0, 1) := by decide +kernel
theorem dX10_whisperOfSheet_1 : decode cX10_whisperOfSheet 1 = .ok (.aload_n 0, 1) := by decide +kernel
theorem dX10_whisperOfSheet_2 : decode cX10_whisperOfSheet 2 = .ok (.getfield 57, 3) := by decide +kernel
theorem dX10_whisperOfSheet_5 : decode cX10_whisperOfSheet 5 = .ok (.iload_n 1, 1) := by decide +kernel
theorem dX10_whisperOfSheet_6 : decode cX10_whisperOfSheet 6 = .ok (.iload_n 2, 1) := by decide +kernel
theorem dX10_whisperOfSheet_7 : decode cX10_whisperOfSheet 7 = .ok (.invokevirtual 325, 3) := by decide +kernel
theorem dX10_whisperOfSheet_10 : decode cX10_whisperOfSheet 10 = .ok (.aload_n 0, 1) := by decide +kernel
theorem dX10_whisperOfSheet_11 : decode cX10_whisperOfSheet 11 = .ok (.getfield 57, 3) := by decide +kernel
theorem dX10_whisperOfSheet_14 : decode cX10_whisperOfSheet 14 = .ok (.iload_n 1, 1) := by decide +kernel
theorem dX10_whisperOfSheet_15 : decode cX10_whisperOfSheet 15 = .ok (.iload_n 2, 1) := by decide +kernel
theorem dX10_whisperOfSheet_16 : decode cX10_whisperOfSheet 16 = .ok (.iconst 1, 1) := by decide +kernel
theorem dX10_whisperOfSheet_17 : decode cX10_whisperOfSheet 17 = .ok (.iadd, 1) := by decide +kernel
theorem dX10_whisperOfSheet_18 : decode cX10_whisperOfSheet 18 = .ok (.invokevirtual 325, 3) := by decide +kernel
theorem dX10_whisperOfSheet_21 : decode cX10_whisperOfSheet 21 = .ok (.aload_n 0, 1) := by decide +kernel
theorem dX10_whisperOfSheet_22 : decode cX10_whisperOfSheet 22 = .ok (.getfield 57, 3) := by decide +kernel
theorem dX10_whisperOfSheet_25 : decode cX10_whisperOfSheet 25 = .ok (.iload_n 1, 1) := by decide +kernel
theorem dX10_whisperOfSheet_26 : decode cX10_whisperOfSheet 26 = .ok (.iload_n 2, 1) := by decide +kernel
theorem dX10_whisperOfSheet_27 : decode cX10_whisperOfSheet 27 = .ok (.iconst 2, 1) := by decide +kernel
theorem dX10_whisperOfSheet_28 : decode cX10_whisperOfSheet 28 = .ok (.iadd, 1) := by decide +kernel
theorem dX10_whisperOfSheet_29 : decode cX10_whisperOfSheet 29 = .ok (.invokevirtual 325, 3) := by decide +kernel
theorem dX10_whisperOfSheet_32 : decode cX10_whisperOfSheet 32 = .ok (.invokevirtual 239, 3) := by decide +kernel
theorem dX10_whisperOfSheet_35 : decode cX10_whisperOfSheet 35 = .ok (.ireturn, 1) := by decide +kernel
theorem dX10_bestChange_0 : decode cX10_bestChange 0 = .ok (.bipush (-4), 2) := by decide +kernel
theorem dX10_bestChange_2 : decode cX10_bestChange 2 = .ok (.istore 4, 2) := by decide +kernel
theorem dX10_bestChange_4 : decode cX10_bestChange 4 = .ok (.aload_n 0, 1) := by decide +kernel
theorem dX10_bestChange_5 : decode cX10_bestChange 5 = .ok (.getfield 36, 3) := by decide +kernel
theorem dX10_bestChange_8 : decode cX10_bestChange 8 = .ok (.aload_n 0, 1) := by decide +kernel
theorem dX10_bestChange_9 : decode cX10_bestChange 9 = .ok (.getfield 10, 3) := by decide +kernel
theorem dX10_bestChange_12 : decode cX10_bestChange 12 = .ok (.iload_n 1, 1) := by decide +kernel
theorem dX10_bestChange_13 : decode cX10_bestChange 13 = .ok (.invokevirtual 208, 3) := by decide +kernel
theorem dX10_bestChange_16 : decode cX10_bestChange 16 = .ok (.invokestatic 231, 3) := by decide +kernel
theorem dX10_bestChange_19 : decode cX10_bestChange 19 = .ok (.istore 5, 2) := by decide +kernel
theorem dX10_bestChange_21 : decode cX10_bestChange 21 = .ok (.iconst 0, 1) := by decide +kernel
theorem dX10_bestChange_22 : decode cX10_bestChange 22 = .ok (.istore 6, 2) := by decide +kernel
theorem dX10_bestChange_24 : decode cX10_bestChange 24 = .ok (.iload 6, 2) := by decide +kernel
theorem dX10_bestChange_26 : decode cX10_bestChange 26 = .ok (.bipush 81, 2) := by decide +kernel
theorem dX10_bestChange_28 : decode cX10_bestChange 28 = .ok (.if_icmp .ge 84, 3) := by decide +kernel
theorem dX10_bestChange_31 : decode cX10_bestChange 31 = .ok (.aload_n 0, 1) := by decide +kernel
theorem dX10_bestChange_32 : decode cX10_bestChange 32 = .ok (.iload 6, 2) := by decide +kernel
theorem dX10_bestChange_34 : decode cX10_bestChange 34 = .ok (.iload_n 3, 1) := by decide +kernel
theorem dX10_bestChange_35 : decode cX10_bestChange 35 = .ok (.iload_n 1, 1) := by decide +kernel
theorem dX10_bestChange_36 : decode cX10_bestChange 36 = .ok (.invokevirtual 328, 3) := by decide +kernel
theorem dX10_bestChange_39 : decode cX10_bestChange 39 = .ok (.ifCond .eq 67, 3) := by decide +kernel
theorem dX10_bestChange_42 : decode cX10_bestChange 42 = .ok (.aload_n 0, 1) := by decide +kernel
theorem dX10_bestChange_43 : decode cX10_bestChange 43 = .ok (.getfield 10, 3) := by decide +kernel
theorem dX10_bestChange_46 : decode cX10_bestChange 46 = .ok (.iload 6, 2) := by decide +kernel
theorem dX10_bestChange_48 : decode cX10_bestChange 48 = .ok (.invokevirtual 117, 3) := by decide +kernel
theorem dX10_bestChange_51 : decode cX10_bestChange 51 = .ok (.istore 7, 2) := by decide +kernel
theorem dX10_bestChange_53 : decode cX10_bestChange 53 = .ok (.aload_n 0, 1) := by decide +kernel
theorem dX10_bestChange_54 : decode cX10_bestChange 54 = .ok (.getfield 10, 3) := by decide +kernel
theorem dX10_bestChange_57 : decode cX10_bestChange 57 = .ok (.iload 6, 2) := by decide +kernel
theorem dX10_bestChange_59 : decode cX10_bestChange 59 = .ok (.iload_n 3, 1) := by decide +kernel
theorem dX10_bestChange_60 : decode cX10_bestChange 60 = .ok (.invokevirtual 162, 3) := by decide +kernel
theorem dX10_bestChange_63 : decode cX10_bestChange 63 = .ok (.aload_n 0, 1) := by decide +kernel
theorem dX10_bestChange_64 : decode cX10_bestChange 64 = .ok (.getfield 36, 3) := by decide +kernel
theorem dX10_bestChange_67 : decode cX10_bestChange 67 = .ok (.aload_n 0, 1) := by decide +kernel
theorem dX10_bestChange_68 : decode cX10_bestChange 68 = .ok (.getfield 10, 3) := by decide +kernel
theorem dX10_bestChange_71 : decode cX10_bestChange 71 = .ok (.iload_n 1, 1) := by decide +kernel
theorem dX10_bestChange_72 : decode cX10_bestChange 72 = .ok (.invokevirtual 208, 3) := by decide +kernel
theorem dX10_bestChange_75 : decode cX10_bestChange 75 = .ok (.invokestatic 231, 3) := by decide +kernel
theorem dX10_bestChange_78 : decode cX10_bestChange 78 = .ok (.istore 8, 2) := by decide +kernel
theorem dX10_bestChange_80 : decode cX10_bestChange 80 = .ok (.aload_n 0, 1) := by decide +kernel
theorem dX10_bestChange_81 : decode cX10_bestChange 81 = .ok (.getfield 10, 3) := by decide +kernel
theorem dX10_bestChange_84 : decode cX10_bestChange 84 = .ok (.iload 6, 2) := by decide +kernel
theorem dX10_bestChange_86 : decode cX10_bestChange 86 = .ok (.iload 7, 2) := by decide +kernel
theorem dX10_bestChange_88 : decode cX10_bestChange 88 = .ok (.invokevirtual 162, 3) := by decide +kernel
theorem dX10_bestChange_91 : decode cX10_bestChange 91 = .ok (.iload 8, 2) := by decide +kernel
theorem dX10_bestChange_93 : decode cX10_bestChange 93 = .ok (.iload 5, 2) := by decide +kernel
theorem dX10_bestChange_95 : decode cX10_bestChange 95 = .ok (.if_icmp .ge 11, 3) := by decide +kernel
theorem dX10_bestChange_98 : decode cX10_bestChange 98 = .ok (.iload 8, 2) := by decide +kernel
theorem dX10_bestChange_100 : decode cX10_bestChange 100 = .ok (.istore 5, 2) := by decide +kernel
theorem dX10_bestChange_102 : decode cX10_bestChange 102 = .ok (.iload 6, 2) := by decide +kernel
theorem dX10_bestChange_104 : decode cX10_bestChange 104 = .ok (.istore 4, 2) := by decide +kernel
theorem dX10_bestChange_106 : decode cX10_bestChange 106 = .ok (.iinc 6 1, 3) := by decide +kernel
theorem dX10_bestChange_109 : decode cX10_bestChange 109 = .ok (.goto (-85), 3) := by decide +kernel
theorem dX10_bestChange_112 : decode cX10_bestChange 112 = .ok (.iload 4, 2) := by decide +kernel
theorem dX10_bestChange_114 : decode cX10_bestChange 114 = .ok (.bipush (-4), 2) := by decide +kernel
theorem dX10_bestChange_116 : decode cX10_bestChange 116 = .ok (.if_icmp .eq 7, 3) := by decide +kernel
theorem dX10_bestChange_119 : decode cX10_bestChange 119 = .ok (.iload_n 2, 1) := by decide +kernel
theorem dX10_bestChange_120 : decode cX10_bestChange 120 = .ok (.ifCond .ne 8, 3) := by decide +kernel
theorem dX10_bestChange_123 : decode cX10_bestChange 123 = .ok (.iload 4, 2) := by decide +kernel
theorem dX10_bestChange_125 : decode cX10_bestChange 125 = .ok (.goto 5, 3) := by decide +kernel
theorem dX10_bestChange_128 : decode cX10_bestChange 128 = .ok (.iload 5, 2) := by decide +kernel
theorem dX10_bestChange_130 : decode cX10_bestChange 130 = .ok (.ireturn, 1) := by decide +kernel
theorem dX10_mayBecome_0 : decode cX10_mayBecome 0 = .ok (.iload_n 2, 1) := by decide +kernel
theorem dX10_mayBecome_1 : decode cX10_mayBecome 1 = .ok (.ifCond .ne 31, 3) := by decide +kernel
theorem dX10_mayBecome_4 : decode cX10_mayBecome 4 = .ok (.aload_n 0, 1) := by decide +kernel
theorem dX10_mayBecome_5 : decode cX10_mayBecome 5 = .ok (.getfield 10, 3) := by decide +kernel
theorem dX10_mayBecome_8 : decode cX10_mayBecome 8 = .ok (.iload_n 1, 1) := by decide +kernel
theorem dX10_mayBecome_9 : decode cX10_mayBecome 9 = .ok (.invokevirtual 113, 3) := by decide +kernel
theorem dX10_mayBecome_12 : decode cX10_mayBecome 12 = .ok (.ifCond .eq 18, 3) := by decide +kernel
theorem dX10_mayBecome_15 : decode cX10_mayBecome 15 = .ok (.aload_n 0, 1) := by decide +kernel
theorem dX10_mayBecome_16 : decode cX10_mayBecome 16 = .ok (.getfield 10, 3) := by decide +kernel
theorem dX10_mayBecome_19 : decode cX10_mayBecome 19 = .ok (.iload_n 1, 1) := by decide +kernel
theorem dX10_mayBecome_20 : decode cX10_mayBecome 20 = .ok (.invokevirtual 287, 3) := by decide +kernel
theorem dX10_mayBecome_23 : decode cX10_mayBecome 23 = .ok (.ifCond .ne 7, 3) := by decide +kernel
theorem dX10_mayBecome_26 : decode cX10_mayBecome 26 = .ok (.iconst 1, 1) := by decide +kernel
theorem dX10_mayBecome_27 : decode cX10_mayBecome 27 = .ok (.goto 4, 3) := by decide +kernel
theorem dX10_mayBecome_30 : decode cX10_mayBecome 30 = .ok (.iconst 0, 1) := by decide +kernel
theorem dX10_mayBecome_31 : decode cX10_mayBecome 31 = .ok (.ireturn, 1) := by decide +kernel
theorem dX10_mayBecome_32 : decode cX10_mayBecome 32 = .ok (.aload_n 0, 1) := by decide +kernel
theorem dX10_mayBecome_33 : decode cX10_mayBecome 33 = .ok (.getfield 10, 3) := by decide +kernel
theorem dX10_mayBecome_36 : decode cX10_mayBecome 36 = .ok (.iload_n 1, 1) := by decide +kernel
theorem dX10_mayBecome_37 : decode cX10_mayBecome 37 = .ok (.invokevirtual 287, 3) := by decide +kernel
theorem dX10_mayBecome_40 : decode cX10_mayBecome 40 = .ok (.ifCond .eq 19, 3) := by decide +kernel
theorem dX10_mayBecome_43 : decode cX10_mayBecome 43 = .ok (.aload_n 0, 1) := by decide +kernel
theorem dX10_mayBecome_44 : decode cX10_mayBecome 44 = .ok (.getfield 10, 3) := by decide +kernel
theorem dX10_mayBecome_47 : decode cX10_mayBecome 47 = .ok (.iload_n 1, 1) := by decide +kernel
theorem dX10_mayBecome_48 : decode cX10_mayBecome 48 = .ok (.iload_n 3, 1) := by decide +kernel
theorem dX10_mayBecome_49 : decode cX10_mayBecome 49 = .ok (.invokevirtual 331, 3) := by decide +kernel
theorem dX10_mayBecome_52 : decode cX10_mayBecome 52 = .ok (.ifCond .ne 7, 3) := by decide +kernel
theorem dX10_mayBecome_55 : decode cX10_mayBecome 55 = .ok (.iconst 1, 1) := by decide +kernel
theorem dX10_mayBecome_56 : decode cX10_mayBecome 56 = .ok (.goto 4, 3) := by decide +kernel
theorem dX10_mayBecome_59 : decode cX10_mayBecome 59 = .ok (.iconst 0, 1) := by decide +kernel
theorem dX10_mayBecome_60 : decode cX10_mayBecome 60 = .ok (.ireturn, 1) := by decide +kernel
theorem dX10_brokenOnDay_0 : decode cX10_brokenOnDay 0 = .ok (.aload_n 0, 1) := by decide +kernel
theorem dX10_brokenOnDay_1 : decode cX10_brokenOnDay 1 = .ok (.getfield 10, 3) := by decide +kernel
theorem dX10_brokenOnDay_4 : decode cX10_brokenOnDay 4 = .ok (.getfield 110, 3) := by decide +kernel
theorem dX10_brokenOnDay_7 : decode cX10_brokenOnDay 7 = .ok (.istore_n 3, 1) := by decide +kernel
theorem dX10_brokenOnDay_8 : decode cX10_brokenOnDay 8 = .ok (.aload_n 0, 1) := by decide +kernel
theorem dX10_brokenOnDay_9 : decode cX10_brokenOnDay 9 = .ok (.getfield 10, 3) := by decide +kernel
theorem dX10_brokenOnDay_12 : decode cX10_brokenOnDay 12 = .ok (.iload_n 2, 1) := by decide +kernel
theorem dX10_brokenOnDay_13 : decode cX10_brokenOnDay 13 = .ok (.putfield 110, 3) := by decide +kernel
theorem dX10_brokenOnDay_16 : decode cX10_brokenOnDay 16 = .ok (.aload_n 0, 1) := by decide +kernel
theorem dX10_brokenOnDay_17 : decode cX10_brokenOnDay 17 = .ok (.getfield 36, 3) := by decide +kernel
theorem dX10_brokenOnDay_20 : decode cX10_brokenOnDay 20 = .ok (.aload_n 0, 1) := by decide +kernel
theorem dX10_brokenOnDay_21 : decode cX10_brokenOnDay 21 = .ok (.getfield 10, 3) := by decide +kernel
theorem dX10_brokenOnDay_24 : decode cX10_brokenOnDay 24 = .ok (.iload_n 1, 1) := by decide +kernel
theorem dX10_brokenOnDay_25 : decode cX10_brokenOnDay 25 = .ok (.invokevirtual 208, 3) := by decide +kernel
theorem dX10_brokenOnDay_28 : decode cX10_brokenOnDay 28 = .ok (.invokestatic 231, 3) := by decide +kernel
theorem dX10_brokenOnDay_31 : decode cX10_brokenOnDay 31 = .ok (.istore 4, 2) := by decide +kernel
theorem dX10_brokenOnDay_33 : decode cX10_brokenOnDay 33 = .ok (.aload_n 0, 1) := by decide +kernel
theorem dX10_brokenOnDay_34 : decode cX10_brokenOnDay 34 = .ok (.getfield 10, 3) := by decide +kernel
theorem dX10_brokenOnDay_37 : decode cX10_brokenOnDay 37 = .ok (.iload_n 3, 1) := by decide +kernel
theorem dX10_brokenOnDay_38 : decode cX10_brokenOnDay 38 = .ok (.putfield 110, 3) := by decide +kernel
theorem dX10_brokenOnDay_41 : decode cX10_brokenOnDay 41 = .ok (.iload 4, 2) := by decide +kernel
theorem dX10_brokenOnDay_43 : decode cX10_brokenOnDay 43 = .ok (.ireturn, 1) := by decide +kernel
theorem dX10_hearersOnDay_0 : decode cX10_hearersOnDay 0 = .ok (.aload_n 0, 1) := by decide +kernel
theorem dX10_hearersOnDay_1 : decode cX10_hearersOnDay 1 = .ok (.getfield 10, 3) := by decide +kernel
theorem dX10_hearersOnDay_4 : decode cX10_hearersOnDay 4 = .ok (.getfield 110, 3) := by decide +kernel
theorem dX10_hearersOnDay_7 : decode cX10_hearersOnDay 7 = .ok (.istore 4, 2) := by decide +kernel
theorem dX10_hearersOnDay_9 : decode cX10_hearersOnDay 9 = .ok (.aload_n 0, 1) := by decide +kernel
theorem dX10_hearersOnDay_10 : decode cX10_hearersOnDay 10 = .ok (.getfield 10, 3) := by decide +kernel
theorem dX10_hearersOnDay_13 : decode cX10_hearersOnDay 13 = .ok (.iload_n 3, 1) := by decide +kernel
theorem dX10_hearersOnDay_14 : decode cX10_hearersOnDay 14 = .ok (.putfield 110, 3) := by decide +kernel
theorem dX10_hearersOnDay_17 : decode cX10_hearersOnDay 17 = .ok (.aload_n 0, 1) := by decide +kernel
theorem dX10_hearersOnDay_18 : decode cX10_hearersOnDay 18 = .ok (.getfield 36, 3) := by decide +kernel
theorem dX10_hearersOnDay_21 : decode cX10_hearersOnDay 21 = .ok (.aload_n 0, 1) := by decide +kernel
theorem dX10_hearersOnDay_22 : decode cX10_hearersOnDay 22 = .ok (.getfield 10, 3) := by decide +kernel
theorem dX10_hearersOnDay_25 : decode cX10_hearersOnDay 25 = .ok (.iload_n 1, 1) := by decide +kernel
theorem dX10_hearersOnDay_26 : decode cX10_hearersOnDay 26 = .ok (.iload_n 2, 1) := by decide +kernel
theorem dX10_hearersOnDay_27 : decode cX10_hearersOnDay 27 = .ok (.invokevirtual 196, 3) := by decide +kernel
theorem dX10_hearersOnDay_30 : decode cX10_hearersOnDay 30 = .ok (.istore 5, 2) := by decide +kernel
theorem dX10_hearersOnDay_32 : decode cX10_hearersOnDay 32 = .ok (.aload_n 0, 1) := by decide +kernel
theorem dX10_hearersOnDay_33 : decode cX10_hearersOnDay 33 = .ok (.getfield 10, 3) := by decide +kernel
theorem dX10_hearersOnDay_36 : decode cX10_hearersOnDay 36 = .ok (.iload 4, 2) := by decide +kernel
theorem dX10_hearersOnDay_38 : decode cX10_hearersOnDay 38 = .ok (.putfield 110, 3) := by decide +kernel
theorem dX10_hearersOnDay_41 : decode cX10_hearersOnDay 41 = .ok (.iload 5, 2) := by decide +kernel
theorem dX10_hearersOnDay_43 : decode cX10_hearersOnDay 43 = .ok (.ireturn, 1) := by decide +kernel
theorem dX10_firstDirectionHeardBy_0 : decode cX10_firstDirectionHeardBy 0 = .ok (.iconst 0, 1) := by decide +kernel
theorem dX10_firstDirectionHeardBy_1 : decode cX10_firstDirectionHeardBy 1 = .ok (.istore 4, 2) := by decide +kernel
theorem dX10_firstDirectionHeardBy_3 : decode cX10_firstDirectionHeardBy 3 = .ok (.iload 4, 2) := by decide +kernel
theorem dX10_firstDirectionHeardBy_5 : decode cX10_firstDirectionHeardBy 5 = .ok (.bipush 8, 2) := by decide +kernel
theorem dX10_firstDirectionHeardBy_7 : decode cX10_firstDirectionHeardBy 7 = .ok (.if_icmp .ge 46, 3) := by decide +kernel
theorem dX10_firstDirectionHeardBy_10 : decode cX10_firstDirectionHeardBy 10 = .ok (.aload_n 0, 1) := by decide +kernel
theorem dX10_firstDirectionHeardBy_11 : decode cX10_firstDirectionHeardBy 11 = .ok (.getfield 36, 3) := by decide +kernel
theorem dX10_firstDirectionHeardBy_14 : decode cX10_firstDirectionHeardBy 14 = .ok (.getfield 176, 3) := by decide +kernel
theorem dX10_firstDirectionHeardBy_17 : decode cX10_firstDirectionHeardBy 17 = .ok (.aload_n 0, 1) := by decide +kernel
theorem dX10_firstDirectionHeardBy_18 : decode cX10_firstDirectionHeardBy 18 = .ok (.getfield 10, 3) := by decide +kernel
theorem dX10_firstDirectionHeardBy_21 : decode cX10_firstDirectionHeardBy 21 = .ok (.iload_n 2, 1) := by decide +kernel
theorem dX10_firstDirectionHeardBy_22 : decode cX10_firstDirectionHeardBy 22 = .ok (.iload 4, 2) := by decide +kernel
theorem dX10_firstDirectionHeardBy_24 : decode cX10_firstDirectionHeardBy 24 = .ok (.iconst 0, 1) := by decide +kernel
theorem dX10_firstDirectionHeardBy_25 : decode cX10_firstDirectionHeardBy 25 = .ok (.invokevirtual 334, 3) := by decide +kernel
theorem dX10_firstDirectionHeardBy_28 : decode cX10_firstDirectionHeardBy 28 = .ok (.aload_n 0, 1) := by decide +kernel
theorem dX10_firstDirectionHeardBy_29 : decode cX10_firstDirectionHeardBy 29 = .ok (.getfield 36, 3) := by decide +kernel
theorem dX10_firstDirectionHeardBy_32 : decode cX10_firstDirectionHeardBy 32 = .ok (.aload_n 0, 1) := by decide +kernel
theorem dX10_firstDirectionHeardBy_33 : decode cX10_firstDirectionHeardBy 33 = .ok (.getfield 10, 3) := by decide +kernel
theorem dX10_firstDirectionHeardBy_36 : decode cX10_firstDirectionHeardBy 36 = .ok (.iload_n 3, 1) := by decide +kernel
theorem dX10_firstDirectionHeardBy_37 : decode cX10_firstDirectionHeardBy 37 = .ok (.invokevirtual 338, 3) := by decide +kernel
theorem dX10_firstDirectionHeardBy_40 : decode cX10_firstDirectionHeardBy 40 = .ok (.iload_n 1, 1) := by decide +kernel
theorem dX10_firstDirectionHeardBy_41 : decode cX10_firstDirectionHeardBy 41 = .ok (.if_icmp .ne 6, 3) := by decide +kernel
theorem dX10_firstDirectionHeardBy_44 : decode cX10_firstDirectionHeardBy 44 = .ok (.iload 4, 2) := by decide +kernel
theorem dX10_firstDirectionHeardBy_46 : decode cX10_firstDirectionHeardBy 46 = .ok (.ireturn, 1) := by decide +kernel
theorem dX10_firstDirectionHeardBy_47 : decode cX10_firstDirectionHeardBy 47 = .ok (.iinc 4 1, 3) := by decide +kernel
theorem dX10_firstDirectionHeardBy_50 : decode cX10_firstDirectionHeardBy 50 = .ok (.goto (-47), 3) := by decide +kernel
theorem dX10_firstDirectionHeardBy_53 : decode cX10_firstDirectionHeardBy 53 = .ok (.bipush (-4), 2) := by decide +kernel
theorem dX10_firstDirectionHeardBy_55 : decode cX10_firstDirectionHeardBy 55 = .ok (.ireturn, 1) := by decide +kernel
theorem dX11_init_0 : decode cX11_init 0 = .ok (.aload_n 0, 1) := by decide +kernel
theorem dX11_init_1 : decode cX11_init 1 = .ok (.invokespecial 1, 3) := by decide +kernel
theorem dX11_init_4 : decode cX11_init 4 = .ok (.aload_n 0, 1) := by decide +kernel
theorem dX11_init_5 : decode cX11_init 5 = .ok (.sipush 375, 3) := by decide +kernel
theorem dX11_init_8 : decode cX11_init 8 = .ok (.newarray .int, 2) := by decide +kernel
theorem dX11_init_10 : decode cX11_init 10 = .ok (.putfield 7, 3) := by decide +kernel
theorem dX11_init_13 : decode cX11_init 13 = .ok (.aload_n 0, 1) := by decide +kernel
theorem dX11_init_14 : decode cX11_init 14 = .ok (.iconst 2, 1) := by decide +kernel
theorem dX11_init_15 : decode cX11_init 15 = .ok (.newarray .boolean, 2) := by decide +kernel
theorem dX11_init_17 : decode cX11_init 17 = .ok (.putfield 13, 3) := by decide +kernel
theorem dX11_init_20 : decode cX11_init 20 = .ok (.aload_n 0, 1) := by decide +kernel
theorem dX11_init_21 : decode cX11_init 21 = .ok (.bipush 32, 2) := by decide +kernel
theorem dX11_init_23 : decode cX11_init 23 = .ok (.newarray .int, 2) := by decide +kernel
theorem dX11_init_25 : decode cX11_init 25 = .ok (.putfield 17, 3) := by decide +kernel
theorem dX11_init_28 : decode cX11_init 28 = .ok (.aload_n 0, 1) := by decide +kernel
theorem dX11_init_29 : decode cX11_init 29 = .ok (.bipush 24, 2) := by decide +kernel
theorem dX11_init_31 : decode cX11_init 31 = .ok (.newarray .int, 2) := by decide +kernel
theorem dX11_init_33 : decode cX11_init 33 = .ok (.putfield 20, 3) := by decide +kernel
theorem dX11_init_36 : decode cX11_init 36 = .ok (.aload_n 0, 1) := by decide +kernel
theorem dX11_init_37 : decode cX11_init 37 = .ok (.bipush 125, 2) := by decide +kernel
theorem dX11_init_39 : decode cX11_init 39 = .ok (.newarray .int, 2) := by decide +kernel
theorem dX11_init_41 : decode cX11_init 41 = .ok (.putfield 23, 3) := by decide +kernel
theorem dX11_init_44 : decode cX11_init 44 = .ok (.aload_n 0, 1) := by decide +kernel
theorem dX11_init_45 : decode cX11_init 45 = .ok (.bipush 32, 2) := by decide +kernel
theorem dX11_init_47 : decode cX11_init 47 = .ok (.newarray .int, 2) := by decide +kernel
theorem dX11_init_49 : decode cX11_init 49 = .ok (.putfield 26, 3) := by decide +kernel
theorem dX11_init_52 : decode cX11_init 52 = .ok (.aload_n 0, 1) := by decide +kernel
theorem dX11_init_53 : decode cX11_init 53 = .ok (.bipush 24, 2) := by decide +kernel
theorem dX11_init_55 : decode cX11_init 55 = .ok (.newarray .int, 2) := by decide +kernel
theorem dX11_init_57 : decode cX11_init 57 = .ok (.putfield 29, 3) := by decide +kernel
theorem dX11_init_60 : decode cX11_init 60 = .ok (.aload_n 0, 1) := by decide +kernel
theorem dX11_init_61 : decode cX11_init 61 = .ok (.iconst 5, 1) := by decide +kernel
theorem dX11_init_62 : decode cX11_init 62 = .ok (.newarray .int, 2) := by decide +kernel
theorem dX11_init_64 : decode cX11_init 64 = .ok (.putfield 32, 3) := by decide +kernel
theorem dX11_init_67 : decode cX11_init 67 = .ok (.aload_n 0, 1) := by decide +kernel
theorem dX11_init_68 : decode cX11_init 68 = .ok (.sipush 320, 3) := by decide +kernel
theorem dX11_init_71 : decode cX11_init 71 = .ok (.newarray .int, 2) := by decide +kernel
theorem dX11_init_73 : decode cX11_init 73 = .ok (.putfield 35, 3) := by decide +kernel
theorem dX11_init_76 : decode cX11_init 76 = .ok (.aload_n 0, 1) := by decide +kernel
theorem dX11_init_77 : decode cX11_init 77 = .ok (.bipush 41, 2) := by decide +kernel
theorem dX11_init_79 : decode cX11_init 79 = .ok (.newarray .int, 2) := by decide +kernel
theorem dX11_init_81 : decode cX11_init 81 = .ok (.putfield 38, 3) := by decide +kernel
theorem dX11_init_84 : decode cX11_init 84 = .ok (.aload_n 0, 1) := by decide +kernel
theorem dX11_init_85 : decode cX11_init 85 = .ok (.bipush 41, 2) := by decide +kernel
theorem dX11_init_87 : decode cX11_init 87 = .ok (.newarray .int, 2) := by decide +kernel
theorem dX11_init_89 : decode cX11_init 89 = .ok (.putfield 41, 3) := by decide +kernel
theorem dX11_init_92 : decode cX11_init 92 = .ok (.aload_n 0, 1) := by decide +kernel
theorem dX11_init_93 : decode cX11_init 93 = .ok (.bipush 8, 2) := by decide +kernel
theorem dX11_init_95 : decode cX11_init 95 = .ok (.newarray .int, 2) := by decide +kernel
theorem dX11_init_97 : decode cX11_init 97 = .ok (.putfield 44, 3) := by decide +kernel
theorem dX11_init_100 : decode cX11_init 100 = .ok (.aload_n 0, 1) := by decide +kernel
theorem dX11_init_101 : decode cX11_init 101 = .ok (.bipush 6, 2) := by decide +kernel
theorem dX11_init_103 : decode cX11_init 103 = .ok (.newarray .int, 2) := by decide +kernel
theorem dX11_init_105 : decode cX11_init 105 = .ok (.putfield 47, 3) := by decide +kernel
theorem dX11_init_108 : decode cX11_init 108 = .ok (.aload_n 0, 1) := by decide +kernel
theorem dX11_init_109 : decode cX11_init 109 = .ok (.bipush 6, 2) := by decide +kernel
theorem dX11_init_111 : decode cX11_init 111 = .ok (.newarray .int, 2) := by decide +kernel
theorem dX11_init_113 : decode cX11_init 113 = .ok (.putfield 50, 3) := by decide +kernel
theorem dX11_init_116 : decode cX11_init 116 = .ok (.aload_n 0, 1) := by decide +kernel
theorem dX11_init_117 : decode cX11_init 117 = .ok (.bipush 8, 2) := by decide +kernel
theorem dX11_init_119 : decode cX11_init 119 = .ok (.newarray .int, 2) := by decide +kernel
theorem dX11_init_121 : decode cX11_init 121 = .ok (.putfield 53, 3) := by decide +kernel
theorem dX11_init_124 : decode cX11_init 124 = .ok (.aload_n 0, 1) := by decide +kernel
theorem dX11_init_125 : decode cX11_init 125 = .ok (.iconst 4, 1) := by decide +kernel
theorem dX11_init_126 : decode cX11_init 126 = .ok (.newarray .int, 2) := by decide +kernel
theorem dX11_init_128 : decode cX11_init 128 = .ok (.putfield 56, 3) := by decide +kernel
theorem dX11_init_131 : decode cX11_init 131 = .ok (.aload_n 0, 1) := by decide +kernel
theorem dX11_init_132 : decode cX11_init 132 = .ok (.iconst 4, 1) := by decide +kernel
theorem dX11_init_133 : decode cX11_init 133 = .ok (.newarray .int, 2) := by decide +kernel
theorem dX11_init_135 : decode cX11_init 135 = .ok (.putfield 59, 3) := by decide +kernel
theorem dX11_init_138 : decode cX11_init 138 = .ok (.aload_n 0, 1) := by decide +kernel
theorem dX11_init_139 : decode cX11_init 139 = .ok (.sipush 160, 3) := by decide +kernel
theorem dX11_init_142 : decode cX11_init 142 = .ok (.newarray .int, 2) := by decide +kernel
theorem dX11_init_144 : decode cX11_init 144 = .ok (.putfield 62, 3) := by decide +kernel
theorem dX11_init_147 : decode cX11_init 147 = .ok (.iconst 0, 1) := by decide +kernel
theorem dX11_init_148 : decode cX11_init 148 = .ok (.istore_n 1, 1) := by decide +kernel
theorem dX11_init_149 : decode cX11_init 149 = .ok (.iload_n 1, 1) := by decide +kernel
theorem dX11_init_150 : decode cX11_init 150 = .ok (.iconst 4, 1) := by decide +kernel
theorem dX11_init_151 : decode cX11_init 151 = .ok (.if_icmp .ge 17, 3) := by decide +kernel
theorem dX11_init_154 : decode cX11_init 154 = .ok (.aload_n 0, 1) := by decide +kernel
theorem dX11_init_155 : decode cX11_init 155 = .ok (.getfield 56, 3) := by decide +kernel
theorem dX11_init_158 : decode cX11_init 158 = .ok (.iload_n 1, 1) := by decide +kernel
theorem dX11_init_159 : decode cX11_init 159 = .ok (.bipush (-4), 2) := by decide +kernel
theorem dX11_init_161 : decode cX11_init 161 = .ok (.iastore, 1) := by decide +kernel
theorem dX11_init_162 : decode cX11_init 162 = .ok (.iinc 1 1, 3) := by decide +kernel
theorem dX11_init_165 : decode cX11_init 165 = .ok (.goto (-16), 3) := by decide +kernel
theorem dX11_init_168 : decode cX11_init 168 = .ok (.aload_n 0, 1) := by decide +kernel
theorem dX11_init_169 : decode cX11_init 169 = .ok (.invokevirtual 65, 3) := by decide +kernel
theorem dX11_init_172 : decode cX11_init 172 = .ok (.aload_n 0, 1) := by decide +kernel
theorem dX11_init_173 : decode cX11_init 173 = .ok (.invokevirtual 68, 3) := by decide +kernel
theorem dX11_init_176 : decode cX11_init 176 = .ok (.return_, 1) := by decide +kernel
theorem dX11_in_0 : decode cX11_in 0 = .ok (.lload_n 0, 1) := by decide +kernel
theorem dX11_in_1 : decode cX11_in 1 = .ok (.lload_n 2, 1) := by decide +kernel
theorem dX11_in_2 : decode cX11_in 2 = .ok (.lcmp, 1) := by decide +kernel
theorem dX11_in_3 : decode cX11_in 3 = .ok (.ifCond .lt 14, 3) := by decide +kernel
theorem dX11_in_6 : decode cX11_in 6 = .ok (.lload_n 0, 1) := by decide +kernel
theorem dX11_in_7 : decode cX11_in 7 = .ok (.lload 4, 2) := by decide +kernel
theorem dX11_in_9 : decode cX11_in 9 = .ok (.lcmp, 1) := by decide +kernel
theorem dX11_in_10 : decode cX11_in 10 = .ok (.ifCond .gt 7, 3) := by decide +kernel
theorem dX11_in_13 : decode cX11_in 13 = .ok (.iconst 1, 1) := by decide +kernel
theorem dX11_in_14 : decode cX11_in 14 = .ok (.goto 4, 3) := by decide +kernel
theorem dX11_in_17 : decode cX11_in 17 = .ok (.iconst 0, 1) := by decide +kernel
theorem dX11_in_18 : decode cX11_in 18 = .ok (.ireturn, 1) := by decide +kernel
theorem dX11_flag_0 : decode cX11_flag 0 = .ok (.iload_n 0, 1) := by decide +kernel
theorem dX11_flag_1 : decode cX11_flag 1 = .ok (.ifCond .eq 7, 3) := by decide +kernel
theorem dX11_flag_4 : decode cX11_flag 4 = .ok (.iconst 1, 1) := by decide +kernel
theorem dX11_flag_5 : decode cX11_flag 5 = .ok (.goto 4, 3) := by decide +kernel
theorem dX11_flag_8 : decode cX11_flag 8 = .ok (.iconst 0, 1) := by decide +kernel
theorem dX11_flag_9 : decode cX11_flag 9 = .ok (.ireturn, 1) := by decide +kernel
theorem dX11_bitsOf_0 : decode cX11_bitsOf 0 = .ok (.iconst 0, 1) := by decide +kernel
theorem dX11_bitsOf_1 : decode cX11_bitsOf 1 = .ok (.istore_n 1, 1) := by decide +kernel
theorem dX11_bitsOf_2 : decode cX11_bitsOf 2 = .ok (.iconst 0, 1) := by decide +kernel
theorem dX11_bitsOf_3 : decode cX11_bitsOf 3 = .ok (.istore_n 2, 1) := by decide +kernel
theorem dX11_bitsOf_4 : decode cX11_bitsOf 4 = .ok (.iload_n 2, 1) := by decide +kernel
theorem dX11_bitsOf_5 : decode cX11_bitsOf 5 = .ok (.bipush 12, 2) := by decide +kernel
theorem dX11_bitsOf_7 : decode cX11_bitsOf 7 = .ok (.if_icmp .ge 17, 3) := by decide +kernel
theorem dX11_bitsOf_10 : decode cX11_bitsOf 10 = .ok (.iload_n 1, 1) := by decide +kernel
theorem dX11_bitsOf_11 : decode cX11_bitsOf 11 = .ok (.iload_n 0, 1) := by decide +kernel
theorem dX11_bitsOf_12 : decode cX11_bitsOf 12 = .ok (.iload_n 2, 1) := by decide +kernel
theorem dX11_bitsOf_13 : decode cX11_bitsOf 13 = .ok (.ishr, 1) := by decide +kernel
theorem dX11_bitsOf_14 : decode cX11_bitsOf 14 = .ok (.iconst 1, 1) := by decide +kernel
theorem dX11_bitsOf_15 : decode cX11_bitsOf 15 = .ok (.iand, 1) := by decide +kernel
theorem dX11_bitsOf_16 : decode cX11_bitsOf 16 = .ok (.iadd, 1) := by decide +kernel
theorem dX11_bitsOf_17 : decode cX11_bitsOf 17 = .ok (.istore_n 1, 1) := by decide +kernel
theorem dX11_bitsOf_18 : decode cX11_bitsOf 18 = .ok (.iinc 2 1, 3) := by decide +kernel
theorem dX11_bitsOf_21 : decode cX11_bitsOf 21 = .ok (.goto (-17), 3) := by decide +kernel
theorem dX11_bitsOf_24 : decode cX11_bitsOf 24 = .ok (.iload_n 1, 1) := by decide +kernel
theorem dX11_bitsOf_25 : decode cX11_bitsOf 25 = .ok (.ireturn, 1) := by decide +kernel
theorem dX11_firstDraft_0 : decode cX11_firstDraft 0 = .ok (.iconst 0, 1) := by decide +kernel
theorem dX11_firstDraft_1 : decode cX11_firstDraft 1 = .ok (.istore_n 1, 1) := by decide +kernel
theorem dX11_firstDraft_2 : decode cX11_firstDraft 2 = .ok (.iload_n 1, 1) := by decide +kernel
theorem dX11_firstDraft_3 : decode cX11_firstDraft 3 = .ok (.bipush 125, 2) := by decide +kernel
theorem dX11_firstDraft_5 : decode cX11_firstDraft 5 = .ok (.if_icmp .ge 16, 3) := by decide +kernel
theorem dX11_firstDraft_8 : decode cX11_firstDraft 8 = .ok (.aload_n 0, 1) := by decide +kernel
theorem dX11_firstDraft_9 : decode cX11_firstDraft 9 = .ok (.getfield 23, 3) := by decide +kernel
theorem dX11_firstDraft_12 : decode cX11_firstDraft 12 = .ok (.iload_n 1, 1) := by decide +kernel
theorem dX11_firstDraft_13 : decode cX11_firstDraft 13 = .ok (.iconst 0, 1) := by decide +kernel
theorem dX11_firstDraft_14 : decode cX11_firstDraft 14 = .ok (.iastore, 1) := by decide +kernel
theorem dX11_firstDraft_15 : decode cX11_firstDraft 15 = .ok (.iinc 1 1, 3) := by decide +kernel
theorem dX11_firstDraft_18 : decode cX11_firstDraft 18 = .ok (.goto (-16), 3) := by decide +kernel
theorem dX11_firstDraft_21 : decode cX11_firstDraft 21 = .ok (.aload_n 0, 1) := by decide +kernel
theorem dX11_firstDraft_22 : decode cX11_firstDraft 22 = .ok (.getfield 32, 3) := by decide +kernel
theorem dX11_firstDraft_25 : decode cX11_firstDraft 25 = .ok (.iconst 0, 1) := by decide +kernel
theorem dX11_firstDraft_26 : decode cX11_firstDraft 26 = .ok (.bipush 9, 2) := by decide +kernel
theorem dX11_firstDraft_28 : decode cX11_firstDraft 28 = .ok (.iastore, 1) := by decide +kernel
theorem dX11_firstDraft_29 : decode cX11_firstDraft 29 = .ok (.aload_n 0, 1) := by decide +kernel
theorem dX11_firstDraft_30 : decode cX11_firstDraft 30 = .ok (.getfield 32, 3) := by decide +kernel
theorem dX11_firstDraft_33 : decode cX11_firstDraft 33 = .ok (.iconst 1, 1) := by decide +kernel
theorem dX11_firstDraft_34 : decode cX11_firstDraft 34 = .ok (.bipush 7, 2) := by decide +kernel
theorem dX11_firstDraft_36 : decode cX11_firstDraft 36 = .ok (.iastore, 1) := by decide +kernel
theorem dX11_firstDraft_37 : decode cX11_firstDraft 37 = .ok (.aload_n 0, 1) := by decide +kernel
theorem dX11_firstDraft_38 : decode cX11_firstDraft 38 = .ok (.getfield 32, 3) := by decide +kernel
theorem dX11_firstDraft_41 : decode cX11_firstDraft 41 = .ok (.iconst 2, 1) := by decide +kernel
theorem dX11_firstDraft_42 : decode cX11_firstDraft 42 = .ok (.iconst 3, 1) := by decide +kernel
theorem dX11_firstDraft_43 : decode cX11_firstDraft 43 = .ok (.iastore, 1) := by decide +kernel
theorem dX11_firstDraft_44 : decode cX11_firstDraft 44 = .ok (.aload_n 0, 1) := by decide +kernel
theorem dX11_firstDraft_45 : decode cX11_firstDraft 45 = .ok (.getfield 32, 3) := by decide +kernel
theorem dX11_firstDraft_48 : decode cX11_firstDraft 48 = .ok (.iconst 3, 1) := by decide +kernel
theorem dX11_firstDraft_49 : decode cX11_firstDraft 49 = .ok (.iconst 5, 1) := by decide +kernel
theorem dX11_firstDraft_50 : decode cX11_firstDraft 50 = .ok (.iastore, 1) := by decide +kernel
theorem dX11_firstDraft_51 : decode cX11_firstDraft 51 = .ok (.aload_n 0, 1) := by decide +kernel
theorem dX11_firstDraft_52 : decode cX11_firstDraft 52 = .ok (.getfield 32, 3) := by decide +kernel
theorem dX11_firstDraft_55 : decode cX11_firstDraft 55 = .ok (.iconst 4, 1) := by decide +kernel
theorem dX11_firstDraft_56 : decode cX11_firstDraft 56 = .ok (.bipush (-4), 2) := by decide +kernel
theorem dX11_firstDraft_58 : decode cX11_firstDraft 58 = .ok (.iastore, 1) := by decide +kernel
theorem dX11_firstDraft_59 : decode cX11_firstDraft 59 = .ok (.aload_n 0, 1) := by decide +kernel
theorem dX11_firstDraft_60 : decode cX11_firstDraft 60 = .ok (.iconst 0, 1) := by decide +kernel
theorem dX11_firstDraft_61 : decode cX11_firstDraft 61 = .ok (.putfield 71, 3) := by decide +kernel
theorem dX11_firstDraft_64 : decode cX11_firstDraft 64 = .ok (.aload_n 0, 1) := by decide +kernel
theorem dX11_firstDraft_65 : decode cX11_firstDraft 65 = .ok (.iconst 0, 1) := by decide +kernel
theorem dX11_firstDraft_66 : decode cX11_firstDraft 66 = .ok (.putfield 75, 3) := by decide +kernel
theorem dX11_firstDraft_69 : decode cX11_firstDraft 69 = .ok (.aload_n 0, 1) := by decide +kernel
theorem dX11_firstDraft_70 : decode cX11_firstDraft 70 = .ok (.bipush (-4), 2) := by decide +kernel
theorem dX11_firstDraft_72 : decode cX11_firstDraft 72 = .ok (.putfield 78, 3) := by decide +kernel
theorem dX11_firstDraft_75 : decode cX11_firstDraft 75 = .ok (.aload_n 0, 1) := by decide +kernel
theorem dX11_firstDraft_76 : decode cX11_firstDraft 76 = .ok (.iconst 0, 1) := by decide +kernel
theorem dX11_firstDraft_77 : decode cX11_firstDraft 77 = .ok (.putfield 81, 3) := by decide +kernel
theorem dX11_firstDraft_80 : decode cX11_firstDraft 80 = .ok (.aload_n 0, 1) := by decide +kernel
theorem dX11_firstDraft_81 : decode cX11_firstDraft 81 = .ok (.iconst 0, 1) := by decide +kernel
theorem dX11_firstDraft_82 : decode cX11_firstDraft 82 = .ok (.putfield 84, 3) := by decide +kernel
theorem dX11_firstDraft_85 : decode cX11_firstDraft 85 = .ok (.aload_n 0, 1) := by decide +kernel
theorem dX11_firstDraft_86 : decode cX11_firstDraft 86 = .ok (.iconst 0, 1) := by decide +kernel
theorem dX11_firstDraft_87 : decode cX11_firstDraft 87 = .ok (.putfield 87, 3) := by decide +kernel
theorem dX11_firstDraft_90 : decode cX11_firstDraft 90 = .ok (.return_, 1) := by decide +kernel
theorem dX11_dPeople_0 : decode cX11_dPeople 0 = .ok (.aload_n 0, 1) := by decide +kernel
theorem dX11_dPeople_1 : decode cX11_dPeople 1 = .ok (.getfield 32, 3) := by decide +kernel
theorem dX11_dPeople_4 : decode cX11_dPeople 4 = .ok (.iconst 4, 1) := by decide +kernel
theorem dX11_dPeople_5 : decode cX11_dPeople 5 = .ok (.iaload, 1) := by decide +kernel
theorem dX11_dPeople_6 : decode cX11_dPeople 6 = .ok (.bipush (-4), 2) := by decide +kernel
theorem dX11_dPeople_8 : decode cX11_dPeople 8 = .ok (.if_icmp .eq 12, 3) := by decide +kernel
theorem dX11_dPeople_11 : decode cX11_dPeople 11 = .ok (.aload_n 0, 1) := by decide +kernel
theorem dX11_dPeople_12 : decode cX11_dPeople 12 = .ok (.getfield 32, 3) := by decide +kernel
theorem dX11_dPeople_15 : decode cX11_dPeople 15 = .ok (.iconst 4, 1) := by decide +kernel
theorem dX11_dPeople_16 : decode cX11_dPeople 16 = .ok (.iaload, 1) := by decide +kernel
theorem dX11_dPeople_17 : decode cX11_dPeople 17 = .ok (.goto 21, 3) := by decide +kernel
theorem dX11_dPeople_20 : decode cX11_dPeople 20 = .ok (.aload_n 0, 1) := by decide +kernel
theorem dX11_dPeople_21 : decode cX11_dPeople 21 = .ok (.getfield 71, 3) := by decide +kernel
theorem dX11_dPeople_24 : decode cX11_dPeople 24 = .ok (.bipush 6, 2) := by decide +kernel
theorem dX11_dPeople_26 : decode cX11_dPeople 26 = .ok (.if_icmp .ge 10, 3) := by decide +kernel
theorem dX11_dPeople_29 : decode cX11_dPeople 29 = .ok (.aload_n 0, 1) := by decide +kernel
theorem dX11_dPeople_30 : decode cX11_dPeople 30 = .ok (.getfield 71, 3) := by decide +kernel
theorem dX11_dPeople_33 : decode cX11_dPeople 33 = .ok (.goto 5, 3) := by decide +kernel
theorem dX11_dPeople_36 : decode cX11_dPeople 36 = .ok (.bipush 6, 2) := by decide +kernel
theorem dX11_dPeople_38 : decode cX11_dPeople 38 = .ok (.ireturn, 1) := by decide +kernel
theorem dX11_keepDraft_0 : decode cX11_keepDraft 0 = .ok (.iconst 0, 1) := by decide +kernel
theorem dX11_keepDraft_1 : decode cX11_keepDraft 1 = .ok (.istore_n 1, 1) := by decide +kernel
theorem dX11_keepDraft_2 : decode cX11_keepDraft 2 = .ok (.iload_n 1, 1) := by decide +kernel
theorem dX11_keepDraft_3 : decode cX11_keepDraft 3 = .ok (.bipush 125, 2) := by decide +kernel
theorem dX11_keepDraft_5 : decode cX11_keepDraft 5 = .ok (.if_icmp .ge 21, 3) := by decide +kernel
theorem dX11_keepDraft_8 : decode cX11_keepDraft 8 = .ok (.aload_n 0, 1) := by decide +kernel
theorem dX11_keepDraft_9 : decode cX11_keepDraft 9 = .ok (.getfield 7, 3) := by decide +kernel
theorem dX11_keepDraft_12 : decode cX11_keepDraft 12 = .ok (.iload_n 1, 1) := by decide +kernel
theorem dX11_keepDraft_13 : decode cX11_keepDraft 13 = .ok (.aload_n 0, 1) := by decide +kernel
theorem dX11_keepDraft_14 : decode cX11_keepDraft 14 = .ok (.getfield 23, 3) := by decide +kernel
theorem dX11_keepDraft_17 : decode cX11_keepDraft 17 = .ok (.iload_n 1, 1) := by decide +kernel
theorem dX11_keepDraft_18 : decode cX11_keepDraft 18 = .ok (.iaload, 1) := by decide +kernel
theorem dX11_keepDraft_19 : decode cX11_keepDraft 19 = .ok (.iastore, 1) := by decide +kernel
theorem dX11_keepDraft_20 : decode cX11_keepDraft 20 = .ok (.iinc 1 1, 3) := by decide +kernel
theorem dX11_keepDraft_23 : decode cX11_keepDraft 23 = .ok (.goto (-21), 3) := by decide +kernel
theorem dX11_keepDraft_26 : decode cX11_keepDraft 26 = .ok (.iconst 0, 1) := by decide +kernel
theorem dX11_keepDraft_27 : decode cX11_keepDraft 27 = .ok (.istore_n 1, 1) := by decide +kernel
theorem dX11_keepDraft_28 : decode cX11_keepDraft 28 = .ok (.iload_n 1, 1) := by decide +kernel
theorem dX11_keepDraft_29 : decode cX11_keepDraft 29 = .ok (.bipush 32, 2) := by decide +kernel
theorem dX11_keepDraft_31 : decode cX11_keepDraft 31 = .ok (.if_icmp .ge 21, 3) := by decide +kernel
theorem dX11_keepDraft_34 : decode cX11_keepDraft 34 = .ok (.aload_n 0, 1) := by decide +kernel
theorem dX11_keepDraft_35 : decode cX11_keepDraft 35 = .ok (.getfield 17, 3) := by decide +kernel
theorem dX11_keepDraft_38 : decode cX11_keepDraft 38 = .ok (.iload_n 1, 1) := by decide +kernel
theorem dX11_keepDraft_39 : decode cX11_keepDraft 39 = .ok (.aload_n 0, 1) := by decide +kernel
theorem dX11_keepDraft_40 : decode cX11_keepDraft 40 = .ok (.getfield 26, 3) := by decide +kernel
theorem dX11_keepDraft_43 : decode cX11_keepDraft 43 = .ok (.iload_n 1, 1) := by decide +kernel
theorem dX11_keepDraft_44 : decode cX11_keepDraft 44 = .ok (.iaload, 1) := by decide +kernel
theorem dX11_keepDraft_45 : decode cX11_keepDraft 45 = .ok (.iastore, 1) := by decide +kernel
theorem dX11_keepDraft_46 : decode cX11_keepDraft 46 = .ok (.iinc 1 1, 3) := by decide +kernel
theorem dX11_keepDraft_49 : decode cX11_keepDraft 49 = .ok (.goto (-21), 3) := by decide +kernel
theorem dX11_keepDraft_52 : decode cX11_keepDraft 52 = .ok (.iconst 0, 1) := by decide +kernel
theorem dX11_keepDraft_53 : decode cX11_keepDraft 53 = .ok (.istore_n 1, 1) := by decide +kernel
theorem dX11_keepDraft_54 : decode cX11_keepDraft 54 = .ok (.iload_n 1, 1) := by decide +kernel
theorem dX11_keepDraft_55 : decode cX11_keepDraft 55 = .ok (.bipush 24, 2) := by decide +kernel
theorem dX11_keepDraft_57 : decode cX11_keepDraft 57 = .ok (.if_icmp .ge 21, 3) := by decide +kernel
theorem dX11_keepDraft_60 : decode cX11_keepDraft 60 = .ok (.aload_n 0, 1) := by decide +kernel
theorem dX11_keepDraft_61 : decode cX11_keepDraft 61 = .ok (.getfield 20, 3) := by decide +kernel
theorem dX11_keepDraft_64 : decode cX11_keepDraft 64 = .ok (.iload_n 1, 1) := by decide +kernel
theorem dX11_keepDraft_65 : decode cX11_keepDraft 65 = .ok (.aload_n 0, 1) := by decide +kernel
theorem dX11_keepDraft_66 : decode cX11_keepDraft 66 = .ok (.getfield 29, 3) := by decide +kernel
theorem dX11_keepDraft_69 : decode cX11_keepDraft 69 = .ok (.iload_n 1, 1) := by decide +kernel
theorem dX11_keepDraft_70 : decode cX11_keepDraft 70 = .ok (.iaload, 1) := by decide +kernel
theorem dX11_keepDraft_71 : decode cX11_keepDraft 71 = .ok (.iastore, 1) := by decide +kernel
theorem dX11_keepDraft_72 : decode cX11_keepDraft 72 = .ok (.iinc 1 1, 3) := by decide +kernel
theorem dX11_keepDraft_75 : decode cX11_keepDraft 75 = .ok (.goto (-21), 3) := by decide +kernel
theorem dX11_keepDraft_78 : decode cX11_keepDraft 78 = .ok (.aload_n 0, 1) := by decide +kernel
theorem dX11_keepDraft_79 : decode cX11_keepDraft 79 = .ok (.aload_n 0, 1) := by decide +kernel
theorem dX11_keepDraft_80 : decode cX11_keepDraft 80 = .ok (.getfield 32, 3) := by decide +kernel
theorem dX11_keepDraft_83 : decode cX11_keepDraft 83 = .ok (.iconst 0, 1) := by decide +kernel
theorem dX11_keepDraft_84 : decode cX11_keepDraft 84 = .ok (.iaload, 1) := by decide +kernel
theorem dX11_keepDraft_85 : decode cX11_keepDraft 85 = .ok (.putfield 90, 3) := by decide +kernel
theorem dX11_keepDraft_88 : decode cX11_keepDraft 88 = .ok (.aload_n 0, 1) := by decide +kernel
theorem dX11_keepDraft_89 : decode cX11_keepDraft 89 = .ok (.aload_n 0, 1) := by decide +kernel
theorem dX11_keepDraft_90 : decode cX11_keepDraft 90 = .ok (.getfield 32, 3) := by decide +kernel
theorem dX11_keepDraft_93 : decode cX11_keepDraft 93 = .ok (.iconst 1, 1) := by decide +kernel
theorem dX11_keepDraft_94 : decode cX11_keepDraft 94 = .ok (.iaload, 1) := by decide +kernel
theorem dX11_keepDraft_95 : decode cX11_keepDraft 95 = .ok (.putfield 93, 3) := by decide +kernel
theorem dX11_keepDraft_98 : decode cX11_keepDraft 98 = .ok (.aload_n 0, 1) := by decide +kernel
theorem dX11_keepDraft_99 : decode cX11_keepDraft 99 = .ok (.aload_n 0, 1) := by decide +kernel
theorem dX11_keepDraft_100 : decode cX11_keepDraft 100 = .ok (.getfield 32, 3) := by decide +kernel
theorem dX11_keepDraft_103 : decode cX11_keepDraft 103 = .ok (.iconst 2, 1) := by decide +kernel
theorem dX11_keepDraft_104 : decode cX11_keepDraft 104 = .ok (.iaload, 1) := by decide +kernel
theorem dX11_keepDraft_105 : decode cX11_keepDraft 105 = .ok (.putfield 96, 3) := by decide +kernel
theorem dX11_keepDraft_108 : decode cX11_keepDraft 108 = .ok (.aload_n 0, 1) := by decide +kernel
theorem dX11_keepDraft_109 : decode cX11_keepDraft 109 = .ok (.aload_n 0, 1) := by decide +kernel
theorem dX11_keepDraft_110 : decode cX11_keepDraft 110 = .ok (.getfield 32, 3) := by decide +kernel
theorem dX11_keepDraft_113 : decode cX11_keepDraft 113 = .ok (.iconst 3, 1) := by decide +kernel
theorem dX11_keepDraft_114 : decode cX11_keepDraft 114 = .ok (.iaload, 1) := by decide +kernel
theorem dX11_keepDraft_115 : decode cX11_keepDraft 115 = .ok (.putfield 99, 3) := by decide +kernel
theorem dX11_keepDraft_118 : decode cX11_keepDraft 118 = .ok (.aload_n 0, 1) := by decide +kernel
theorem dX11_keepDraft_119 : decode cX11_keepDraft 119 = .ok (.aload_n 0, 1) := by decide +kernel
theorem dX11_keepDraft_120 : decode cX11_keepDraft 120 = .ok (.getfield 71, 3) := by decide +kernel
theorem dX11_keepDraft_123 : decode cX11_keepDraft 123 = .ok (.putfield 102, 3) := by decide +kernel
theorem dX11_keepDraft_126 : decode cX11_keepDraft 126 = .ok (.aload_n 0, 1) := by decide +kernel
theorem dX11_keepDraft_127 : decode cX11_keepDraft 127 = .ok (.aload_n 0, 1) := by decide +kernel
theorem dX11_keepDraft_128 : decode cX11_keepDraft 128 = .ok (.invokevirtual 105, 3) := by decide +kernel
theorem dX11_keepDraft_131 : decode cX11_keepDraft 131 = .ok (.putfield 109, 3) := by decide +kernel
theorem dX11_keepDraft_134 : decode cX11_keepDraft 134 = .ok (.aload_n 0, 1) := by decide +kernel
theorem dX11_keepDraft_135 : decode cX11_keepDraft 135 = .ok (.aload_n 0, 1) := by decide +kernel
theorem dX11_keepDraft_136 : decode cX11_keepDraft 136 = .ok (.getfield 75, 3) := by decide +kernel
theorem dX11_keepDraft_139 : decode cX11_keepDraft 139 = .ok (.putfield 112, 3) := by decide +kernel
theorem dX11_keepDraft_142 : decode cX11_keepDraft 142 = .ok (.iconst 0, 1) := by decide +kernel
theorem dX11_keepDraft_143 : decode cX11_keepDraft 143 = .ok (.istore_n 1, 1) := by decide +kernel
theorem dX11_keepDraft_144 : decode cX11_keepDraft 144 = .ok (.iload_n 1, 1) := by decide +kernel
theorem dX11_keepDraft_145 : decode cX11_keepDraft 145 = .ok (.bipush 6, 2) := by decide +kernel
theorem dX11_keepDraft_147 : decode cX11_keepDraft 147 = .ok (.if_icmp .ge 19, 3) := by decide +kernel
theorem dX11_keepDraft_150 : decode cX11_keepDraft 150 = .ok (.aload_n 0, 1) := by decide +kernel
theorem dX11_keepDraft_151 : decode cX11_keepDraft 151 = .ok (.getfield 7, 3) := by decide +kernel
theorem dX11_keepDraft_154 : decode cX11_keepDraft 154 = .ok (.bipush 82, 2) := by decide +kernel
theorem dX11_keepDraft_156 : decode cX11_keepDraft 156 = .ok (.iload_n 1, 1) := by decide +kernel
theorem dX11_keepDraft_157 : decode cX11_keepDraft 157 = .ok (.iadd, 1) := by decide +kernel
theorem dX11_keepDraft_158 : decode cX11_keepDraft 158 = .ok (.iload_n 1, 1) := by decide +kernel
theorem dX11_keepDraft_159 : decode cX11_keepDraft 159 = .ok (.iastore, 1) := by decide +kernel
theorem dX11_keepDraft_160 : decode cX11_keepDraft 160 = .ok (.iinc 1 1, 3) := by decide +kernel
theorem dX11_keepDraft_163 : decode cX11_keepDraft 163 = .ok (.goto (-19), 3) := by decide +kernel
theorem dX11_keepDraft_166 : decode cX11_keepDraft 166 = .ok (.aload_n 0, 1) := by decide +kernel
theorem dX11_keepDraft_167 : decode cX11_keepDraft 167 = .ok (.getfield 13, 3) := by decide +kernel
theorem dX11_keepDraft_170 : decode cX11_keepDraft 170 = .ok (.iconst 0, 1) := by decide +kernel
theorem dX11_keepDraft_171 : decode cX11_keepDraft 171 = .ok (.iconst 0, 1) := by decide +kernel
theorem dX11_keepDraft_172 : decode cX11_keepDraft 172 = .ok (.bastore, 1) := by decide +kernel
theorem dX11_keepDraft_173 : decode cX11_keepDraft 173 = .ok (.aload_n 0, 1) := by decide +kernel
theorem dX11_keepDraft_174 : decode cX11_keepDraft 174 = .ok (.getfield 13, 3) := by decide +kernel
theorem dX11_keepDraft_177 : decode cX11_keepDraft 177 = .ok (.iconst 1, 1) := by decide +kernel
theorem dX11_keepDraft_178 : decode cX11_keepDraft 178 = .ok (.iconst 0, 1) := by decide +kernel
theorem dX11_keepDraft_179 : decode cX11_keepDraft 179 = .ok (.bastore, 1) := by decide +kernel
theorem dX11_keepDraft_180 : decode cX11_keepDraft 180 = .ok (.return_, 1) := by decide +kernel
theorem dX11_feed_0 : decode cX11_feed 0 = .ok (.aload_n 0, 1) := by decide +kernel
theorem dX11_feed_1 : decode cX11_feed 1 = .ok (.getfield 115, 3) := by decide +kernel
theorem dX11_feed_4 : decode cX11_feed 4 = .ok (.bipush 8, 2) := by decide +kernel
theorem dX11_feed_6 : decode cX11_feed 6 = .ok (.iadd, 1) := by decide +kernel
theorem dX11_feed_7 : decode cX11_feed 7 = .ok (.sipush 320, 3) := by decide +kernel
theorem dX11_feed_10 : decode cX11_feed 10 = .ok (.if_icmp .le 6, 3) := by decide +kernel
theorem dX11_feed_13 : decode cX11_feed 13 = .ok (.bipush (-3), 2) := by decide +kernel
theorem dX11_feed_15 : decode cX11_feed 15 = .ok (.ireturn, 1) := by decide +kernel
theorem dX11_feed_16 : decode cX11_feed 16 = .ok (.bipush 56, 2) := by decide +kernel
theorem dX11_feed_18 : decode cX11_feed 18 = .ok (.istore_n 3, 1) := by decide +kernel
theorem dX11_feed_19 : decode cX11_feed 19 = .ok (.iload_n 3, 1) := by decide +kernel
theorem dX11_feed_20 : decode cX11_feed 20 = .ok (.ifCond .lt 36, 3) := by decide +kernel
theorem dX11_feed_23 : decode cX11_feed 23 = .ok (.aload_n 0, 1) := by decide +kernel
theorem dX11_feed_24 : decode cX11_feed 24 = .ok (.getfield 35, 3) := by decide +kernel
theorem dX11_feed_27 : decode cX11_feed 27 = .ok (.aload_n 0, 1) := by decide +kernel
theorem dX11_feed_28 : decode cX11_feed 28 = .ok (.getfield 115, 3) := by decide +kernel
theorem dX11_feed_31 : decode cX11_feed 31 = .ok (.lload_n 1, 1) := by decide +kernel
theorem dX11_feed_32 : decode cX11_feed 32 = .ok (.iload_n 3, 1) := by decide +kernel
theorem dX11_feed_33 : decode cX11_feed 33 = .ok (.lshr, 1) := by decide +kernel
theorem dX11_feed_34 : decode cX11_feed 34 = .ok (.ldc2_w 118, 3) := by decide +kernel
theorem dX11_feed_37 : decode cX11_feed 37 = .ok (.land, 1) := by decide +kernel
theorem dX11_feed_38 : decode cX11_feed 38 = .ok (.l2i, 1) := by decide +kernel
theorem dX11_feed_39 : decode cX11_feed 39 = .ok (.iastore, 1) := by decide +kernel
theorem dX11_feed_40 : decode cX11_feed 40 = .ok (.aload_n 0, 1) := by decide +kernel
theorem dX11_feed_41 : decode cX11_feed 41 = .ok (.dup, 1) := by decide +kernel
theorem dX11_feed_42 : decode cX11_feed 42 = .ok (.getfield 115, 3) := by decide +kernel
theorem dX11_feed_45 : decode cX11_feed 45 = .ok (.iconst 1, 1) := by decide +kernel
theorem dX11_feed_46 : decode cX11_feed 46 = .ok (.iadd, 1) := by decide +kernel
theorem dX11_feed_47 : decode cX11_feed 47 = .ok (.putfield 115, 3) := by decide +kernel
theorem dX11_feed_50 : decode cX11_feed 50 = .ok (.iinc 3 (-8), 3) := by decide +kernel
theorem dX11_feed_53 : decode cX11_feed 53 = .ok (.goto (-34), 3) := by decide +kernel
theorem dX11_feed_56 : decode cX11_feed 56 = .ok (.aload_n 0, 1) := by decide +kernel
theorem dX11_feed_57 : decode cX11_feed 57 = .ok (.getfield 115, 3) := by decide +kernel
theorem dX11_feed_60 : decode cX11_feed 60 = .ok (.ireturn, 1) := by decide +kernel
theorem dX11_end_0 : decode cX11_end 0 = .ok (.iload_n 1, 1) := by decide +kernel
theorem dX11_end_1 : decode cX11_end 1 = .ok (.i2l, 1) := by decide +kernel
theorem dX11_end_2 : decode cX11_end 2 = .ok (.lconst 0, 1) := by decide +kernel
theorem dX11_end_3 : decode cX11_end 3 = .ok (.aload_n 0, 1) := by decide +kernel
theorem dX11_end_4 : decode cX11_end 4 = .ok (.getfield 115, 3) := by decide +kernel
theorem dX11_end_7 : decode cX11_end 7 = .ok (.i2l, 1) := by decide +kernel
theorem dX11_end_8 : decode cX11_end 8 = .ok (.invokestatic 120, 3) := by decide +kernel
theorem dX11_end_11 : decode cX11_end 11 = .ok (.ifCond .ne 5, 3) := by decide +kernel
theorem dX11_end_14 : decode cX11_end 14 = .ok (.iconst (-1), 1) := by decide +kernel
theorem dX11_end_15 : decode cX11_end 15 = .ok (.ireturn, 1) := by decide +kernel
theorem dX11_end_16 : decode cX11_end 16 = .ok (.aload_n 0, 1) := by decide +kernel
theorem dX11_end_17 : decode cX11_end 17 = .ok (.getfield 115, 3) := by decide +kernel
theorem dX11_end_20 : decode cX11_end 20 = .ok (.istore_n 2, 1) := by decide +kernel
theorem dX11_end_21 : decode cX11_end 21 = .ok (.aload_n 0, 1) := by decide +kernel
theorem dX11_end_22 : decode cX11_end 22 = .ok (.iload_n 1, 1) := by decide +kernel
theorem dX11_end_23 : decode cX11_end 23 = .ok (.putfield 115, 3) := by decide +kernel
theorem dX11_end_26 : decode cX11_end 26 = .ok (.iload_n 2, 1) := by decide +kernel
theorem dX11_end_27 : decode cX11_end 27 = .ok (.ireturn, 1) := by decide +kernel
theorem dX11_needs_0 : decode cX11_needs 0 = .ok (.iload_n 1, 1) := by decide +kernel
theorem dX11_needs_1 : decode cX11_needs 1 = .ok (.ifCond .ne 23, 3) := by decide +kernel
theorem dX11_needs_4 : decode cX11_needs 4 = .ok (.aload_n 0, 1) := by decide +kernel
theorem dX11_needs_5 : decode cX11_needs 5 = .ok (.getfield 124, 3) := by decide +kernel
theorem dX11_needs_8 : decode cX11_needs 8 = .ok (.ifCond .ne 16, 3) := by decide +kernel
theorem dX11_needs_11 : decode cX11_needs 11 = .ok (.aload_n 0, 1) := by decide +kernel
theorem dX11_needs_12 : decode cX11_needs 12 = .ok (.iload_n 2, 1) := by decide +kernel
theorem dX11_needs_13 : decode cX11_needs 13 = .ok (.putfield 124, 3) := by decide +kernel
theorem dX11_needs_16 : decode cX11_needs 16 = .ok (.aload_n 0, 1) := by decide +kernel
theorem dX11_needs_17 : decode cX11_needs 17 = .ok (.aload_n 0, 1) := by decide +kernel
theorem dX11_needs_18 : decode cX11_needs 18 = .ok (.getfield 127, 3) := by decide +kernel
theorem dX11_needs_21 : decode cX11_needs 21 = .ok (.putfield 130, 3) := by decide +kernel
theorem dX11_needs_24 : decode cX11_needs 24 = .ok (.return_, 1) := by decide +kernel
theorem dX11_look_0 : decode cX11_look 0 = .ok (.iload_n 1, 1) := by decide +kernel
theorem dX11_look_1 : decode cX11_look 1 = .ok (.aload_n 0, 1) := by decide +kernel
theorem dX11_look_2 : decode cX11_look 2 = .ok (.getfield 115, 3) := by decide +kernel
theorem dX11_look_5 : decode cX11_look 5 = .ok (.if_icmp .ge 12, 3) := by decide +kernel
theorem dX11_look_8 : decode cX11_look 8 = .ok (.aload_n 0, 1) := by decide +kernel
theorem dX11_look_9 : decode cX11_look 9 = .ok (.getfield 35, 3) := by decide +kernel
theorem dX11_look_12 : decode cX11_look 12 = .ok (.iload_n 1, 1) := by decide +kernel
theorem dX11_look_13 : decode cX11_look 13 = .ok (.iaload, 1) := by decide +kernel
theorem dX11_look_14 : decode cX11_look 14 = .ok (.goto 4, 3) := by decide +kernel
theorem dX11_look_17 : decode cX11_look 17 = .ok (.iconst (-1), 1) := by decide +kernel
theorem dX11_look_18 : decode cX11_look 18 = .ok (.ireturn, 1) := by decide +kernel
theorem dX11_is_0 : decode cX11_is 0 = .ok (.aload_n 0, 1) := by decide +kernel
theorem dX11_is_1 : decode cX11_is 1 = .ok (.getfield 133, 3) := by decide +kernel
theorem dX11_is_4 : decode cX11_is 4 = .ok (.aload_n 0, 1) := by decide +kernel
theorem dX11_is_5 : decode cX11_is 5 = .ok (.getfield 127, 3) := by decide +kernel
theorem dX11_is_8 : decode cX11_is 8 = .ok (.isub, 1) := by decide +kernel
theorem dX11_is_9 : decode cX11_is 9 = .ok (.iload_n 1, 1) := by decide +kernel
theorem dX11_is_10 : decode cX11_is 10 = .ok (.if_icmp .ne 68, 3) := by decide +kernel
theorem dX11_is_13 : decode cX11_is 13 = .ok (.aload_n 0, 1) := by decide +kernel
theorem dX11_is_14 : decode cX11_is 14 = .ok (.aload_n 0, 1) := by decide +kernel
theorem dX11_is_15 : decode cX11_is 15 = .ok (.getfield 127, 3) := by decide +kernel
theorem dX11_is_18 : decode cX11_is 18 = .ok (.invokevirtual 136, 3) := by decide +kernel
theorem dX11_is_21 : decode cX11_is 21 = .ok (.iload_n 2, 1) := by decide +kernel
theorem dX11_is_22 : decode cX11_is 22 = .ok (.if_icmp .ne 56, 3) := by decide +kernel
theorem dX11_is_25 : decode cX11_is 25 = .ok (.aload_n 0, 1) := by decide +kernel
theorem dX11_is_26 : decode cX11_is 26 = .ok (.aload_n 0, 1) := by decide +kernel
theorem dX11_is_27 : decode cX11_is 27 = .ok (.getfield 127, 3) := by decide +kernel
theorem dX11_is_30 : decode cX11_is 30 = .ok (.iconst 1, 1) := by decide +kernel
theorem dX11_is_31 : decode cX11_is 31 = .ok (.iadd, 1) := by decide +kernel
theorem dX11_is_32 : decode cX11_is 32 = .ok (.invokevirtual 136, 3) := by decide +kernel
theorem dX11_is_35 : decode cX11_is 35 = .ok (.iload_n 3, 1) := by decide +kernel
theorem dX11_is_36 : decode cX11_is 36 = .ok (.if_icmp .ne 42, 3) := by decide +kernel
theorem dX11_is_39 : decode cX11_is 39 = .ok (.aload_n 0, 1) := by decide +kernel
theorem dX11_is_40 : decode cX11_is 40 = .ok (.aload_n 0, 1) := by decide +kernel
theorem dX11_is_41 : decode cX11_is 41 = .ok (.getfield 127, 3) := by decide +kernel
theorem dX11_is_44 : decode cX11_is 44 = .ok (.iconst 2, 1) := by decide +kernel
theorem dX11_is_45 : decode cX11_is 45 = .ok (.iadd, 1) := by decide +kernel
theorem dX11_is_46 : decode cX11_is 46 = .ok (.invokevirtual 136, 3) := by decide +kernel
theorem dX11_is_49 : decode cX11_is 49 = .ok (.iload 4, 2) := by decide +kernel
theorem dX11_is_51 : decode cX11_is 51 = .ok (.if_icmp .ne 27, 3) := by decide +kernel
theorem dX11_is_54 : decode cX11_is 54 = .ok (.iload_n 1, 1) := by decide +kernel
theorem dX11_is_55 : decode cX11_is 55 = .ok (.iconst 4, 1) := by decide +kernel
theorem dX11_is_56 : decode cX11_is 56 = .ok (.if_icmp .lt 18, 3) := by decide +kernel
theorem dX11_is_59 : decode cX11_is 59 = .ok (.aload_n 0, 1) := by decide +kernel
theorem dX11_is_60 : decode cX11_is 60 = .ok (.aload_n 0, 1) := by decide +kernel
theorem dX11_is_61 : decode cX11_is 61 = .ok (.getfield 127, 3) := by decide +kernel
theorem dX11_is_64 : decode cX11_is 64 = .ok (.iconst 3, 1) := by decide +kernel
theorem dX11_is_65 : decode cX11_is 65 = .ok (.iadd, 1) := by decide +kernel
theorem dX11_is_66 : decode cX11_is 66 = .ok (.invokevirtual 136, 3) := by decide +kernel
theorem dX11_is_69 : decode cX11_is 69 = .ok (.iload 5, 2) := by decide +kernel
theorem dX11_is_71 : decode cX11_is 71 = .ok (.if_icmp .ne 7, 3) := by decide +kernel
theorem dX11_is_74 : decode cX11_is 74 = .ok (.iconst 1, 1) := by decide +kernel
theorem dX11_is_75 : decode cX11_is 75 = .ok (.goto 4, 3) := by decide +kernel
theorem dX11_is_78 : decode cX11_is 78 = .ok (.iconst 0, 1) := by decide +kernel
theorem dX11_is_79 : decode cX11_is 79 = .ok (.ireturn, 1) := by decide +kernel
theorem dX11_ends_0 : decode cX11_ends 0 = .ok (.aload_n 0, 1) := by decide +kernel
theorem dX11_ends_1 : decode cX11_ends 1 = .ok (.aload_n 0, 1) := by decide +kernel
theorem dX11_ends_2 : decode cX11_ends 2 = .ok (.getfield 127, 3) := by decide +kernel
theorem dX11_ends_5 : decode cX11_ends 5 = .ok (.iload_n 1, 1) := by decide +kernel
theorem dX11_ends_6 : decode cX11_ends 6 = .ok (.iadd, 1) := by decide +kernel
theorem dX11_ends_7 : decode cX11_ends 7 = .ok (.invokevirtual 136, 3) := by decide +kernel
theorem dX11_ends_10 : decode cX11_ends 10 = .ok (.iload_n 2, 1) := by decide +kernel
theorem dX11_ends_11 : decode cX11_ends 11 = .ok (.if_icmp .ne 45, 3) := by decide +kernel
theorem dX11_ends_14 : decode cX11_ends 14 = .ok (.aload_n 0, 1) := by decide +kernel
theorem dX11_ends_15 : decode cX11_ends 15 = .ok (.aload_n 0, 1) := by decide +kernel
theorem dX11_ends_16 : decode cX11_ends 16 = .ok (.getfield 127, 3) := by decide +kernel
theorem dX11_ends_19 : decode cX11_ends 19 = .ok (.iload_n 1, 1) := by decide +kernel
theorem dX11_ends_20 : decode cX11_ends 20 = .ok (.iadd, 1) := by decide +kernel
theorem dX11_ends_21 : decode cX11_ends 21 = .ok (.iconst 1, 1) := by decide +kernel
theorem dX11_ends_22 : decode cX11_ends 22 = .ok (.iadd, 1) := by decide +kernel
theorem dX11_ends_23 : decode cX11_ends 23 = .ok (.invokevirtual 136, 3) := by decide +kernel
theorem dX11_ends_26 : decode cX11_ends 26 = .ok (.iload_n 3, 1) := by decide +kernel
theorem dX11_ends_27 : decode cX11_ends 27 = .ok (.if_icmp .ne 29, 3) := by decide +kernel
theorem dX11_ends_30 : decode cX11_ends 30 = .ok (.iload 4, 2) := by decide +kernel
theorem dX11_ends_32 : decode cX11_ends 32 = .ok (.ifCond .eq 20, 3) := by decide +kernel
theorem dX11_ends_35 : decode cX11_ends 35 = .ok (.aload_n 0, 1) := by decide +kernel
theorem dX11_ends_36 : decode cX11_ends 36 = .ok (.aload_n 0, 1) := by decide +kernel
theorem dX11_ends_37 : decode cX11_ends 37 = .ok (.getfield 127, 3) := by decide +kernel
theorem dX11_ends_40 : decode cX11_ends 40 = .ok (.iload_n 1, 1) := by decide +kernel
theorem dX11_ends_41 : decode cX11_ends 41 = .ok (.iadd, 1) := by decide +kernel
theorem dX11_ends_42 : decode cX11_ends 42 = .ok (.iconst 2, 1) := by decide +kernel
theorem dX11_ends_43 : decode cX11_ends 43 = .ok (.iadd, 1) := by decide +kernel
theorem dX11_ends_44 : decode cX11_ends 44 = .ok (.invokevirtual 136, 3) := by decide +kernel
theorem dX11_ends_47 : decode cX11_ends 47 = .ok (.iload 4, 2) := by decide +kernel
theorem dX11_ends_49 : decode cX11_ends 49 = .ok (.if_icmp .ne 7, 3) := by decide +kernel
theorem dX11_ends_52 : decode cX11_ends 52 = .ok (.iconst 1, 1) := by decide +kernel
theorem dX11_ends_53 : decode cX11_ends 53 = .ok (.goto 4, 3) := by decide +kernel
theorem dX11_ends_56 : decode cX11_ends 56 = .ok (.iconst 0, 1) := by decide +kernel
theorem dX11_ends_57 : decode cX11_ends 57 = .ok (.ireturn, 1) := by decide +kernel
theorem dX11_ruleNow_0 : decode cX11_ruleNow 0 = .ok (.aload_n 0, 1) := by decide +kernel
theorem dX11_ruleNow_1 : decode cX11_ruleNow 1 = .ok (.iconst 4, 1) := by decide +kernel
theorem dX11_ruleNow_2 : decode cX11_ruleNow 2 = .ok (.bipush 104, 2) := by decide +kernel
theorem dX11_ruleNow_4 : decode cX11_ruleNow 4 = .ok (.bipush 97, 2) := by decide +kernel
theorem dX11_ruleNow_6 : decode cX11_ruleNow 6 = .ok (.bipush 108, 2) := by decide +kernel
theorem dX11_ruleNow_8 : decode cX11_ruleNow 8 = .ok (.bipush 108, 2) := by decide +kernel
theorem dX11_ruleNow_10 : decode cX11_ruleNow 10 = .ok (.invokevirtual 140, 3) := by decide +kernel
theorem dX11_ruleNow_13 : decode cX11_ruleNow 13 = .ok (.ifCond .eq 5, 3) := by decide +kernel
theorem dX11_ruleNow_16 : decode cX11_ruleNow 16 = .ok (.iconst 0, 1) := by decide +kernel
theorem dX11_ruleNow_17 : decode cX11_ruleNow 17 = .ok (.ireturn, 1) := by decide +kernel
theorem dX11_ruleNow_18 : decode cX11_ruleNow 18 = .ok (.aload_n 0, 1) := by decide +kernel
theorem dX11_ruleNow_19 : decode cX11_ruleNow 19 = .ok (.iconst 4, 1) := by decide +kernel
theorem dX11_ruleNow_20 : decode cX11_ruleNow 20 = .ok (.bipush 102, 2) := by decide +kernel
theorem dX11_ruleNow_22 : decode cX11_ruleNow 22 = .ok (.bipush 97, 2) := by decide +kernel
theorem dX11_ruleNow_24 : decode cX11_ruleNow 24 = .ok (.bipush 100, 2) := by decide +kernel
theorem dX11_ruleNow_26 : decode cX11_ruleNow 26 = .ok (.bipush 101, 2) := by decide +kernel
theorem dX11_ruleNow_28 : decode cX11_ruleNow 28 = .ok (.invokevirtual 140, 3) := by decide +kernel
theorem dX11_ruleNow_31 : decode cX11_ruleNow 31 = .ok (.ifCond .eq 5, 3) := by decide +kernel
theorem dX11_ruleNow_34 : decode cX11_ruleNow 34 = .ok (.iconst 1, 1) := by decide +kernel
theorem dX11_ruleNow_35 : decode cX11_ruleNow 35 = .ok (.ireturn, 1) := by decide +kernel
theorem dX11_ruleNow_36 : decode cX11_ruleNow 36 = .ok (.aload_n 0, 1) := by decide +kernel
theorem dX11_ruleNow_37 : decode cX11_ruleNow 37 = .ok (.bipush 6, 2) := by decide +kernel
theorem dX11_ruleNow_39 : decode cX11_ruleNow 39 = .ok (.bipush 98, 2) := by decide +kernel
theorem dX11_ruleNow_41 : decode cX11_ruleNow 41 = .ok (.bipush 111, 2) := by decide +kernel
theorem dX11_ruleNow_43 : decode cX11_ruleNow 43 = .ok (.bipush 117, 2) := by decide +kernel
theorem dX11_ruleNow_45 : decode cX11_ruleNow 45 = .ok (.bipush 110, 2) := by decide +kernel
theorem dX11_ruleNow_47 : decode cX11_ruleNow 47 = .ok (.invokevirtual 140, 3) := by decide +kernel
theorem dX11_ruleNow_50 : decode cX11_ruleNow 50 = .ok (.ifCond .eq 18, 3) := by decide +kernel
theorem dX11_ruleNow_53 : decode cX11_ruleNow 53 = .ok (.aload_n 0, 1) := by decide +kernel
theorem dX11_ruleNow_54 : decode cX11_ruleNow 54 = .ok (.iconst 4, 1) := by decide +kernel
theorem dX11_ruleNow_55 : decode cX11_ruleNow 55 = .ok (.bipush 99, 2) := by decide +kernel
theorem dX11_ruleNow_57 : decode cX11_ruleNow 57 = .ok (.bipush 101, 2) := by decide +kernel
theorem dX11_ruleNow_59 : decode cX11_ruleNow 59 = .ok (.iconst 0, 1) := by decide +kernel
theorem dX11_ruleNow_60 : decode cX11_ruleNow 60 = .ok (.invokevirtual 144, 3) := by decide +kernel
theorem dX11_ruleNow_63 : decode cX11_ruleNow 63 = .ok (.ifCond .eq 5, 3) := by decide +kernel
theorem dX11_ruleNow_66 : decode cX11_ruleNow 66 = .ok (.iconst 2, 1) := by decide +kernel
theorem dX11_ruleNow_67 : decode cX11_ruleNow 67 = .ok (.ireturn, 1) := by decide +kernel
theorem dX11_ruleNow_68 : decode cX11_ruleNow 68 = .ok (.aload_n 0, 1) := by decide +kernel
theorem dX11_ruleNow_69 : decode cX11_ruleNow 69 = .ok (.iconst 4, 1) := by decide +kernel
theorem dX11_ruleNow_70 : decode cX11_ruleNow 70 = .ok (.bipush 119, 2) := by decide +kernel
theorem dX11_ruleNow_72 : decode cX11_ruleNow 72 = .ok (.bipush 97, 2) := by decide +kernel
theorem dX11_ruleNow_74 : decode cX11_ruleNow 74 = .ok (.bipush 114, 2) := by decide +kernel
theorem dX11_ruleNow_76 : decode cX11_ruleNow 76 = .ok (.bipush 109, 2) := by decide +kernel
theorem dX11_ruleNow_78 : decode cX11_ruleNow 78 = .ok (.invokevirtual 140, 3) := by decide +kernel
theorem dX11_ruleNow_81 : decode cX11_ruleNow 81 = .ok (.ifCond .eq 5, 3) := by decide +kernel
theorem dX11_ruleNow_84 : decode cX11_ruleNow 84 = .ok (.iconst 3, 1) := by decide +kernel
theorem dX11_ruleNow_85 : decode cX11_ruleNow 85 = .ok (.ireturn, 1) := by decide +kernel
theorem dX11_ruleNow_86 : decode cX11_ruleNow 86 = .ok (.aload_n 0, 1) := by decide +kernel
theorem dX11_ruleNow_87 : decode cX11_ruleNow 87 = .ok (.bipush 6, 2) := by decide +kernel
theorem dX11_ruleNow_89 : decode cX11_ruleNow 89 = .ok (.bipush 112, 2) := by decide +kernel
theorem dX11_ruleNow_91 : decode cX11_ruleNow 91 = .ok (.bipush 101, 2) := by decide +kernel
theorem dX11_ruleNow_93 : decode cX11_ruleNow 93 = .ok (.bipush 111, 2) := by decide +kernel
theorem dX11_ruleNow_95 : decode cX11_ruleNow 95 = .ok (.bipush 112, 2) := by decide +kernel
theorem dX11_ruleNow_97 : decode cX11_ruleNow 97 = .ok (.invokevirtual 140, 3) := by decide +kernel
theorem dX11_ruleNow_100 : decode cX11_ruleNow 100 = .ok (.ifCond .eq 20, 3) := by decide +kernel
theorem dX11_ruleNow_103 : decode cX11_ruleNow 103 = .ok (.aload_n 0, 1) := by decide +kernel
theorem dX11_ruleNow_104 : decode cX11_ruleNow 104 = .ok (.iconst 4, 1) := by decide +kernel
theorem dX11_ruleNow_105 : decode cX11_ruleNow 105 = .ok (.bipush 108, 2) := by decide +kernel
theorem dX11_ruleNow_107 : decode cX11_ruleNow 107 = .ok (.bipush 101, 2) := by decide +kernel
theorem dX11_ruleNow_109 : decode cX11_ruleNow 109 = .ok (.iconst 0, 1) := by decide +kernel
theorem dX11_ruleNow_110 : decode cX11_ruleNow 110 = .ok (.invokevirtual 144, 3) := by decide +kernel
theorem dX11_ruleNow_113 : decode cX11_ruleNow 113 = .ok (.ifCond .eq 7, 3) := by decide +kernel
theorem dX11_ruleNow_116 : decode cX11_ruleNow 116 = .ok (.iconst 4, 1) := by decide +kernel
theorem dX11_ruleNow_117 : decode cX11_ruleNow 117 = .ok (.goto 5, 3) := by decide +kernel
theorem dX11_ruleNow_120 : decode cX11_ruleNow 120 = .ok (.bipush (-4), 2) := by decide +kernel
theorem dX11_ruleNow_122 : decode cX11_ruleNow 122 = .ok (.ireturn, 1) := by decide +kernel
theorem dX11_nameNow_0 : decode cX11_nameNow 0 = .ok (.aload_n 0, 1) := by decide +kernel
theorem dX11_nameNow_1 : decode cX11_nameNow 1 = .ok (.iconst 5, 1) := by decide +kernel
theorem dX11_nameNow_2 : decode cX11_nameNow 2 = .ok (.bipush 98, 2) := by decide +kernel
theorem dX11_nameNow_4 : decode cX11_nameNow 4 = .ok (.bipush 101, 2) := by decide +kernel
theorem dX11_nameNow_6 : decode cX11_nameNow 6 = .ok (.bipush 110, 2) := by decide +kernel
theorem dX11_nameNow_8 : decode cX11_nameNow 8 = .ok (.bipush 99, 2) := by decide +kernel
theorem dX11_nameNow_10 : decode cX11_nameNow 10 = .ok (.invokevirtual 140, 3) := by decide +kernel
theorem dX11_nameNow_13 : decode cX11_nameNow 13 = .ok (.ifCond .eq 20, 3) := by decide +kernel
theorem dX11_nameNow_16 : decode cX11_nameNow 16 = .ok (.aload_n 0, 1) := by decide +kernel
theorem dX11_nameNow_17 : decode cX11_nameNow 17 = .ok (.aload_n 0, 1) := by decide +kernel
theorem dX11_nameNow_18 : decode cX11_nameNow 18 = .ok (.getfield 127, 3) := by decide +kernel
theorem dX11_nameNow_21 : decode cX11_nameNow 21 = .ok (.iconst 4, 1) := by decide +kernel
theorem dX11_nameNow_22 : decode cX11_nameNow 22 = .ok (.iadd, 1) := by decide +kernel
theorem dX11_nameNow_23 : decode cX11_nameNow 23 = .ok (.invokevirtual 136, 3) := by decide +kernel
theorem dX11_nameNow_26 : decode cX11_nameNow 26 = .ok (.bipush 104, 2) := by decide +kernel
theorem dX11_nameNow_28 : decode cX11_nameNow 28 = .ok (.if_icmp .ne 5, 3) := by decide +kernel
theorem dX11_nameNow_31 : decode cX11_nameNow 31 = .ok (.iconst 5, 1) := by decide +kernel
theorem dX11_nameNow_32 : decode cX11_nameNow 32 = .ok (.ireturn, 1) := by decide +kernel
theorem dX11_nameNow_33 : decode cX11_nameNow 33 = .ok (.aload_n 0, 1) := by decide +kernel
theorem dX11_nameNow_34 : decode cX11_nameNow 34 = .ok (.bipush 6, 2) := by decide +kernel
theorem dX11_nameNow_36 : decode cX11_nameNow 36 = .ok (.bipush 112, 2) := by decide +kernel
theorem dX11_nameNow_38 : decode cX11_nameNow 38 = .ok (.bipush 105, 2) := by decide +kernel
theorem dX11_nameNow_40 : decode cX11_nameNow 40 = .ok (.bipush 108, 2) := by decide +kernel
theorem dX11_nameNow_42 : decode cX11_nameNow 42 = .ok (.bipush 108, 2) := by decide +kernel
theorem dX11_nameNow_44 : decode cX11_nameNow 44 = .ok (.invokevirtual 140, 3) := by decide +kernel
theorem dX11_nameNow_47 : decode cX11_nameNow 47 = .ok (.ifCond .eq 19, 3) := by decide +kernel
theorem dX11_nameNow_50 : decode cX11_nameNow 50 = .ok (.aload_n 0, 1) := by decide +kernel
theorem dX11_nameNow_51 : decode cX11_nameNow 51 = .ok (.iconst 4, 1) := by decide +kernel
theorem dX11_nameNow_52 : decode cX11_nameNow 52 = .ok (.bipush 97, 2) := by decide +kernel
theorem dX11_nameNow_54 : decode cX11_nameNow 54 = .ok (.bipush 114, 2) := by decide +kernel
theorem dX11_nameNow_56 : decode cX11_nameNow 56 = .ok (.iconst 0, 1) := by decide +kernel
theorem dX11_nameNow_57 : decode cX11_nameNow 57 = .ok (.invokevirtual 144, 3) := by decide +kernel
theorem dX11_nameNow_60 : decode cX11_nameNow 60 = .ok (.ifCond .eq 6, 3) := by decide +kernel
theorem dX11_nameNow_63 : decode cX11_nameNow 63 = .ok (.bipush 6, 2) := by decide +kernel
theorem dX11_nameNow_65 : decode cX11_nameNow 65 = .ok (.ireturn, 1) := by decide +kernel
theorem dX11_nameNow_66 : decode cX11_nameNow 66 = .ok (.aload_n 0, 1) := by decide +kernel
theorem dX11_nameNow_67 : decode cX11_nameNow 67 = .ok (.bipush 7, 2) := by decide +kernel
theorem dX11_nameNow_69 : decode cX11_nameNow 69 = .ok (.bipush 99, 2) := by decide +kernel
theorem dX11_nameNow_71 : decode cX11_nameNow 71 = .ok (.bipush 117, 2) := by decide +kernel
theorem dX11_nameNow_73 : decode cX11_nameNow 73 = .ok (.bipush 114, 2) := by decide +kernel
theorem dX11_nameNow_75 : decode cX11_nameNow 75 = .ok (.bipush 116, 2) := by decide +kernel
theorem dX11_nameNow_77 : decode cX11_nameNow 77 = .ok (.invokevirtual 140, 3) := by decide +kernel
theorem dX11_nameNow_80 : decode cX11_nameNow 80 = .ok (.ifCond .eq 20, 3) := by decide +kernel
theorem dX11_nameNow_83 : decode cX11_nameNow 83 = .ok (.aload_n 0, 1) := by decide +kernel
theorem dX11_nameNow_84 : decode cX11_nameNow 84 = .ok (.iconst 4, 1) := by decide +kernel
theorem dX11_nameNow_85 : decode cX11_nameNow 85 = .ok (.bipush 97, 2) := by decide +kernel
theorem dX11_nameNow_87 : decode cX11_nameNow 87 = .ok (.bipush 105, 2) := by decide +kernel
theorem dX11_nameNow_89 : decode cX11_nameNow 89 = .ok (.bipush 110, 2) := by decide +kernel
theorem dX11_nameNow_91 : decode cX11_nameNow 91 = .ok (.invokevirtual 144, 3) := by decide +kernel
theorem dX11_nameNow_94 : decode cX11_nameNow 94 = .ok (.ifCond .eq 6, 3) := by decide +kernel
theorem dX11_nameNow_97 : decode cX11_nameNow 97 = .ok (.bipush 7, 2) := by decide +kernel
theorem dX11_nameNow_99 : decode cX11_nameNow 99 = .ok (.ireturn, 1) := by decide +kernel
theorem dX11_nameNow_100 : decode cX11_nameNow 100 = .ok (.aload_n 0, 1) := by decide +kernel
theorem dX11_nameNow_101 : decode cX11_nameNow 101 = .ok (.iconst 4, 1) := by decide +kernel
theorem dX11_nameNow_102 : decode cX11_nameNow 102 = .ok (.bipush 106, 2) := by decide +kernel
theorem dX11_nameNow_104 : decode cX11_nameNow 104 = .ok (.bipush 111, 2) := by decide +kernel
theorem dX11_nameNow_106 : decode cX11_nameNow 106 = .ok (.bipush 105, 2) := by decide +kernel
theorem dX11_nameNow_108 : decode cX11_nameNow 108 = .ok (.bipush 110, 2) := by decide +kernel
theorem dX11_nameNow_110 : decode cX11_nameNow 110 = .ok (.invokevirtual 140, 3) := by decide +kernel
theorem dX11_nameNow_113 : decode cX11_nameNow 113 = .ok (.ifCond .eq 6, 3) := by decide +kernel
theorem dX11_nameNow_116 : decode cX11_nameNow 116 = .ok (.bipush 8, 2) := by decide +kernel
theorem dX11_nameNow_118 : decode cX11_nameNow 118 = .ok (.ireturn, 1) := by decide +kernel
theorem dX11_nameNow_119 : decode cX11_nameNow 119 = .ok (.aload_n 0, 1) := by decide +kernel
theorem dX11_nameNow_120 : decode cX11_nameNow 120 = .ok (.iconst 3, 1) := by decide +kernel
theorem dX11_nameNow_121 : decode cX11_nameNow 121 = .ok (.bipush 98, 2) := by decide +kernel
theorem dX11_nameNow_123 : decode cX11_nameNow 123 = .ok (.bipush 97, 2) := by decide +kernel
theorem dX11_nameNow_125 : decode cX11_nameNow 125 = .ok (.bipush 114, 2) := by decide +kernel
theorem dX11_nameNow_127 : decode cX11_nameNow 127 = .ok (.iconst 0, 1) := by decide +kernel
theorem dX11_nameNow_128 : decode cX11_nameNow 128 = .ok (.invokevirtual 140, 3) := by decide +kernel
theorem dX11_nameNow_131 : decode cX11_nameNow 131 = .ok (.ifCond .eq 6, 3) := by decide +kernel
theorem dX11_nameNow_134 : decode cX11_nameNow 134 = .ok (.bipush 9, 2) := by decide +kernel
theorem dX11_nameNow_136 : decode cX11_nameNow 136 = .ok (.ireturn, 1) := by decide +kernel
theorem dX11_nameNow_137 : decode cX11_nameNow 137 = .ok (.aload_n 0, 1) := by decide +kernel
theorem dX11_nameNow_138 : decode cX11_nameNow 138 = .ok (.bipush 7, 2) := by decide +kernel
theorem dX11_nameNow_140 : decode cX11_nameNow 140 = .ok (.bipush 119, 2) := by decide +kernel
theorem dX11_nameNow_142 : decode cX11_nameNow 142 = .ok (.bipush 104, 2) := by decide +kernel
theorem dX11_nameNow_144 : decode cX11_nameNow 144 = .ok (.bipush 105, 2) := by decide +kernel
theorem dX11_nameNow_146 : decode cX11_nameNow 146 = .ok (.bipush 115, 2) := by decide +kernel
theorem dX11_nameNow_148 : decode cX11_nameNow 148 = .ok (.invokevirtual 140, 3) := by decide +kernel
theorem dX11_nameNow_151 : decode cX11_nameNow 151 = .ok (.ifCond .eq 22, 3) := by decide +kernel
theorem dX11_nameNow_154 : decode cX11_nameNow 154 = .ok (.aload_n 0, 1) := by decide +kernel
theorem dX11_nameNow_155 : decode cX11_nameNow 155 = .ok (.iconst 4, 1) := by decide +kernel
theorem dX11_nameNow_156 : decode cX11_nameNow 156 = .ok (.bipush 112, 2) := by decide +kernel
theorem dX11_nameNow_158 : decode cX11_nameNow 158 = .ok (.bipush 101, 2) := by decide +kernel
theorem dX11_nameNow_160 : decode cX11_nameNow 160 = .ok (.bipush 114, 2) := by decide +kernel
theorem dX11_nameNow_162 : decode cX11_nameNow 162 = .ok (.invokevirtual 144, 3) := by decide +kernel
theorem dX11_nameNow_165 : decode cX11_nameNow 165 = .ok (.ifCond .eq 8, 3) := by decide +kernel
theorem dX11_nameNow_168 : decode cX11_nameNow 168 = .ok (.bipush 10, 2) := by decide +kernel
theorem dX11_nameNow_170 : decode cX11_nameNow 170 = .ok (.goto 7, 3) := by decide +kernel
theorem dX11_nameNow_173 : decode cX11_nameNow 173 = .ok (.aload_n 0, 1) := by decide +kernel
theorem dX11_nameNow_174 : decode cX11_nameNow 174 = .ok (.invokevirtual 148, 3) := by decide +kernel
theorem dX11_nameNow_177 : decode cX11_nameNow 177 = .ok (.ireturn, 1) := by decide +kernel
theorem dX11_kindNow_0 : decode cX11_kindNow 0 = .ok (.aload_n 0, 1) := by decide +kernel
theorem dX11_kindNow_1 : decode cX11_kindNow 1 = .ok (.iconst 5, 1) := by decide +kernel
theorem dX11_kindNow_2 : decode cX11_kindNow 2 = .ok (.bipush 112, 2) := by decide +kernel
theorem dX11_kindNow_4 : decode cX11_kindNow 4 = .ok (.bipush 108, 2) := by decide +kernel
theorem dX11_kindNow_6 : decode cX11_kindNow 6 = .ok (.bipush 97, 2) := by decide +kernel
theorem dX11_kindNow_8 : decode cX11_kindNow 8 = .ok (.bipush 105, 2) := by decide +kernel
theorem dX11_kindNow_10 : decode cX11_kindNow 10 = .ok (.invokevirtual 140, 3) := by decide +kernel
theorem dX11_kindNow_13 : decode cX11_kindNow 13 = .ok (.ifCond .eq 20, 3) := by decide +kernel
theorem dX11_kindNow_16 : decode cX11_kindNow 16 = .ok (.aload_n 0, 1) := by decide +kernel
theorem dX11_kindNow_17 : decode cX11_kindNow 17 = .ok (.aload_n 0, 1) := by decide +kernel
theorem dX11_kindNow_18 : decode cX11_kindNow 18 = .ok (.getfield 127, 3) := by decide +kernel
theorem dX11_kindNow_21 : decode cX11_kindNow 21 = .ok (.iconst 4, 1) := by decide +kernel
theorem dX11_kindNow_22 : decode cX11_kindNow 22 = .ok (.iadd, 1) := by decide +kernel
theorem dX11_kindNow_23 : decode cX11_kindNow 23 = .ok (.invokevirtual 136, 3) := by decide +kernel
theorem dX11_kindNow_26 : decode cX11_kindNow 26 = .ok (.bipush 110, 2) := by decide +kernel
theorem dX11_kindNow_28 : decode cX11_kindNow 28 = .ok (.if_icmp .ne 5, 3) := by decide +kernel
theorem dX11_kindNow_31 : decode cX11_kindNow 31 = .ok (.iconst 0, 1) := by decide +kernel
theorem dX11_kindNow_32 : decode cX11_kindNow 32 = .ok (.ireturn, 1) := by decide +kernel
theorem dX11_kindNow_33 : decode cX11_kindNow 33 = .ok (.aload_n 0, 1) := by decide +kernel
theorem dX11_kindNow_34 : decode cX11_kindNow 34 = .ok (.bipush 6, 2) := by decide +kernel
theorem dX11_kindNow_36 : decode cX11_kindNow 36 = .ok (.bipush 116, 2) := by decide +kernel
theorem dX11_kindNow_38 : decode cX11_kindNow 38 = .ok (.bipush 117, 2) := by decide +kernel
theorem dX11_kindNow_40 : decode cX11_kindNow 40 = .ok (.bipush 114, 2) := by decide +kernel
theorem dX11_kindNow_42 : decode cX11_kindNow 42 = .ok (.bipush 110, 2) := by decide +kernel
theorem dX11_kindNow_44 : decode cX11_kindNow 44 = .ok (.invokevirtual 140, 3) := by decide +kernel
theorem dX11_kindNow_47 : decode cX11_kindNow 47 = .ok (.ifCond .eq 18, 3) := by decide +kernel
theorem dX11_kindNow_50 : decode cX11_kindNow 50 = .ok (.aload_n 0, 1) := by decide +kernel
theorem dX11_kindNow_51 : decode cX11_kindNow 51 = .ok (.iconst 4, 1) := by decide +kernel
theorem dX11_kindNow_52 : decode cX11_kindNow 52 = .ok (.bipush 101, 2) := by decide +kernel
theorem dX11_kindNow_54 : decode cX11_kindNow 54 = .ok (.bipush 100, 2) := by decide +kernel
theorem dX11_kindNow_56 : decode cX11_kindNow 56 = .ok (.iconst 0, 1) := by decide +kernel
theorem dX11_kindNow_57 : decode cX11_kindNow 57 = .ok (.invokevirtual 144, 3) := by decide +kernel
theorem dX11_kindNow_60 : decode cX11_kindNow 60 = .ok (.ifCond .eq 5, 3) := by decide +kernel
theorem dX11_kindNow_63 : decode cX11_kindNow 63 = .ok (.iconst 1, 1) := by decide +kernel
theorem dX11_kindNow_64 : decode cX11_kindNow 64 = .ok (.ireturn, 1) := by decide +kernel
theorem dX11_kindNow_65 : decode cX11_kindNow 65 = .ok (.aload_n 0, 1) := by decide +kernel
theorem dX11_kindNow_66 : decode cX11_kindNow 66 = .ok (.bipush 6, 2) := by decide +kernel
theorem dX11_kindNow_68 : decode cX11_kindNow 68 = .ok (.bipush 109, 2) := by decide +kernel
theorem dX11_kindNow_70 : decode cX11_kindNow 70 = .ok (.bipush 111, 2) := by decide +kernel
theorem dX11_kindNow_72 : decode cX11_kindNow 72 = .ok (.bipush 118, 2) := by decide +kernel
theorem dX11_kindNow_74 : decode cX11_kindNow 74 = .ok (.bipush 105, 2) := by decide +kernel
theorem dX11_kindNow_76 : decode cX11_kindNow 76 = .ok (.invokevirtual 140, 3) := by decide +kernel
theorem dX11_kindNow_79 : decode cX11_kindNow 79 = .ok (.ifCond .eq 18, 3) := by decide +kernel
theorem dX11_kindNow_82 : decode cX11_kindNow 82 = .ok (.aload_n 0, 1) := by decide +kernel
theorem dX11_kindNow_83 : decode cX11_kindNow 83 = .ok (.iconst 4, 1) := by decide +kernel
theorem dX11_kindNow_84 : decode cX11_kindNow 84 = .ok (.bipush 110, 2) := by decide +kernel
theorem dX11_kindNow_86 : decode cX11_kindNow 86 = .ok (.bipush 103, 2) := by decide +kernel
theorem dX11_kindNow_88 : decode cX11_kindNow 88 = .ok (.iconst 0, 1) := by decide +kernel
theorem dX11_kindNow_89 : decode cX11_kindNow 89 = .ok (.invokevirtual 144, 3) := by decide +kernel
theorem dX11_kindNow_92 : decode cX11_kindNow 92 = .ok (.ifCond .eq 5, 3) := by decide +kernel
theorem dX11_kindNow_95 : decode cX11_kindNow 95 = .ok (.iconst 2, 1) := by decide +kernel
theorem dX11_kindNow_96 : decode cX11_kindNow 96 = .ok (.ireturn, 1) := by decide +kernel
theorem dX11_kindNow_97 : decode cX11_kindNow 97 = .ok (.aload_n 0, 1) := by decide +kernel
theorem dX11_kindNow_98 : decode cX11_kindNow 98 = .ok (.bipush 6, 2) := by decide +kernel
theorem dX11_kindNow_100 : decode cX11_kindNow 100 = .ok (.bipush 114, 2) := by decide +kernel
theorem dX11_kindNow_102 : decode cX11_kindNow 102 = .ok (.bipush 97, 2) := by decide +kernel
theorem dX11_kindNow_104 : decode cX11_kindNow 104 = .ok (.bipush 105, 2) := by decide +kernel
theorem dX11_kindNow_106 : decode cX11_kindNow 106 = .ok (.bipush 115, 2) := by decide +kernel
theorem dX11_kindNow_108 : decode cX11_kindNow 108 = .ok (.invokevirtual 140, 3) := by decide +kernel
theorem dX11_kindNow_111 : decode cX11_kindNow 111 = .ok (.ifCond .eq 18, 3) := by decide +kernel
theorem dX11_kindNow_114 : decode cX11_kindNow 114 = .ok (.aload_n 0, 1) := by decide +kernel
theorem dX11_kindNow_115 : decode cX11_kindNow 115 = .ok (.iconst 4, 1) := by decide +kernel
theorem dX11_kindNow_116 : decode cX11_kindNow 116 = .ok (.bipush 101, 2) := by decide +kernel
theorem dX11_kindNow_118 : decode cX11_kindNow 118 = .ok (.bipush 100, 2) := by decide +kernel
theorem dX11_kindNow_120 : decode cX11_kindNow 120 = .ok (.iconst 0, 1) := by decide +kernel
theorem dX11_kindNow_121 : decode cX11_kindNow 121 = .ok (.invokevirtual 144, 3) := by decide +kernel
theorem dX11_kindNow_124 : decode cX11_kindNow 124 = .ok (.ifCond .eq 5, 3) := by decide +kernel
theorem dX11_kindNow_127 : decode cX11_kindNow 127 = .ok (.iconst 3, 1) := by decide +kernel
theorem dX11_kindNow_128 : decode cX11_kindNow 128 = .ok (.ireturn, 1) := by decide +kernel
theorem dX11_kindNow_129 : decode cX11_kindNow 129 = .ok (.aload_n 0, 1) := by decide +kernel
theorem dX11_kindNow_130 : decode cX11_kindNow 130 = .ok (.bipush 9, 2) := by decide +kernel
theorem dX11_kindNow_132 : decode cX11_kindNow 132 = .ok (.bipush 108, 2) := by decide +kernel
theorem dX11_kindNow_134 : decode cX11_kindNow 134 = .ok (.bipush 105, 2) := by decide +kernel
theorem dX11_kindNow_136 : decode cX11_kindNow 136 = .ok (.bipush 115, 2) := by decide +kernel
theorem dX11_kindNow_138 : decode cX11_kindNow 138 = .ok (.bipush 116, 2) := by decide +kernel
theorem dX11_kindNow_140 : decode cX11_kindNow 140 = .ok (.invokevirtual 140, 3) := by decide +kernel
theorem dX11_kindNow_143 : decode cX11_kindNow 143 = .ok (.ifCond .eq 35, 3) := by decide +kernel
theorem dX11_kindNow_146 : decode cX11_kindNow 146 = .ok (.aload_n 0, 1) := by decide +kernel
theorem dX11_kindNow_147 : decode cX11_kindNow 147 = .ok (.iconst 4, 1) := by decide +kernel
theorem dX11_kindNow_148 : decode cX11_kindNow 148 = .ok (.bipush 101, 2) := by decide +kernel
theorem dX11_kindNow_150 : decode cX11_kindNow 150 = .ok (.bipush 110, 2) := by decide +kernel
theorem dX11_kindNow_152 : decode cX11_kindNow 152 = .ok (.bipush 105, 2) := by decide +kernel
theorem dX11_kindNow_154 : decode cX11_kindNow 154 = .ok (.invokevirtual 144, 3) := by decide +kernel
theorem dX11_kindNow_157 : decode cX11_kindNow 157 = .ok (.ifCond .eq 21, 3) := by decide +kernel
theorem dX11_kindNow_160 : decode cX11_kindNow 160 = .ok (.aload_n 0, 1) := by decide +kernel
theorem dX11_kindNow_161 : decode cX11_kindNow 161 = .ok (.bipush 7, 2) := by decide +kernel
theorem dX11_kindNow_163 : decode cX11_kindNow 163 = .ok (.bipush 110, 2) := by decide +kernel
theorem dX11_kindNow_165 : decode cX11_kindNow 165 = .ok (.bipush 103, 2) := by decide +kernel
theorem dX11_kindNow_167 : decode cX11_kindNow 167 = .ok (.iconst 0, 1) := by decide +kernel
theorem dX11_kindNow_168 : decode cX11_kindNow 168 = .ok (.invokevirtual 144, 3) := by decide +kernel
theorem dX11_kindNow_171 : decode cX11_kindNow 171 = .ok (.ifCond .eq 7, 3) := by decide +kernel
theorem dX11_kindNow_174 : decode cX11_kindNow 174 = .ok (.iconst 4, 1) := by decide +kernel
theorem dX11_kindNow_175 : decode cX11_kindNow 175 = .ok (.goto 5, 3) := by decide +kernel
theorem dX11_kindNow_178 : decode cX11_kindNow 178 = .ok (.bipush (-4), 2) := by decide +kernel
theorem dX11_kindNow_180 : decode cX11_kindNow 180 = .ok (.ireturn, 1) := by decide +kernel
theorem dX11_next_0 : decode cX11_next 0 = .ok (.aload_n 0, 1) := by decide +kernel
theorem dX11_next_1 : decode cX11_next 1 = .ok (.getfield 124, 3) := by decide +kernel
theorem dX11_next_4 : decode cX11_next 4 = .ok (.ifCond .le 4, 3) := by decide +kernel
theorem dX11_next_7 : decode cX11_next 7 = .ok (.return_, 1) := by decide +kernel
theorem dX11_next_8 : decode cX11_next 8 = .ok (.aload_n 0, 1) := by decide +kernel
theorem dX11_next_9 : decode cX11_next 9 = .ok (.aload_n 0, 1) := by decide +kernel
theorem dX11_next_10 : decode cX11_next 10 = .ok (.getfield 133, 3) := by decide +kernel
theorem dX11_next_13 : decode cX11_next 13 = .ok (.invokevirtual 136, 3) := by decide +kernel
theorem dX11_next_16 : decode cX11_next 16 = .ok (.bipush 32, 2) := by decide +kernel
theorem dX11_next_18 : decode cX11_next 18 = .ok (.if_icmp .ne 16, 3) := by decide +kernel
theorem dX11_next_21 : decode cX11_next 21 = .ok (.aload_n 0, 1) := by decide +kernel
theorem dX11_next_22 : decode cX11_next 22 = .ok (.dup, 1) := by decide +kernel
theorem dX11_next_23 : decode cX11_next 23 = .ok (.getfield 133, 3) := by decide +kernel
theorem dX11_next_26 : decode cX11_next 26 = .ok (.iconst 1, 1) := by decide +kernel
theorem dX11_next_27 : decode cX11_next 27 = .ok (.iadd, 1) := by decide +kernel
theorem dX11_next_28 : decode cX11_next 28 = .ok (.putfield 133, 3) := by decide +kernel
theorem dX11_next_31 : decode cX11_next 31 = .ok (.goto (-23), 3) := by decide +kernel
theorem dX11_next_34 : decode cX11_next 34 = .ok (.aload_n 0, 1) := by decide +kernel
theorem dX11_next_35 : decode cX11_next 35 = .ok (.aload_n 0, 1) := by decide +kernel
theorem dX11_next_36 : decode cX11_next 36 = .ok (.getfield 133, 3) := by decide +kernel
theorem dX11_next_39 : decode cX11_next 39 = .ok (.putfield 127, 3) := by decide +kernel
theorem dX11_next_42 : decode cX11_next 42 = .ok (.aload_n 0, 1) := by decide +kernel
theorem dX11_next_43 : decode cX11_next 43 = .ok (.aload_n 0, 1) := by decide +kernel
theorem dX11_next_44 : decode cX11_next 44 = .ok (.getfield 133, 3) := by decide +kernel
theorem dX11_next_47 : decode cX11_next 47 = .ok (.invokevirtual 136, 3) := by decide +kernel
theorem dX11_next_50 : decode cX11_next 50 = .ok (.istore_n 1, 1) := by decide +kernel
theorem dX11_next_51 : decode cX11_next 51 = .ok (.iload_n 1, 1) := by decide +kernel
theorem dX11_next_52 : decode cX11_next 52 = .ok (.ifCond .ge 11, 3) := by decide +kernel
theorem dX11_next_55 : decode cX11_next 55 = .ok (.aload_n 0, 1) := by decide +kernel
theorem dX11_next_56 : decode cX11_next 56 = .ok (.iconst 0, 1) := by decide +kernel
theorem dX11_next_57 : decode cX11_next 57 = .ok (.putfield 151, 3) := by decide +kernel
theorem dX11_next_60 : decode cX11_next 60 = .ok (.goto 214, 3) := by decide +kernel
theorem dX11_next_63 : decode cX11_next 63 = .ok (.iload_n 1, 1) := by decide +kernel
theorem dX11_next_64 : decode cX11_next 64 = .ok (.i2l, 1) := by decide +kernel
theorem dX11_next_65 : decode cX11_next 65 = .ok (.ldc2_w 154, 3) := by decide +kernel
theorem dX11_next_68 : decode cX11_next 68 = .ok (.ldc2_w 156, 3) := by decide +kernel
theorem dX11_next_71 : decode cX11_next 71 = .ok (.invokestatic 120, 3) := by decide +kernel
theorem dX11_next_74 : decode cX11_next 74 = .ok (.ifCond .eq 42, 3) := by decide +kernel
theorem dX11_next_77 : decode cX11_next 77 = .ok (.aload_n 0, 1) := by decide +kernel
theorem dX11_next_78 : decode cX11_next 78 = .ok (.iconst 1, 1) := by decide +kernel
theorem dX11_next_79 : decode cX11_next 79 = .ok (.putfield 151, 3) := by decide +kernel
theorem dX11_next_82 : decode cX11_next 82 = .ok (.aload_n 0, 1) := by decide +kernel
theorem dX11_next_83 : decode cX11_next 83 = .ok (.aload_n 0, 1) := by decide +kernel
theorem dX11_next_84 : decode cX11_next 84 = .ok (.getfield 133, 3) := by decide +kernel
theorem dX11_next_87 : decode cX11_next 87 = .ok (.invokevirtual 136, 3) := by decide +kernel
theorem dX11_next_90 : decode cX11_next 90 = .ok (.i2l, 1) := by decide +kernel
theorem dX11_next_91 : decode cX11_next 91 = .ok (.ldc2_w 154, 3) := by decide +kernel
theorem dX11_next_94 : decode cX11_next 94 = .ok (.ldc2_w 156, 3) := by decide +kernel
theorem dX11_next_97 : decode cX11_next 97 = .ok (.invokestatic 120, 3) := by decide +kernel
theorem dX11_next_100 : decode cX11_next 100 = .ok (.ifCond .eq 174, 3) := by decide +kernel
theorem dX11_next_103 : decode cX11_next 103 = .ok (.aload_n 0, 1) := by decide +kernel
theorem dX11_next_104 : decode cX11_next 104 = .ok (.dup, 1) := by decide +kernel
theorem dX11_next_105 : decode cX11_next 105 = .ok (.getfield 133, 3) := by decide +kernel
theorem dX11_next_108 : decode cX11_next 108 = .ok (.iconst 1, 1) := by decide +kernel
theorem dX11_next_109 : decode cX11_next 109 = .ok (.iadd, 1) := by decide +kernel
theorem dX11_next_110 : decode cX11_next 110 = .ok (.putfield 133, 3) := by decide +kernel
theorem dX11_next_113 : decode cX11_next 113 = .ok (.goto (-31), 3) := by decide +kernel
theorem dX11_next_116 : decode cX11_next 116 = .ok (.iload_n 1, 1) := by decide +kernel
theorem dX11_next_117 : decode cX11_next 117 = .ok (.i2l, 1) := by decide +kernel
theorem dX11_next_118 : decode cX11_next 118 = .ok (.ldc2_w 158, 3) := by decide +kernel
theorem dX11_next_121 : decode cX11_next 121 = .ok (.ldc2_w 160, 3) := by decide +kernel
theorem dX11_next_124 : decode cX11_next 124 = .ok (.invokestatic 120, 3) := by decide +kernel
theorem dX11_next_127 : decode cX11_next 127 = .ok (.ifCond .eq 116, 3) := by decide +kernel
theorem dX11_next_130 : decode cX11_next 130 = .ok (.aload_n 0, 1) := by decide +kernel
theorem dX11_next_131 : decode cX11_next 131 = .ok (.iconst 2, 1) := by decide +kernel
theorem dX11_next_132 : decode cX11_next 132 = .ok (.putfield 151, 3) := by decide +kernel
theorem dX11_next_135 : decode cX11_next 135 = .ok (.aload_n 0, 1) := by decide +kernel
theorem dX11_next_136 : decode cX11_next 136 = .ok (.iconst 0, 1) := by decide +kernel
theorem dX11_next_137 : decode cX11_next 137 = .ok (.putfield 162, 3) := by decide +kernel
theorem dX11_next_140 : decode cX11_next 140 = .ok (.aload_n 0, 1) := by decide +kernel
theorem dX11_next_141 : decode cX11_next 141 = .ok (.aload_n 0, 1) := by decide +kernel
theorem dX11_next_142 : decode cX11_next 142 = .ok (.getfield 133, 3) := by decide +kernel
theorem dX11_next_145 : decode cX11_next 145 = .ok (.invokevirtual 136, 3) := by decide +kernel
theorem dX11_next_148 : decode cX11_next 148 = .ok (.i2l, 1) := by decide +kernel
theorem dX11_next_149 : decode cX11_next 149 = .ok (.ldc2_w 158, 3) := by decide +kernel
theorem dX11_next_152 : decode cX11_next 152 = .ok (.ldc2_w 160, 3) := by decide +kernel
theorem dX11_next_155 : decode cX11_next 155 = .ok (.invokestatic 120, 3) := by decide +kernel
theorem dX11_next_158 : decode cX11_next 158 = .ok (.ifCond .eq 59, 3) := by decide +kernel
theorem dX11_next_161 : decode cX11_next 161 = .ok (.aload_n 0, 1) := by decide +kernel
theorem dX11_next_162 : decode cX11_next 162 = .ok (.aload_n 0, 1) := by decide +kernel
theorem dX11_next_163 : decode cX11_next 163 = .ok (.getfield 133, 3) := by decide +kernel
theorem dX11_next_166 : decode cX11_next 166 = .ok (.aload_n 0, 1) := by decide +kernel
theorem dX11_next_167 : decode cX11_next 167 = .ok (.getfield 127, 3) := by decide +kernel
theorem dX11_next_170 : decode cX11_next 170 = .ok (.isub, 1) := by decide +kernel
theorem dX11_next_171 : decode cX11_next 171 = .ok (.iconst 3, 1) := by decide +kernel
theorem dX11_next_172 : decode cX11_next 172 = .ok (.if_icmp .ge 25, 3) := by decide +kernel
theorem dX11_next_175 : decode cX11_next 175 = .ok (.bipush 10, 2) := by decide +kernel
theorem dX11_next_177 : decode cX11_next 177 = .ok (.aload_n 0, 1) := by decide +kernel
theorem dX11_next_178 : decode cX11_next 178 = .ok (.getfield 162, 3) := by decide +kernel
theorem dX11_next_181 : decode cX11_next 181 = .ok (.imul, 1) := by decide +kernel
theorem dX11_next_182 : decode cX11_next 182 = .ok (.aload_n 0, 1) := by decide +kernel
theorem dX11_next_183 : decode cX11_next 183 = .ok (.aload_n 0, 1) := by decide +kernel
theorem dX11_next_184 : decode cX11_next 184 = .ok (.getfield 133, 3) := by decide +kernel
theorem dX11_next_187 : decode cX11_next 187 = .ok (.invokevirtual 136, 3) := by decide +kernel
theorem dX11_next_190 : decode cX11_next 190 = .ok (.iadd, 1) := by decide +kernel
theorem dX11_next_191 : decode cX11_next 191 = .ok (.bipush 48, 2) := by decide +kernel
theorem dX11_next_193 : decode cX11_next 193 = .ok (.isub, 1) := by decide +kernel
theorem dX11_next_194 : decode cX11_next 194 = .ok (.goto 7, 3) := by decide +kernel
theorem dX11_next_197 : decode cX11_next 197 = .ok (.aload_n 0, 1) := by decide +kernel
theorem dX11_next_198 : decode cX11_next 198 = .ok (.getfield 162, 3) := by decide +kernel
theorem dX11_next_201 : decode cX11_next 201 = .ok (.putfield 162, 3) := by decide +kernel
theorem dX11_next_204 : decode cX11_next 204 = .ok (.aload_n 0, 1) := by decide +kernel
theorem dX11_next_205 : decode cX11_next 205 = .ok (.dup, 1) := by decide +kernel
theorem dX11_next_206 : decode cX11_next 206 = .ok (.getfield 133, 3) := by decide +kernel
theorem dX11_next_209 : decode cX11_next 209 = .ok (.iconst 1, 1) := by decide +kernel
theorem dX11_next_210 : decode cX11_next 210 = .ok (.iadd, 1) := by decide +kernel
theorem dX11_next_211 : decode cX11_next 211 = .ok (.putfield 133, 3) := by decide +kernel
theorem dX11_next_214 : decode cX11_next 214 = .ok (.goto (-74), 3) := by decide +kernel
theorem dX11_next_217 : decode cX11_next 217 = .ok (.aload_n 0, 1) := by decide +kernel
theorem dX11_next_218 : decode cX11_next 218 = .ok (.aload_n 0, 1) := by decide +kernel
theorem dX11_next_219 : decode cX11_next 219 = .ok (.getfield 133, 3) := by decide +kernel
theorem dX11_next_222 : decode cX11_next 222 = .ok (.aload_n 0, 1) := by decide +kernel
theorem dX11_next_223 : decode cX11_next 223 = .ok (.getfield 127, 3) := by decide +kernel
theorem dX11_next_226 : decode cX11_next 226 = .ok (.isub, 1) := by decide +kernel
theorem dX11_next_227 : decode cX11_next 227 = .ok (.iconst 3, 1) := by decide +kernel
theorem dX11_next_228 : decode cX11_next 228 = .ok (.if_icmp .gt 7, 3) := by decide +kernel
theorem dX11_next_231 : decode cX11_next 231 = .ok (.iconst 1, 1) := by decide +kernel
theorem dX11_next_232 : decode cX11_next 232 = .ok (.goto 4, 3) := by decide +kernel
theorem dX11_next_235 : decode cX11_next 235 = .ok (.iconst 0, 1) := by decide +kernel
theorem dX11_next_236 : decode cX11_next 236 = .ok (.iconst 1, 1) := by decide +kernel
theorem dX11_next_237 : decode cX11_next 237 = .ok (.invokevirtual 165, 3) := by decide +kernel
theorem dX11_next_240 : decode cX11_next 240 = .ok (.goto 34, 3) := by decide +kernel
theorem dX11_next_243 : decode cX11_next 243 = .ok (.aload_n 0, 1) := by decide +kernel
theorem dX11_next_244 : decode cX11_next 244 = .ok (.iconst 3, 1) := by decide +kernel
theorem dX11_next_245 : decode cX11_next 245 = .ok (.putfield 151, 3) := by decide +kernel
theorem dX11_next_248 : decode cX11_next 248 = .ok (.aload_n 0, 1) := by decide +kernel
theorem dX11_next_249 : decode cX11_next 249 = .ok (.iload_n 1, 1) := by decide +kernel
theorem dX11_next_250 : decode cX11_next 250 = .ok (.bipush 59, 2) := by decide +kernel
theorem dX11_next_252 : decode cX11_next 252 = .ok (.if_icmp .ne 7, 3) := by decide +kernel
theorem dX11_next_255 : decode cX11_next 255 = .ok (.iconst 1, 1) := by decide +kernel
theorem dX11_next_256 : decode cX11_next 256 = .ok (.goto 4, 3) := by decide +kernel
theorem dX11_next_259 : decode cX11_next 259 = .ok (.iconst 0, 1) := by decide +kernel
theorem dX11_next_260 : decode cX11_next 260 = .ok (.iconst 1, 1) := by decide +kernel
theorem dX11_next_261 : decode cX11_next 261 = .ok (.invokevirtual 165, 3) := by decide +kernel
theorem dX11_next_264 : decode cX11_next 264 = .ok (.aload_n 0, 1) := by decide +kernel
theorem dX11_next_265 : decode cX11_next 265 = .ok (.dup, 1) := by decide +kernel
theorem dX11_next_266 : decode cX11_next 266 = .ok (.getfield 133, 3) := by decide +kernel
theorem dX11_next_269 : decode cX11_next 269 = .ok (.iconst 1, 1) := by decide +kernel
theorem dX11_next_270 : decode cX11_next 270 = .ok (.iadd, 1) := by decide +kernel
theorem dX11_next_271 : decode cX11_next 271 = .ok (.putfield 133, 3) := by decide +kernel
theorem dX11_next_274 : decode cX11_next 274 = .ok (.return_, 1) := by decide +kernel
theorem dX11_looked_0 : decode cX11_looked 0 = .ok (.aload_n 0, 1) := by decide +kernel
theorem dX11_looked_1 : decode cX11_looked 1 = .ok (.getfield 124, 3) := by decide +kernel
theorem dX11_looked_4 : decode cX11_looked 4 = .ok (.ifCond .ne 21, 3) := by decide +kernel
theorem dX11_looked_7 : decode cX11_looked 7 = .ok (.aload_n 0, 1) := by decide +kernel
theorem dX11_looked_8 : decode cX11_looked 8 = .ok (.aload_n 0, 1) := by decide +kernel
theorem dX11_looked_9 : decode cX11_looked 9 = .ok (.getfield 151, 3) := by decide +kernel
theorem dX11_looked_12 : decode cX11_looked 12 = .ok (.iconst 2, 1) := by decide +kernel
theorem dX11_looked_13 : decode cX11_looked 13 = .ok (.if_icmp .ne 7, 3) := by decide +kernel
theorem dX11_looked_16 : decode cX11_looked 16 = .ok (.iconst 1, 1) := by decide +kernel
theorem dX11_looked_17 : decode cX11_looked 17 = .ok (.goto 4, 3) := by decide +kernel
theorem dX11_looked_20 : decode cX11_looked 20 = .ok (.iconst 0, 1) := by decide +kernel
theorem dX11_looked_21 : decode cX11_looked 21 = .ok (.iconst 2, 1) := by decide +kernel
theorem dX11_looked_22 : decode cX11_looked 22 = .ok (.invokevirtual 165, 3) := by decide +kernel
theorem dX11_looked_25 : decode cX11_looked 25 = .ok (.aload_n 0, 1) := by decide +kernel
theorem dX11_looked_26 : decode cX11_looked 26 = .ok (.getfield 124, 3) := by decide +kernel
theorem dX11_looked_29 : decode cX11_looked 29 = .ok (.ifCond .ne 20, 3) := by decide +kernel
theorem dX11_looked_32 : decode cX11_looked 32 = .ok (.aload_n 0, 1) := by decide +kernel
theorem dX11_looked_33 : decode cX11_looked 33 = .ok (.aload_n 0, 1) := by decide +kernel
theorem dX11_looked_34 : decode cX11_looked 34 = .ok (.getfield 162, 3) := by decide +kernel
theorem dX11_looked_37 : decode cX11_looked 37 = .ok (.i2l, 1) := by decide +kernel
theorem dX11_looked_38 : decode cX11_looked 38 = .ok (.iload_n 1, 1) := by decide +kernel
theorem dX11_looked_39 : decode cX11_looked 39 = .ok (.i2l, 1) := by decide +kernel
theorem dX11_looked_40 : decode cX11_looked 40 = .ok (.iload_n 2, 1) := by decide +kernel
theorem dX11_looked_41 : decode cX11_looked 41 = .ok (.i2l, 1) := by decide +kernel
theorem dX11_looked_42 : decode cX11_looked 42 = .ok (.invokestatic 120, 3) := by decide +kernel
theorem dX11_looked_45 : decode cX11_looked 45 = .ok (.iconst 3, 1) := by decide +kernel
theorem dX11_looked_46 : decode cX11_looked 46 = .ok (.invokevirtual 165, 3) := by decide +kernel
theorem dX11_looked_49 : decode cX11_looked 49 = .ok (.aload_n 0, 1) := by decide +kernel
theorem dX11_looked_50 : decode cX11_looked 50 = .ok (.getfield 124, 3) := by decide +kernel
theorem dX11_looked_53 : decode cX11_looked 53 = .ok (.ifCond .ne 10, 3) := by decide +kernel
theorem dX11_looked_56 : decode cX11_looked 56 = .ok (.aload_n 0, 1) := by decide +kernel
theorem dX11_looked_57 : decode cX11_looked 57 = .ok (.getfield 162, 3) := by decide +kernel
theorem dX11_looked_60 : decode cX11_looked 60 = .ok (.goto 4, 3) := by decide +kernel
theorem dX11_looked_63 : decode cX11_looked 63 = .ok (.iconst 0, 1) := by decide +kernel
theorem dX11_looked_64 : decode cX11_looked 64 = .ok (.ireturn, 1) := by decide +kernel
theorem dX11_readNumber_0 : decode cX11_readNumber 0 = .ok (.aload_n 0, 1) := by decide +kernel
theorem dX11_readNumber_1 : decode cX11_readNumber 1 = .ok (.iload_n 1, 1) := by decide +kernel
theorem dX11_readNumber_2 : decode cX11_readNumber 2 = .ok (.iload_n 2, 1) := by decide +kernel
theorem dX11_readNumber_3 : decode cX11_readNumber 3 = .ok (.invokevirtual 169, 3) := by decide +kernel
theorem dX11_readNumber_6 : decode cX11_readNumber 6 = .ok (.istore_n 3, 1) := by decide +kernel
theorem dX11_readNumber_7 : decode cX11_readNumber 7 = .ok (.aload_n 0, 1) := by decide +kernel
theorem dX11_readNumber_8 : decode cX11_readNumber 8 = .ok (.invokevirtual 173, 3) := by decide +kernel
theorem dX11_readNumber_11 : decode cX11_readNumber 11 = .ok (.iload_n 3, 1) := by decide +kernel
theorem dX11_readNumber_12 : decode cX11_readNumber 12 = .ok (.ireturn, 1) := by decide +kernel
theorem dX11_readCell_0 : decode cX11_readCell 0 = .ok (.aload_n 0, 1) := by decide +kernel
theorem dX11_readCell_1 : decode cX11_readCell 1 = .ok (.iconst 0, 1) := by decide +kernel
theorem dX11_readCell_2 : decode cX11_readCell 2 = .ok (.bipush 8, 2) := by decide +kernel
theorem dX11_readCell_4 : decode cX11_readCell 4 = .ok (.invokevirtual 176, 3) := by decide +kernel
theorem dX11_readCell_7 : decode cX11_readCell 7 = .ok (.istore_n 2, 1) := by decide +kernel
theorem dX11_readCell_8 : decode cX11_readCell 8 = .ok (.aload_n 0, 1) := by decide +kernel
theorem dX11_readCell_9 : decode cX11_readCell 9 = .ok (.iconst 0, 1) := by decide +kernel
theorem dX11_readCell_10 : decode cX11_readCell 10 = .ok (.bipush 8, 2) := by decide +kernel
theorem dX11_readCell_12 : decode cX11_readCell 12 = .ok (.invokevirtual 169, 3) := by decide +kernel
theorem dX11_readCell_15 : decode cX11_readCell 15 = .ok (.istore_n 3, 1) := by decide +kernel
theorem dX11_readCell_16 : decode cX11_readCell 16 = .ok (.aload_n 0, 1) := by decide +kernel
theorem dX11_readCell_17 : decode cX11_readCell 17 = .ok (.getfield 124, 3) := by decide +kernel
theorem dX11_readCell_20 : decode cX11_readCell 20 = .ok (.ifCond .ne 31, 3) := by decide +kernel
theorem dX11_readCell_23 : decode cX11_readCell 23 = .ok (.iload_n 1, 1) := by decide +kernel
theorem dX11_readCell_24 : decode cX11_readCell 24 = .ok (.ifCond .eq 27, 3) := by decide +kernel
theorem dX11_readCell_27 : decode cX11_readCell 27 = .ok (.aload_n 0, 1) := by decide +kernel
theorem dX11_readCell_28 : decode cX11_readCell 28 = .ok (.aload_n 0, 1) := by decide +kernel
theorem dX11_readCell_29 : decode cX11_readCell 29 = .ok (.getfield 23, 3) := by decide +kernel
theorem dX11_readCell_32 : decode cX11_readCell 32 = .ok (.bipush 9, 2) := by decide +kernel
theorem dX11_readCell_34 : decode cX11_readCell 34 = .ok (.iload_n 3, 1) := by decide +kernel
theorem dX11_readCell_35 : decode cX11_readCell 35 = .ok (.imul, 1) := by decide +kernel
theorem dX11_readCell_36 : decode cX11_readCell 36 = .ok (.iload_n 2, 1) := by decide +kernel
theorem dX11_readCell_37 : decode cX11_readCell 37 = .ok (.iadd, 1) := by decide +kernel
theorem dX11_readCell_38 : decode cX11_readCell 38 = .ok (.iaload, 1) := by decide +kernel
theorem dX11_readCell_39 : decode cX11_readCell 39 = .ok (.ifCond .ne 7, 3) := by decide +kernel
theorem dX11_readCell_42 : decode cX11_readCell 42 = .ok (.iconst 1, 1) := by decide +kernel
theorem dX11_readCell_43 : decode cX11_readCell 43 = .ok (.goto 4, 3) := by decide +kernel
theorem dX11_readCell_46 : decode cX11_readCell 46 = .ok (.iconst 0, 1) := by decide +kernel
theorem dX11_readCell_47 : decode cX11_readCell 47 = .ok (.iconst 4, 1) := by decide +kernel
theorem dX11_readCell_48 : decode cX11_readCell 48 = .ok (.invokevirtual 165, 3) := by decide +kernel
theorem dX11_readCell_51 : decode cX11_readCell 51 = .ok (.aload_n 0, 1) := by decide +kernel
theorem dX11_readCell_52 : decode cX11_readCell 52 = .ok (.invokevirtual 173, 3) := by decide +kernel
theorem dX11_readCell_55 : decode cX11_readCell 55 = .ok (.aload_n 0, 1) := by decide +kernel
theorem dX11_readCell_56 : decode cX11_readCell 56 = .ok (.iload_n 2, 1) := by decide +kernel
theorem dX11_readCell_57 : decode cX11_readCell 57 = .ok (.aload_n 0, 1) := by decide +kernel
theorem dX11_readCell_58 : decode cX11_readCell 58 = .ok (.getfield 81, 3) := by decide +kernel
theorem dX11_readCell_61 : decode cX11_readCell 61 = .ok (.if_icmp .le 7, 3) := by decide +kernel
theorem dX11_readCell_64 : decode cX11_readCell 64 = .ok (.iload_n 2, 1) := by decide +kernel
theorem dX11_readCell_65 : decode cX11_readCell 65 = .ok (.goto 7, 3) := by decide +kernel
theorem dX11_readCell_68 : decode cX11_readCell 68 = .ok (.aload_n 0, 1) := by decide +kernel
theorem dX11_readCell_69 : decode cX11_readCell 69 = .ok (.getfield 81, 3) := by decide +kernel
theorem dX11_readCell_72 : decode cX11_readCell 72 = .ok (.putfield 81, 3) := by decide +kernel
theorem dX11_readCell_75 : decode cX11_readCell 75 = .ok (.aload_n 0, 1) := by decide +kernel
theorem dX11_readCell_76 : decode cX11_readCell 76 = .ok (.iload_n 3, 1) := by decide +kernel
theorem dX11_readCell_77 : decode cX11_readCell 77 = .ok (.aload_n 0, 1) := by decide +kernel
theorem dX11_readCell_78 : decode cX11_readCell 78 = .ok (.getfield 84, 3) := by decide +kernel
theorem dX11_readCell_81 : decode cX11_readCell 81 = .ok (.if_icmp .le 7, 3) := by decide +kernel
theorem dX11_readCell_84 : decode cX11_readCell 84 = .ok (.iload_n 3, 1) := by decide +kernel
theorem dX11_readCell_85 : decode cX11_readCell 85 = .ok (.goto 7, 3) := by decide +kernel
theorem dX11_readCell_88 : decode cX11_readCell 88 = .ok (.aload_n 0, 1) := by decide +kernel
theorem dX11_readCell_89 : decode cX11_readCell 89 = .ok (.getfield 84, 3) := by decide +kernel
theorem dX11_readCell_92 : decode cX11_readCell 92 = .ok (.putfield 84, 3) := by decide +kernel
theorem dX11_readCell_95 : decode cX11_readCell 95 = .ok (.bipush 9, 2) := by decide +kernel
theorem dX11_readCell_97 : decode cX11_readCell 97 = .ok (.iload_n 3, 1) := by decide +kernel
theorem dX11_readCell_98 : decode cX11_readCell 98 = .ok (.imul, 1) := by decide +kernel
theorem dX11_readCell_99 : decode cX11_readCell 99 = .ok (.iload_n 2, 1) := by decide +kernel
theorem dX11_readCell_100 : decode cX11_readCell 100 = .ok (.iadd, 1) := by decide +kernel
theorem dX11_readCell_101 : decode cX11_readCell 101 = .ok (.ireturn, 1) := by decide +kernel
theorem dX11_readOne_0 : decode cX11_readOne 0 = .ok (.aload_n 0, 1) := by decide +kernel
theorem dX11_readOne_1 : decode cX11_readOne 1 = .ok (.iconst 0, 1) := by decide +kernel
theorem dX11_readOne_2 : decode cX11_readOne 2 = .ok (.iconst 5, 1) := by decide +kernel
theorem dX11_readOne_3 : decode cX11_readOne 3 = .ok (.invokevirtual 169, 3) := by decide +kernel
theorem dX11_readOne_6 : decode cX11_readOne 6 = .ok (.istore_n 2, 1) := by decide +kernel
theorem dX11_readOne_7 : decode cX11_readOne 7 = .ok (.aload_n 0, 1) := by decide +kernel
theorem dX11_readOne_8 : decode cX11_readOne 8 = .ok (.getfield 124, 3) := by decide +kernel
theorem dX11_readOne_11 : decode cX11_readOne 11 = .ok (.ifCond .ne 18, 3) := by decide +kernel
theorem dX11_readOne_14 : decode cX11_readOne 14 = .ok (.aload_n 0, 1) := by decide +kernel
theorem dX11_readOne_15 : decode cX11_readOne 15 = .ok (.iload_n 2, 1) := by decide +kernel
theorem dX11_readOne_16 : decode cX11_readOne 16 = .ok (.iload_n 1, 1) := by decide +kernel
theorem dX11_readOne_17 : decode cX11_readOne 17 = .ok (.if_icmp .eq 7, 3) := by decide +kernel
theorem dX11_readOne_20 : decode cX11_readOne 20 = .ok (.iconst 1, 1) := by decide +kernel
theorem dX11_readOne_21 : decode cX11_readOne 21 = .ok (.goto 4, 3) := by decide +kernel
theorem dX11_readOne_24 : decode cX11_readOne 24 = .ok (.iconst 0, 1) := by decide +kernel
theorem dX11_readOne_25 : decode cX11_readOne 25 = .ok (.iconst 4, 1) := by decide +kernel
theorem dX11_readOne_26 : decode cX11_readOne 26 = .ok (.invokevirtual 165, 3) := by decide +kernel
theorem dX11_readOne_29 : decode cX11_readOne 29 = .ok (.aload_n 0, 1) := by decide +kernel
theorem dX11_readOne_30 : decode cX11_readOne 30 = .ok (.invokevirtual 173, 3) := by decide +kernel
theorem dX11_readOne_33 : decode cX11_readOne 33 = .ok (.aload_n 0, 1) := by decide +kernel
theorem dX11_readOne_34 : decode cX11_readOne 34 = .ok (.iload_n 2, 1) := by decide +kernel
theorem dX11_readOne_35 : decode cX11_readOne 35 = .ok (.aload_n 0, 1) := by decide +kernel
theorem dX11_readOne_36 : decode cX11_readOne 36 = .ok (.getfield 78, 3) := by decide +kernel
theorem dX11_readOne_39 : decode cX11_readOne 39 = .ok (.if_icmp .le 7, 3) := by decide +kernel
theorem dX11_readOne_42 : decode cX11_readOne 42 = .ok (.iload_n 2, 1) := by decide +kernel
theorem dX11_readOne_43 : decode cX11_readOne 43 = .ok (.goto 7, 3) := by decide +kernel
theorem dX11_readOne_46 : decode cX11_readOne 46 = .ok (.aload_n 0, 1) := by decide +kernel
theorem dX11_readOne_47 : decode cX11_readOne 47 = .ok (.getfield 78, 3) := by decide +kernel
theorem dX11_readOne_50 : decode cX11_readOne 50 = .ok (.putfield 78, 3) := by decide +kernel
theorem dX11_readOne_53 : decode cX11_readOne 53 = .ok (.iload_n 2, 1) := by decide +kernel
theorem dX11_readOne_54 : decode cX11_readOne 54 = .ok (.ireturn, 1) := by decide +kernel
theorem dX11_readBench_0 : decode cX11_readBench 0 = .ok (.iconst 4, 1) := by decide +kernel
theorem dX11_readBench_1 : decode cX11_readBench 1 = .ok (.aload_n 0, 1) := by decide +kernel
theorem dX11_readBench_2 : decode cX11_readBench 2 = .ok (.getfield 71, 3) := by decide +kernel
theorem dX11_readBench_5 : decode cX11_readBench 5 = .ok (.imul, 1) := by decide +kernel
theorem dX11_readBench_6 : decode cX11_readBench 6 = .ok (.istore_n 1, 1) := by decide +kernel
theorem dX11_readBench_7 : decode cX11_readBench 7 = .ok (.aload_n 0, 1) := by decide +kernel
theorem dX11_readBench_8 : decode cX11_readBench 8 = .ok (.getfield 26, 3) := by decide +kernel
theorem dX11_readBench_11 : decode cX11_readBench 11 = .ok (.iload_n 1, 1) := by decide +kernel
theorem dX11_readBench_12 : decode cX11_readBench 12 = .ok (.aload_n 0, 1) := by decide +kernel
theorem dX11_readBench_13 : decode cX11_readBench 13 = .ok (.iconst 0, 1) := by decide +kernel
theorem dX11_readBench_14 : decode cX11_readBench 14 = .ok (.invokevirtual 179, 3) := by decide +kernel
theorem dX11_readBench_17 : decode cX11_readBench 17 = .ok (.iastore, 1) := by decide +kernel
theorem dX11_readBench_18 : decode cX11_readBench 18 = .ok (.aload_n 0, 1) := by decide +kernel
theorem dX11_readBench_19 : decode cX11_readBench 19 = .ok (.getfield 26, 3) := by decide +kernel
theorem dX11_readBench_22 : decode cX11_readBench 22 = .ok (.iload_n 1, 1) := by decide +kernel
theorem dX11_readBench_23 : decode cX11_readBench 23 = .ok (.iconst 1, 1) := by decide +kernel
theorem dX11_readBench_24 : decode cX11_readBench 24 = .ok (.iadd, 1) := by decide +kernel
theorem dX11_readBench_25 : decode cX11_readBench 25 = .ok (.aload_n 0, 1) := by decide +kernel
theorem dX11_readBench_26 : decode cX11_readBench 26 = .ok (.iconst 0, 1) := by decide +kernel
theorem dX11_readBench_27 : decode cX11_readBench 27 = .ok (.bipush 7, 2) := by decide +kernel
theorem dX11_readBench_29 : decode cX11_readBench 29 = .ok (.invokevirtual 176, 3) := by decide +kernel
theorem dX11_readBench_32 : decode cX11_readBench 32 = .ok (.iastore, 1) := by decide +kernel
theorem dX11_readBench_33 : decode cX11_readBench 33 = .ok (.aload_n 0, 1) := by decide +kernel
theorem dX11_readBench_34 : decode cX11_readBench 34 = .ok (.getfield 26, 3) := by decide +kernel
theorem dX11_readBench_37 : decode cX11_readBench 37 = .ok (.iload_n 1, 1) := by decide +kernel
theorem dX11_readBench_38 : decode cX11_readBench 38 = .ok (.iconst 2, 1) := by decide +kernel
theorem dX11_readBench_39 : decode cX11_readBench 39 = .ok (.iadd, 1) := by decide +kernel
theorem dX11_readBench_40 : decode cX11_readBench 40 = .ok (.aload_n 0, 1) := by decide +kernel
theorem dX11_readBench_41 : decode cX11_readBench 41 = .ok (.iconst 1, 1) := by decide +kernel
theorem dX11_readBench_42 : decode cX11_readBench 42 = .ok (.bipush 100, 2) := by decide +kernel
theorem dX11_readBench_44 : decode cX11_readBench 44 = .ok (.invokevirtual 176, 3) := by decide +kernel
theorem dX11_readBench_47 : decode cX11_readBench 47 = .ok (.iastore, 1) := by decide +kernel
theorem dX11_readBench_48 : decode cX11_readBench 48 = .ok (.aload_n 0, 1) := by decide +kernel
theorem dX11_readBench_49 : decode cX11_readBench 49 = .ok (.getfield 26, 3) := by decide +kernel
theorem dX11_readBench_52 : decode cX11_readBench 52 = .ok (.iload_n 1, 1) := by decide +kernel
theorem dX11_readBench_53 : decode cX11_readBench 53 = .ok (.iconst 3, 1) := by decide +kernel
theorem dX11_readBench_54 : decode cX11_readBench 54 = .ok (.iadd, 1) := by decide +kernel
theorem dX11_readBench_55 : decode cX11_readBench 55 = .ok (.iconst 0, 1) := by decide +kernel
theorem dX11_readBench_56 : decode cX11_readBench 56 = .ok (.iastore, 1) := by decide +kernel
theorem dX11_readBench_57 : decode cX11_readBench 57 = .ok (.aload_n 0, 1) := by decide +kernel
theorem dX11_readBench_58 : decode cX11_readBench 58 = .ok (.getfield 124, 3) := by decide +kernel
theorem dX11_readBench_61 : decode cX11_readBench 61 = .ok (.ifCond .ne 45, 3) := by decide +kernel
theorem dX11_readBench_64 : decode cX11_readBench 64 = .ok (.aload_n 0, 1) := by decide +kernel
theorem dX11_readBench_65 : decode cX11_readBench 65 = .ok (.getfield 151, 3) := by decide +kernel
theorem dX11_readBench_68 : decode cX11_readBench 68 = .ok (.iconst 1, 1) := by decide +kernel
theorem dX11_readBench_69 : decode cX11_readBench 69 = .ok (.if_icmp .ne 37, 3) := by decide +kernel
theorem dX11_readBench_72 : decode cX11_readBench 72 = .ok (.aload_n 0, 1) := by decide +kernel
theorem dX11_readBench_73 : decode cX11_readBench 73 = .ok (.invokevirtual 183, 3) := by decide +kernel
theorem dX11_readBench_76 : decode cX11_readBench 76 = .ok (.istore_n 2, 1) := by decide +kernel
theorem dX11_readBench_77 : decode cX11_readBench 77 = .ok (.aload_n 0, 1) := by decide +kernel
theorem dX11_readBench_78 : decode cX11_readBench 78 = .ok (.iload_n 2, 1) := by decide +kernel
theorem dX11_readBench_79 : decode cX11_readBench 79 = .ok (.bipush (-4), 2) := by decide +kernel
theorem dX11_readBench_81 : decode cX11_readBench 81 = .ok (.if_icmp .eq 7, 3) := by decide +kernel
theorem dX11_readBench_84 : decode cX11_readBench 84 = .ok (.iconst 1, 1) := by decide +kernel
theorem dX11_readBench_85 : decode cX11_readBench 85 = .ok (.goto 4, 3) := by decide +kernel
theorem dX11_readBench_88 : decode cX11_readBench 88 = .ok (.iconst 0, 1) := by decide +kernel
theorem dX11_readBench_89 : decode cX11_readBench 89 = .ok (.iconst 2, 1) := by decide +kernel
theorem dX11_readBench_90 : decode cX11_readBench 90 = .ok (.invokevirtual 165, 3) := by decide +kernel
theorem dX11_readBench_93 : decode cX11_readBench 93 = .ok (.aload_n 0, 1) := by decide +kernel
theorem dX11_readBench_94 : decode cX11_readBench 94 = .ok (.getfield 26, 3) := by decide +kernel
theorem dX11_readBench_97 : decode cX11_readBench 97 = .ok (.iload_n 1, 1) := by decide +kernel
theorem dX11_readBench_98 : decode cX11_readBench 98 = .ok (.iconst 3, 1) := by decide +kernel
theorem dX11_readBench_99 : decode cX11_readBench 99 = .ok (.iadd, 1) := by decide +kernel
theorem dX11_readBench_100 : decode cX11_readBench 100 = .ok (.iload_n 2, 1) := by decide +kernel
theorem dX11_readBench_101 : decode cX11_readBench 101 = .ok (.iastore, 1) := by decide +kernel
theorem dX11_readBench_102 : decode cX11_readBench 102 = .ok (.aload_n 0, 1) := by decide +kernel
theorem dX11_readBench_103 : decode cX11_readBench 103 = .ok (.invokevirtual 173, 3) := by decide +kernel
theorem dX11_readBench_106 : decode cX11_readBench 106 = .ok (.aload_n 0, 1) := by decide +kernel
theorem dX11_readBench_107 : decode cX11_readBench 107 = .ok (.dup, 1) := by decide +kernel
theorem dX11_readBench_108 : decode cX11_readBench 108 = .ok (.getfield 71, 3) := by decide +kernel
theorem dX11_readBench_111 : decode cX11_readBench 111 = .ok (.iconst 1, 1) := by decide +kernel
theorem dX11_readBench_112 : decode cX11_readBench 112 = .ok (.iadd, 1) := by decide +kernel
theorem dX11_readBench_113 : decode cX11_readBench 113 = .ok (.putfield 71, 3) := by decide +kernel
theorem dX11_readBench_116 : decode cX11_readBench 116 = .ok (.return_, 1) := by decide +kernel
theorem dX11_readWant_0 : decode cX11_readWant 0 = .ok (.iconst 3, 1) := by decide +kernel
theorem dX11_readWant_1 : decode cX11_readWant 1 = .ok (.aload_n 0, 1) := by decide +kernel
theorem dX11_readWant_2 : decode cX11_readWant 2 = .ok (.getfield 75, 3) := by decide +kernel
theorem dX11_readWant_5 : decode cX11_readWant 5 = .ok (.imul, 1) := by decide +kernel
theorem dX11_readWant_6 : decode cX11_readWant 6 = .ok (.istore_n 2, 1) := by decide +kernel
theorem dX11_readWant_7 : decode cX11_readWant 7 = .ok (.aload_n 0, 1) := by decide +kernel
theorem dX11_readWant_8 : decode cX11_readWant 8 = .ok (.getfield 29, 3) := by decide +kernel
theorem dX11_readWant_11 : decode cX11_readWant 11 = .ok (.iload_n 2, 1) := by decide +kernel
theorem dX11_readWant_12 : decode cX11_readWant 12 = .ok (.aload_n 0, 1) := by decide +kernel
theorem dX11_readWant_13 : decode cX11_readWant 13 = .ok (.bipush (-4), 2) := by decide +kernel
theorem dX11_readWant_15 : decode cX11_readWant 15 = .ok (.invokevirtual 186, 3) := by decide +kernel
theorem dX11_readWant_18 : decode cX11_readWant 18 = .ok (.iastore, 1) := by decide +kernel
theorem dX11_readWant_19 : decode cX11_readWant 19 = .ok (.aload_n 0, 1) := by decide +kernel
theorem dX11_readWant_20 : decode cX11_readWant 20 = .ok (.getfield 29, 3) := by decide +kernel
theorem dX11_readWant_23 : decode cX11_readWant 23 = .ok (.iload_n 2, 1) := by decide +kernel
theorem dX11_readWant_24 : decode cX11_readWant 24 = .ok (.iconst 1, 1) := by decide +kernel
theorem dX11_readWant_25 : decode cX11_readWant 25 = .ok (.iadd, 1) := by decide +kernel
theorem dX11_readWant_26 : decode cX11_readWant 26 = .ok (.aload_n 0, 1) := by decide +kernel
theorem dX11_readWant_27 : decode cX11_readWant 27 = .ok (.aload_n 0, 1) := by decide +kernel
theorem dX11_readWant_28 : decode cX11_readWant 28 = .ok (.getfield 29, 3) := by decide +kernel
theorem dX11_readWant_31 : decode cX11_readWant 31 = .ok (.iload_n 2, 1) := by decide +kernel
theorem dX11_readWant_32 : decode cX11_readWant 32 = .ok (.iaload, 1) := by decide +kernel
theorem dX11_readWant_33 : decode cX11_readWant 33 = .ok (.invokevirtual 186, 3) := by decide +kernel
theorem dX11_readWant_36 : decode cX11_readWant 36 = .ok (.iastore, 1) := by decide +kernel
theorem dX11_readWant_37 : decode cX11_readWant 37 = .ok (.aload_n 0, 1) := by decide +kernel
theorem dX11_readWant_38 : decode cX11_readWant 38 = .ok (.getfield 29, 3) := by decide +kernel
theorem dX11_readWant_41 : decode cX11_readWant 41 = .ok (.iload_n 2, 1) := by decide +kernel
theorem dX11_readWant_42 : decode cX11_readWant 42 = .ok (.iconst 2, 1) := by decide +kernel
theorem dX11_readWant_43 : decode cX11_readWant 43 = .ok (.iadd, 1) := by decide +kernel
theorem dX11_readWant_44 : decode cX11_readWant 44 = .ok (.iload_n 1, 1) := by decide +kernel
theorem dX11_readWant_45 : decode cX11_readWant 45 = .ok (.iastore, 1) := by decide +kernel
theorem dX11_readWant_46 : decode cX11_readWant 46 = .ok (.aload_n 0, 1) := by decide +kernel
theorem dX11_readWant_47 : decode cX11_readWant 47 = .ok (.dup, 1) := by decide +kernel
theorem dX11_readWant_48 : decode cX11_readWant 48 = .ok (.getfield 75, 3) := by decide +kernel
theorem dX11_readWant_51 : decode cX11_readWant 51 = .ok (.iconst 1, 1) := by decide +kernel
theorem dX11_readWant_52 : decode cX11_readWant 52 = .ok (.iadd, 1) := by decide +kernel
theorem dX11_readWant_53 : decode cX11_readWant 53 = .ok (.putfield 75, 3) := by decide +kernel
theorem dX11_readWant_56 : decode cX11_readWant 56 = .ok (.return_, 1) := by decide +kernel
theorem dX11_readWhisper_0 : decode cX11_readWhisper 0 = .ok (.aload_n 0, 1) := by decide +kernel
theorem dX11_readWhisper_1 : decode cX11_readWhisper 1 = .ok (.getfield 23, 3) := by decide +kernel
theorem dX11_readWhisper_4 : decode cX11_readWhisper 4 = .ok (.bipush 88, 2) := by decide +kernel
theorem dX11_readWhisper_6 : decode cX11_readWhisper 6 = .ok (.iaload, 1) := by decide +kernel
theorem dX11_readWhisper_7 : decode cX11_readWhisper 7 = .ok (.istore_n 1, 1) := by decide +kernel
theorem dX11_readWhisper_8 : decode cX11_readWhisper 8 = .ok (.bipush 89, 2) := by decide +kernel
theorem dX11_readWhisper_10 : decode cX11_readWhisper 10 = .ok (.iconst 3, 1) := by decide +kernel
theorem dX11_readWhisper_11 : decode cX11_readWhisper 11 = .ok (.iload_n 1, 1) := by decide +kernel
theorem dX11_readWhisper_12 : decode cX11_readWhisper 12 = .ok (.imul, 1) := by decide +kernel
theorem dX11_readWhisper_13 : decode cX11_readWhisper 13 = .ok (.iadd, 1) := by decide +kernel
theorem dX11_readWhisper_14 : decode cX11_readWhisper 14 = .ok (.istore_n 2, 1) := by decide +kernel
theorem dX11_readWhisper_15 : decode cX11_readWhisper 15 = .ok (.aload_n 0, 1) := by decide +kernel
theorem dX11_readWhisper_16 : decode cX11_readWhisper 16 = .ok (.getfield 23, 3) := by decide +kernel
theorem dX11_readWhisper_19 : decode cX11_readWhisper 19 = .ok (.iload_n 2, 1) := by decide +kernel
theorem dX11_readWhisper_20 : decode cX11_readWhisper 20 = .ok (.aload_n 0, 1) := by decide +kernel
theorem dX11_readWhisper_21 : decode cX11_readWhisper 21 = .ok (.iload_n 1, 1) := by decide +kernel
theorem dX11_readWhisper_22 : decode cX11_readWhisper 22 = .ok (.ifCond .ne 7, 3) := by decide +kernel
theorem dX11_readWhisper_25 : decode cX11_readWhisper 25 = .ok (.iconst 0, 1) := by decide +kernel
theorem dX11_readWhisper_26 : decode cX11_readWhisper 26 = .ok (.goto 11, 3) := by decide +kernel
theorem dX11_readWhisper_29 : decode cX11_readWhisper 29 = .ok (.aload_n 0, 1) := by decide +kernel
theorem dX11_readWhisper_30 : decode cX11_readWhisper 30 = .ok (.getfield 23, 3) := by decide +kernel
theorem dX11_readWhisper_33 : decode cX11_readWhisper 33 = .ok (.iload_n 2, 1) := by decide +kernel
theorem dX11_readWhisper_34 : decode cX11_readWhisper 34 = .ok (.iconst 3, 1) := by decide +kernel
theorem dX11_readWhisper_35 : decode cX11_readWhisper 35 = .ok (.isub, 1) := by decide +kernel
theorem dX11_readWhisper_36 : decode cX11_readWhisper 36 = .ok (.iaload, 1) := by decide +kernel
theorem dX11_readWhisper_37 : decode cX11_readWhisper 37 = .ok (.bipush 11, 2) := by decide +kernel
theorem dX11_readWhisper_39 : decode cX11_readWhisper 39 = .ok (.invokevirtual 176, 3) := by decide +kernel
theorem dX11_readWhisper_42 : decode cX11_readWhisper 42 = .ok (.iastore, 1) := by decide +kernel
theorem dX11_readWhisper_43 : decode cX11_readWhisper 43 = .ok (.aload_n 0, 1) := by decide +kernel
theorem dX11_readWhisper_44 : decode cX11_readWhisper 44 = .ok (.getfield 23, 3) := by decide +kernel
theorem dX11_readWhisper_47 : decode cX11_readWhisper 47 = .ok (.iload_n 2, 1) := by decide +kernel
theorem dX11_readWhisper_48 : decode cX11_readWhisper 48 = .ok (.iconst 1, 1) := by decide +kernel
theorem dX11_readWhisper_49 : decode cX11_readWhisper 49 = .ok (.iadd, 1) := by decide +kernel
theorem dX11_readWhisper_50 : decode cX11_readWhisper 50 = .ok (.aload_n 0, 1) := by decide +kernel
theorem dX11_readWhisper_51 : decode cX11_readWhisper 51 = .ok (.bipush (-4), 2) := by decide +kernel
theorem dX11_readWhisper_53 : decode cX11_readWhisper 53 = .ok (.invokevirtual 186, 3) := by decide +kernel
theorem dX11_readWhisper_56 : decode cX11_readWhisper 56 = .ok (.iastore, 1) := by decide +kernel
theorem dX11_readWhisper_57 : decode cX11_readWhisper 57 = .ok (.aload_n 0, 1) := by decide +kernel
theorem dX11_readWhisper_58 : decode cX11_readWhisper 58 = .ok (.getfield 23, 3) := by decide +kernel
theorem dX11_readWhisper_61 : decode cX11_readWhisper 61 = .ok (.iload_n 2, 1) := by decide +kernel
theorem dX11_readWhisper_62 : decode cX11_readWhisper 62 = .ok (.iconst 2, 1) := by decide +kernel
theorem dX11_readWhisper_63 : decode cX11_readWhisper 63 = .ok (.iadd, 1) := by decide +kernel
theorem dX11_readWhisper_64 : decode cX11_readWhisper 64 = .ok (.aload_n 0, 1) := by decide +kernel
theorem dX11_readWhisper_65 : decode cX11_readWhisper 65 = .ok (.iconst 0, 1) := by decide +kernel
theorem dX11_readWhisper_66 : decode cX11_readWhisper 66 = .ok (.bipush 7, 2) := by decide +kernel
theorem dX11_readWhisper_68 : decode cX11_readWhisper 68 = .ok (.invokevirtual 176, 3) := by decide +kernel
theorem dX11_readWhisper_71 : decode cX11_readWhisper 71 = .ok (.iastore, 1) := by decide +kernel
theorem dX11_readWhisper_72 : decode cX11_readWhisper 72 = .ok (.aload_n 0, 1) := by decide +kernel
theorem dX11_readWhisper_73 : decode cX11_readWhisper 73 = .ok (.getfield 23, 3) := by decide +kernel
theorem dX11_readWhisper_76 : decode cX11_readWhisper 76 = .ok (.bipush 88, 2) := by decide +kernel
theorem dX11_readWhisper_78 : decode cX11_readWhisper 78 = .ok (.iload_n 1, 1) := by decide +kernel
theorem dX11_readWhisper_79 : decode cX11_readWhisper 79 = .ok (.iconst 1, 1) := by decide +kernel
theorem dX11_readWhisper_80 : decode cX11_readWhisper 80 = .ok (.iadd, 1) := by decide +kernel
theorem dX11_readWhisper_81 : decode cX11_readWhisper 81 = .ok (.iastore, 1) := by decide +kernel
theorem dX11_readWhisper_82 : decode cX11_readWhisper 82 = .ok (.return_, 1) := by decide +kernel
theorem dX11_readLineOf_0 : decode cX11_readLineOf 0 = .ok (.iload_n 1, 1) := by decide +kernel
theorem dX11_readLineOf_1 : decode cX11_readLineOf 1 = .ok (.tableswitch 204 0 10 #[59, 88, 104, 120, 137, 153, 160, 160, 204, 204, 197], 59) := by decide +kernel
theorem dX11_readLineOf_60 : decode cX11_readLineOf 60 = .ok (.aload_n 0, 1) := by decide +kernel
theorem dX11_readLineOf_61 : decode cX11_readLineOf 61 = .ok (.getfield 32, 3) := by decide +kernel
theorem dX11_readLineOf_64 : decode cX11_readLineOf 64 = .ok (.iconst 0, 1) := by decide +kernel
theorem dX11_readLineOf_65 : decode cX11_readLineOf 65 = .ok (.aload_n 0, 1) := by decide +kernel
theorem dX11_readLineOf_66 : decode cX11_readLineOf 66 = .ok (.iconst 3, 1) := by decide +kernel
theorem dX11_readLineOf_67 : decode cX11_readLineOf 67 = .ok (.bipush 9, 2) := by decide +kernel
theorem dX11_readLineOf_69 : decode cX11_readLineOf 69 = .ok (.invokevirtual 176, 3) := by decide +kernel
theorem dX11_readLineOf_72 : decode cX11_readLineOf 72 = .ok (.iastore, 1) := by decide +kernel
theorem dX11_readLineOf_73 : decode cX11_readLineOf 73 = .ok (.aload_n 0, 1) := by decide +kernel
theorem dX11_readLineOf_74 : decode cX11_readLineOf 74 = .ok (.getfield 32, 3) := by decide +kernel
theorem dX11_readLineOf_77 : decode cX11_readLineOf 77 = .ok (.iconst 1, 1) := by decide +kernel
theorem dX11_readLineOf_78 : decode cX11_readLineOf 78 = .ok (.aload_n 0, 1) := by decide +kernel
theorem dX11_readLineOf_79 : decode cX11_readLineOf 79 = .ok (.iconst 3, 1) := by decide +kernel
theorem dX11_readLineOf_80 : decode cX11_readLineOf 80 = .ok (.bipush 9, 2) := by decide +kernel
theorem dX11_readLineOf_82 : decode cX11_readLineOf 82 = .ok (.invokevirtual 176, 3) := by decide +kernel
theorem dX11_readLineOf_85 : decode cX11_readLineOf 85 = .ok (.iastore, 1) := by decide +kernel
theorem dX11_readLineOf_86 : decode cX11_readLineOf 86 = .ok (.goto 137, 3) := by decide +kernel
theorem dX11_readLineOf_89 : decode cX11_readLineOf 89 = .ok (.aload_n 0, 1) := by decide +kernel
theorem dX11_readLineOf_90 : decode cX11_readLineOf 90 = .ok (.getfield 32, 3) := by decide +kernel
theorem dX11_readLineOf_93 : decode cX11_readLineOf 93 = .ok (.iconst 2, 1) := by decide +kernel
theorem dX11_readLineOf_94 : decode cX11_readLineOf 94 = .ok (.aload_n 0, 1) := by decide +kernel
theorem dX11_readLineOf_95 : decode cX11_readLineOf 95 = .ok (.iconst 0, 1) := by decide +kernel
theorem dX11_readLineOf_96 : decode cX11_readLineOf 96 = .ok (.bipush 20, 2) := by decide +kernel
theorem dX11_readLineOf_98 : decode cX11_readLineOf 98 = .ok (.invokevirtual 176, 3) := by decide +kernel
theorem dX11_readLineOf_101 : decode cX11_readLineOf 101 = .ok (.iastore, 1) := by decide +kernel
theorem dX11_readLineOf_102 : decode cX11_readLineOf 102 = .ok (.goto 121, 3) := by decide +kernel
theorem dX11_readLineOf_105 : decode cX11_readLineOf 105 = .ok (.aload_n 0, 1) := by decide +kernel
theorem dX11_readLineOf_106 : decode cX11_readLineOf 106 = .ok (.getfield 32, 3) := by decide +kernel
theorem dX11_readLineOf_109 : decode cX11_readLineOf 109 = .ok (.iconst 3, 1) := by decide +kernel
theorem dX11_readLineOf_110 : decode cX11_readLineOf 110 = .ok (.aload_n 0, 1) := by decide +kernel
theorem dX11_readLineOf_111 : decode cX11_readLineOf 111 = .ok (.iconst 0, 1) := by decide +kernel
theorem dX11_readLineOf_112 : decode cX11_readLineOf 112 = .ok (.bipush 50, 2) := by decide +kernel
theorem dX11_readLineOf_114 : decode cX11_readLineOf 114 = .ok (.invokevirtual 176, 3) := by decide +kernel
theorem dX11_readLineOf_117 : decode cX11_readLineOf 117 = .ok (.iastore, 1) := by decide +kernel
theorem dX11_readLineOf_118 : decode cX11_readLineOf 118 = .ok (.goto 105, 3) := by decide +kernel
theorem dX11_readLineOf_121 : decode cX11_readLineOf 121 = .ok (.aload_n 0, 1) := by decide +kernel
theorem dX11_readLineOf_122 : decode cX11_readLineOf 122 = .ok (.getfield 23, 3) := by decide +kernel
theorem dX11_readLineOf_125 : decode cX11_readLineOf 125 = .ok (.bipush 81, 2) := by decide +kernel
theorem dX11_readLineOf_127 : decode cX11_readLineOf 127 = .ok (.aload_n 0, 1) := by decide +kernel
theorem dX11_readLineOf_128 : decode cX11_readLineOf 128 = .ok (.iconst 0, 1) := by decide +kernel
theorem dX11_readLineOf_129 : decode cX11_readLineOf 129 = .ok (.bipush 9, 2) := by decide +kernel
theorem dX11_readLineOf_131 : decode cX11_readLineOf 131 = .ok (.invokevirtual 176, 3) := by decide +kernel
theorem dX11_readLineOf_134 : decode cX11_readLineOf 134 = .ok (.iastore, 1) := by decide +kernel
theorem dX11_readLineOf_135 : decode cX11_readLineOf 135 = .ok (.goto 88, 3) := by decide +kernel
theorem dX11_readLineOf_138 : decode cX11_readLineOf 138 = .ok (.aload_n 0, 1) := by decide +kernel
theorem dX11_readLineOf_139 : decode cX11_readLineOf 139 = .ok (.getfield 32, 3) := by decide +kernel
theorem dX11_readLineOf_142 : decode cX11_readLineOf 142 = .ok (.iconst 4, 1) := by decide +kernel
theorem dX11_readLineOf_143 : decode cX11_readLineOf 143 = .ok (.aload_n 0, 1) := by decide +kernel
theorem dX11_readLineOf_144 : decode cX11_readLineOf 144 = .ok (.iconst 0, 1) := by decide +kernel
theorem dX11_readLineOf_145 : decode cX11_readLineOf 145 = .ok (.bipush 6, 2) := by decide +kernel
theorem dX11_readLineOf_147 : decode cX11_readLineOf 147 = .ok (.invokevirtual 176, 3) := by decide +kernel
theorem dX11_readLineOf_150 : decode cX11_readLineOf 150 = .ok (.iastore, 1) := by decide +kernel
theorem dX11_readLineOf_151 : decode cX11_readLineOf 151 = .ok (.goto 72, 3) := by decide +kernel
theorem dX11_readLineOf_154 : decode cX11_readLineOf 154 = .ok (.aload_n 0, 1) := by decide +kernel
theorem dX11_readLineOf_155 : decode cX11_readLineOf 155 = .ok (.invokevirtual 189, 3) := by decide +kernel
theorem dX11_readLineOf_158 : decode cX11_readLineOf 158 = .ok (.goto 65, 3) := by decide +kernel
theorem dX11_readLineOf_161 : decode cX11_readLineOf 161 = .ok (.aload_n 0, 1) := by decide +kernel
theorem dX11_readLineOf_162 : decode cX11_readLineOf 162 = .ok (.iconst 1, 1) := by decide +kernel
theorem dX11_readLineOf_163 : decode cX11_readLineOf 163 = .ok (.invokevirtual 179, 3) := by decide +kernel
theorem dX11_readLineOf_166 : decode cX11_readLineOf 166 = .ok (.istore_n 2, 1) := by decide +kernel
theorem dX11_readLineOf_167 : decode cX11_readLineOf 167 = .ok (.aload_n 0, 1) := by decide +kernel
theorem dX11_readLineOf_168 : decode cX11_readLineOf 168 = .ok (.getfield 124, 3) := by decide +kernel
theorem dX11_readLineOf_171 : decode cX11_readLineOf 171 = .ok (.ifCond .eq 12, 3) := by decide +kernel
theorem dX11_readLineOf_174 : decode cX11_readLineOf 174 = .ok (.aload_n 0, 1) := by decide +kernel
theorem dX11_readLineOf_175 : decode cX11_readLineOf 175 = .ok (.getfield 23, 3) := by decide +kernel
theorem dX11_readLineOf_178 : decode cX11_readLineOf 178 = .ok (.iload_n 2, 1) := by decide +kernel
theorem dX11_readLineOf_179 : decode cX11_readLineOf 179 = .ok (.iaload, 1) := by decide +kernel
theorem dX11_readLineOf_180 : decode cX11_readLineOf 180 = .ok (.ifCond .ne 43, 3) := by decide +kernel
theorem dX11_readLineOf_183 : decode cX11_readLineOf 183 = .ok (.aload_n 0, 1) := by decide +kernel
theorem dX11_readLineOf_184 : decode cX11_readLineOf 184 = .ok (.getfield 23, 3) := by decide +kernel
theorem dX11_readLineOf_187 : decode cX11_readLineOf 187 = .ok (.iload_n 2, 1) := by decide +kernel
theorem dX11_readLineOf_188 : decode cX11_readLineOf 188 = .ok (.iload_n 1, 1) := by decide +kernel
theorem dX11_readLineOf_189 : decode cX11_readLineOf 189 = .ok (.bipush 6, 2) := by decide +kernel
theorem dX11_readLineOf_191 : decode cX11_readLineOf 191 = .ok (.isub, 1) := by decide +kernel
theorem dX11_readLineOf_192 : decode cX11_readLineOf 192 = .ok (.iconst 1, 1) := by decide +kernel
theorem dX11_readLineOf_193 : decode cX11_readLineOf 193 = .ok (.iadd, 1) := by decide +kernel
theorem dX11_readLineOf_194 : decode cX11_readLineOf 194 = .ok (.iastore, 1) := by decide +kernel
theorem dX11_readLineOf_195 : decode cX11_readLineOf 195 = .ok (.goto 28, 3) := by decide +kernel
theorem dX11_readLineOf_198 : decode cX11_readLineOf 198 = .ok (.aload_n 0, 1) := by decide +kernel
theorem dX11_readLineOf_199 : decode cX11_readLineOf 199 = .ok (.invokevirtual 192, 3) := by decide +kernel
theorem dX11_readLineOf_202 : decode cX11_readLineOf 202 = .ok (.goto 21, 3) := by decide +kernel
theorem dX11_readLineOf_205 : decode cX11_readLineOf 205 = .ok (.aload_n 0, 1) := by decide +kernel
theorem dX11_readLineOf_206 : decode cX11_readLineOf 206 = .ok (.iload_n 1, 1) := by decide +kernel
theorem dX11_readLineOf_207 : decode cX11_readLineOf 207 = .ok (.bipush 8, 2) := by decide +kernel
theorem dX11_readLineOf_209 : decode cX11_readLineOf 209 = .ok (.if_icmp .ne 7, 3) := by decide +kernel
theorem dX11_readLineOf_212 : decode cX11_readLineOf 212 = .ok (.iconst 1, 1) := by decide +kernel
theorem dX11_readLineOf_213 : decode cX11_readLineOf 213 = .ok (.goto 4, 3) := by decide +kernel
theorem dX11_readLineOf_216 : decode cX11_readLineOf 216 = .ok (.iconst 0, 1) := by decide +kernel
theorem dX11_readLineOf_217 : decode cX11_readLineOf 217 = .ok (.invokestatic 195, 3) := by decide +kernel
theorem dX11_readLineOf_220 : decode cX11_readLineOf 220 = .ok (.invokevirtual 198, 3) := by decide +kernel
theorem dX11_readLineOf_223 : decode cX11_readLineOf 223 = .ok (.return_, 1) := by decide +kernel
theorem dX11_readLine_0 : decode cX11_readLine 0 = .ok (.aload_n 0, 1) := by decide +kernel
theorem dX11_readLine_1 : decode cX11_readLine 1 = .ok (.getfield 151, 3) := by decide +kernel
theorem dX11_readLine_4 : decode cX11_readLine 4 = .ok (.iconst 1, 1) := by decide +kernel
theorem dX11_readLine_5 : decode cX11_readLine 5 = .ok (.if_icmp .ne 10, 3) := by decide +kernel
theorem dX11_readLine_8 : decode cX11_readLine 8 = .ok (.aload_n 0, 1) := by decide +kernel
theorem dX11_readLine_9 : decode cX11_readLine 9 = .ok (.invokevirtual 202, 3) := by decide +kernel
theorem dX11_readLine_12 : decode cX11_readLine 12 = .ok (.goto 5, 3) := by decide +kernel
theorem dX11_readLine_15 : decode cX11_readLine 15 = .ok (.bipush (-4), 2) := by decide +kernel
theorem dX11_readLine_17 : decode cX11_readLine 17 = .ok (.istore_n 1, 1) := by decide +kernel
theorem dX11_readLine_18 : decode cX11_readLine 18 = .ok (.aload_n 0, 1) := by decide +kernel
theorem dX11_readLine_19 : decode cX11_readLine 19 = .ok (.iload_n 1, 1) := by decide +kernel
theorem dX11_readLine_20 : decode cX11_readLine 20 = .ok (.bipush (-4), 2) := by decide +kernel
theorem dX11_readLine_22 : decode cX11_readLine 22 = .ok (.if_icmp .eq 7, 3) := by decide +kernel
theorem dX11_readLine_25 : decode cX11_readLine 25 = .ok (.iconst 1, 1) := by decide +kernel
theorem dX11_readLine_26 : decode cX11_readLine 26 = .ok (.goto 4, 3) := by decide +kernel
theorem dX11_readLine_29 : decode cX11_readLine 29 = .ok (.iconst 0, 1) := by decide +kernel
theorem dX11_readLine_30 : decode cX11_readLine 30 = .ok (.iconst 2, 1) := by decide +kernel
theorem dX11_readLine_31 : decode cX11_readLine 31 = .ok (.invokevirtual 165, 3) := by decide +kernel
theorem dX11_readLine_34 : decode cX11_readLine 34 = .ok (.aload_n 0, 1) := by decide +kernel
theorem dX11_readLine_35 : decode cX11_readLine 35 = .ok (.iload_n 1, 1) := by decide +kernel
theorem dX11_readLine_36 : decode cX11_readLine 36 = .ok (.iconst 5, 1) := by decide +kernel
theorem dX11_readLine_37 : decode cX11_readLine 37 = .ok (.if_icmp .ne 12, 3) := by decide +kernel
theorem dX11_readLine_40 : decode cX11_readLine 40 = .ok (.aload_n 0, 1) := by decide +kernel
theorem dX11_readLine_41 : decode cX11_readLine 41 = .ok (.getfield 71, 3) := by decide +kernel
theorem dX11_readLine_44 : decode cX11_readLine 44 = .ok (.bipush 8, 2) := by decide +kernel
theorem dX11_readLine_46 : decode cX11_readLine 46 = .ok (.if_icmp .ge 46, 3) := by decide +kernel
theorem dX11_readLine_49 : decode cX11_readLine 49 = .ok (.iload_n 1, 1) := by decide +kernel
theorem dX11_readLine_50 : decode cX11_readLine 50 = .ok (.bipush 8, 2) := by decide +kernel
theorem dX11_readLine_52 : decode cX11_readLine 52 = .ok (.if_icmp .eq 9, 3) := by decide +kernel
theorem dX11_readLine_55 : decode cX11_readLine 55 = .ok (.iload_n 1, 1) := by decide +kernel
theorem dX11_readLine_56 : decode cX11_readLine 56 = .ok (.bipush 9, 2) := by decide +kernel
theorem dX11_readLine_58 : decode cX11_readLine 58 = .ok (.if_icmp .ne 12, 3) := by decide +kernel
theorem dX11_readLine_61 : decode cX11_readLine 61 = .ok (.aload_n 0, 1) := by decide +kernel
theorem dX11_readLine_62 : decode cX11_readLine 62 = .ok (.getfield 75, 3) := by decide +kernel
theorem dX11_readLine_65 : decode cX11_readLine 65 = .ok (.bipush 8, 2) := by decide +kernel
theorem dX11_readLine_67 : decode cX11_readLine 67 = .ok (.if_icmp .ge 25, 3) := by decide +kernel
theorem dX11_readLine_70 : decode cX11_readLine 70 = .ok (.iload_n 1, 1) := by decide +kernel
theorem dX11_readLine_71 : decode cX11_readLine 71 = .ok (.bipush 10, 2) := by decide +kernel
theorem dX11_readLine_73 : decode cX11_readLine 73 = .ok (.if_icmp .ne 15, 3) := by decide +kernel
theorem dX11_readLine_76 : decode cX11_readLine 76 = .ok (.aload_n 0, 1) := by decide +kernel
theorem dX11_readLine_77 : decode cX11_readLine 77 = .ok (.getfield 23, 3) := by decide +kernel
theorem dX11_readLine_80 : decode cX11_readLine 80 = .ok (.bipush 88, 2) := by decide +kernel
theorem dX11_readLine_82 : decode cX11_readLine 82 = .ok (.iaload, 1) := by decide +kernel
theorem dX11_readLine_83 : decode cX11_readLine 83 = .ok (.bipush 12, 2) := by decide +kernel
theorem dX11_readLine_85 : decode cX11_readLine 85 = .ok (.if_icmp .ge 7, 3) := by decide +kernel
theorem dX11_readLine_88 : decode cX11_readLine 88 = .ok (.iconst 1, 1) := by decide +kernel
theorem dX11_readLine_89 : decode cX11_readLine 89 = .ok (.goto 4, 3) := by decide +kernel
theorem dX11_readLine_92 : decode cX11_readLine 92 = .ok (.iconst 0, 1) := by decide +kernel
theorem dX11_readLine_93 : decode cX11_readLine 93 = .ok (.iconst 5, 1) := by decide +kernel
theorem dX11_readLine_94 : decode cX11_readLine 94 = .ok (.invokevirtual 165, 3) := by decide +kernel
theorem dX11_readLine_97 : decode cX11_readLine 97 = .ok (.aload_n 0, 1) := by decide +kernel
theorem dX11_readLine_98 : decode cX11_readLine 98 = .ok (.getfield 124, 3) := by decide +kernel
theorem dX11_readLine_101 : decode cX11_readLine 101 = .ok (.ifCond .ne 41, 3) := by decide +kernel
theorem dX11_readLine_104 : decode cX11_readLine 104 = .ok (.iload_n 1, 1) := by decide +kernel
theorem dX11_readLine_105 : decode cX11_readLine 105 = .ok (.iconst 5, 1) := by decide +kernel
theorem dX11_readLine_106 : decode cX11_readLine 106 = .ok (.if_icmp .ge 36, 3) := by decide +kernel
theorem dX11_readLine_109 : decode cX11_readLine 109 = .ok (.aload_n 0, 1) := by decide +kernel
theorem dX11_readLine_110 : decode cX11_readLine 110 = .ok (.aload_n 0, 1) := by decide +kernel
theorem dX11_readLine_111 : decode cX11_readLine 111 = .ok (.getfield 87, 3) := by decide +kernel
theorem dX11_readLine_114 : decode cX11_readLine 114 = .ok (.iload_n 1, 1) := by decide +kernel
theorem dX11_readLine_115 : decode cX11_readLine 115 = .ok (.ishr, 1) := by decide +kernel
theorem dX11_readLine_116 : decode cX11_readLine 116 = .ok (.iconst 1, 1) := by decide +kernel
theorem dX11_readLine_117 : decode cX11_readLine 117 = .ok (.iand, 1) := by decide +kernel
theorem dX11_readLine_118 : decode cX11_readLine 118 = .ok (.ifCond .ne 7, 3) := by decide +kernel
theorem dX11_readLine_121 : decode cX11_readLine 121 = .ok (.iconst 1, 1) := by decide +kernel
theorem dX11_readLine_122 : decode cX11_readLine 122 = .ok (.goto 4, 3) := by decide +kernel
theorem dX11_readLine_125 : decode cX11_readLine 125 = .ok (.iconst 0, 1) := by decide +kernel
theorem dX11_readLine_126 : decode cX11_readLine 126 = .ok (.iconst 4, 1) := by decide +kernel
theorem dX11_readLine_127 : decode cX11_readLine 127 = .ok (.invokevirtual 165, 3) := by decide +kernel
theorem dX11_readLine_130 : decode cX11_readLine 130 = .ok (.aload_n 0, 1) := by decide +kernel
theorem dX11_readLine_131 : decode cX11_readLine 131 = .ok (.dup, 1) := by decide +kernel
theorem dX11_readLine_132 : decode cX11_readLine 132 = .ok (.getfield 87, 3) := by decide +kernel
theorem dX11_readLine_135 : decode cX11_readLine 135 = .ok (.iconst 1, 1) := by decide +kernel
theorem dX11_readLine_136 : decode cX11_readLine 136 = .ok (.iload_n 1, 1) := by decide +kernel
theorem dX11_readLine_137 : decode cX11_readLine 137 = .ok (.ishl, 1) := by decide +kernel
theorem dX11_readLine_138 : decode cX11_readLine 138 = .ok (.ior, 1) := by decide +kernel
theorem dX11_readLine_139 : decode cX11_readLine 139 = .ok (.putfield 87, 3) := by decide +kernel
theorem dX11_readLine_142 : decode cX11_readLine 142 = .ok (.aload_n 0, 1) := by decide +kernel
theorem dX11_readLine_143 : decode cX11_readLine 143 = .ok (.invokevirtual 173, 3) := by decide +kernel
theorem dX11_readLine_146 : decode cX11_readLine 146 = .ok (.aload_n 0, 1) := by decide +kernel
theorem dX11_readLine_147 : decode cX11_readLine 147 = .ok (.getfield 124, 3) := by decide +kernel
theorem dX11_readLine_150 : decode cX11_readLine 150 = .ok (.ifCond .le 4, 3) := by decide +kernel
theorem dX11_readLine_153 : decode cX11_readLine 153 = .ok (.return_, 1) := by decide +kernel
theorem dX11_readLine_154 : decode cX11_readLine 154 = .ok (.aload_n 0, 1) := by decide +kernel
theorem dX11_readLine_155 : decode cX11_readLine 155 = .ok (.iload_n 1, 1) := by decide +kernel
theorem dX11_readLine_156 : decode cX11_readLine 156 = .ok (.invokevirtual 205, 3) := by decide +kernel
theorem dX11_readLine_159 : decode cX11_readLine 159 = .ok (.aload_n 0, 1) := by decide +kernel
theorem dX11_readLine_160 : decode cX11_readLine 160 = .ok (.getfield 124, 3) := by decide +kernel
theorem dX11_readLine_163 : decode cX11_readLine 163 = .ok (.ifCond .ne 21, 3) := by decide +kernel
theorem dX11_readLine_166 : decode cX11_readLine 166 = .ok (.aload_n 0, 1) := by decide +kernel
theorem dX11_readLine_167 : decode cX11_readLine 167 = .ok (.aload_n 0, 1) := by decide +kernel
theorem dX11_readLine_168 : decode cX11_readLine 168 = .ok (.getfield 151, 3) := by decide +kernel
theorem dX11_readLine_171 : decode cX11_readLine 171 = .ok (.iconst 3, 1) := by decide +kernel
theorem dX11_readLine_172 : decode cX11_readLine 172 = .ok (.if_icmp .ne 7, 3) := by decide +kernel
theorem dX11_readLine_175 : decode cX11_readLine 175 = .ok (.iconst 1, 1) := by decide +kernel
theorem dX11_readLine_176 : decode cX11_readLine 176 = .ok (.goto 4, 3) := by decide +kernel
theorem dX11_readLine_179 : decode cX11_readLine 179 = .ok (.iconst 0, 1) := by decide +kernel
theorem dX11_readLine_180 : decode cX11_readLine 180 = .ok (.iconst 2, 1) := by decide +kernel
theorem dX11_readLine_181 : decode cX11_readLine 181 = .ok (.invokevirtual 165, 3) := by decide +kernel
theorem dX11_readLine_184 : decode cX11_readLine 184 = .ok (.aload_n 0, 1) := by decide +kernel
theorem dX11_readLine_185 : decode cX11_readLine 185 = .ok (.invokevirtual 173, 3) := by decide +kernel
theorem dX11_readLine_188 : decode cX11_readLine 188 = .ok (.return_, 1) := by decide +kernel
theorem dX11_areFree_0 : decode cX11_areFree 0 = .ok (.iconst 1, 1) := by decide +kernel
theorem dX11_areFree_1 : decode cX11_areFree 1 = .ok (.istore_n 1, 1) := by decide +kernel
theorem dX11_areFree_2 : decode cX11_areFree 2 = .ok (.iconst 0, 1) := by decide +kernel
theorem dX11_areFree_3 : decode cX11_areFree 3 = .ok (.istore_n 2, 1) := by decide +kernel
theorem dX11_areFree_4 : decode cX11_areFree 4 = .ok (.iload_n 2, 1) := by decide +kernel
theorem dX11_areFree_5 : decode cX11_areFree 5 = .ok (.aload_n 0, 1) := by decide +kernel
theorem dX11_areFree_6 : decode cX11_areFree 6 = .ok (.getfield 71, 3) := by decide +kernel
theorem dX11_areFree_9 : decode cX11_areFree 9 = .ok (.if_icmp .ge 35, 3) := by decide +kernel
theorem dX11_areFree_12 : decode cX11_areFree 12 = .ok (.iload_n 1, 1) := by decide +kernel
theorem dX11_areFree_13 : decode cX11_areFree 13 = .ok (.ifCond .eq 23, 3) := by decide +kernel
theorem dX11_areFree_16 : decode cX11_areFree 16 = .ok (.aload_n 0, 1) := by decide +kernel
theorem dX11_areFree_17 : decode cX11_areFree 17 = .ok (.getfield 23, 3) := by decide +kernel
theorem dX11_areFree_20 : decode cX11_areFree 20 = .ok (.aload_n 0, 1) := by decide +kernel
theorem dX11_areFree_21 : decode cX11_areFree 21 = .ok (.getfield 26, 3) := by decide +kernel
theorem dX11_areFree_24 : decode cX11_areFree 24 = .ok (.iconst 4, 1) := by decide +kernel
theorem dX11_areFree_25 : decode cX11_areFree 25 = .ok (.iload_n 2, 1) := by decide +kernel
theorem dX11_areFree_26 : decode cX11_areFree 26 = .ok (.imul, 1) := by decide +kernel
theorem dX11_areFree_27 : decode cX11_areFree 27 = .ok (.iaload, 1) := by decide +kernel
theorem dX11_areFree_28 : decode cX11_areFree 28 = .ok (.iaload, 1) := by decide +kernel
theorem dX11_areFree_29 : decode cX11_areFree 29 = .ok (.ifCond .ne 7, 3) := by decide +kernel
theorem dX11_areFree_32 : decode cX11_areFree 32 = .ok (.iconst 1, 1) := by decide +kernel
theorem dX11_areFree_33 : decode cX11_areFree 33 = .ok (.goto 4, 3) := by decide +kernel
theorem dX11_areFree_36 : decode cX11_areFree 36 = .ok (.iconst 0, 1) := by decide +kernel
theorem dX11_areFree_37 : decode cX11_areFree 37 = .ok (.istore_n 1, 1) := by decide +kernel
theorem dX11_areFree_38 : decode cX11_areFree 38 = .ok (.iinc 2 1, 3) := by decide +kernel
theorem dX11_areFree_41 : decode cX11_areFree 41 = .ok (.goto (-37), 3) := by decide +kernel
theorem dX11_areFree_44 : decode cX11_areFree 44 = .ok (.iload_n 1, 1) := by decide +kernel
theorem dX11_areFree_45 : decode cX11_areFree 45 = .ok (.ireturn, 1) := by decide +kernel
theorem dX11_text_0 : decode cX11_text 0 = .ok (.iconst 0, 1) := by decide +kernel
theorem dX11_text_1 : decode cX11_text 1 = .ok (.istore_n 1, 1) := by decide +kernel
theorem dX11_text_2 : decode cX11_text 2 = .ok (.aload_n 0, 1) := by decide +kernel
theorem dX11_text_3 : decode cX11_text 3 = .ok (.iconst 0, 1) := by decide +kernel
theorem dX11_text_4 : decode cX11_text 4 = .ok (.putfield 124, 3) := by decide +kernel
theorem dX11_text_7 : decode cX11_text 7 = .ok (.aload_n 0, 1) := by decide +kernel
theorem dX11_text_8 : decode cX11_text 8 = .ok (.iconst 0, 1) := by decide +kernel
theorem dX11_text_9 : decode cX11_text 9 = .ok (.putfield 133, 3) := by decide +kernel
theorem dX11_text_12 : decode cX11_text 12 = .ok (.aload_n 0, 1) := by decide +kernel
theorem dX11_text_13 : decode cX11_text 13 = .ok (.invokevirtual 65, 3) := by decide +kernel
theorem dX11_text_16 : decode cX11_text 16 = .ok (.aload_n 0, 1) := by decide +kernel
theorem dX11_text_17 : decode cX11_text 17 = .ok (.invokevirtual 173, 3) := by decide +kernel
theorem dX11_text_20 : decode cX11_text 20 = .ok (.aload_n 0, 1) := by decide +kernel
theorem dX11_text_21 : decode cX11_text 21 = .ok (.getfield 124, 3) := by decide +kernel
theorem dX11_text_24 : decode cX11_text 24 = .ok (.ifCond .ne 20, 3) := by decide +kernel
theorem dX11_text_27 : decode cX11_text 27 = .ok (.aload_n 0, 1) := by decide +kernel
theorem dX11_text_28 : decode cX11_text 28 = .ok (.getfield 151, 3) := by decide +kernel
theorem dX11_text_31 : decode cX11_text 31 = .ok (.ifCond .eq 13, 3) := by decide +kernel
theorem dX11_text_34 : decode cX11_text 34 = .ok (.aload_n 0, 1) := by decide +kernel
theorem dX11_text_35 : decode cX11_text 35 = .ok (.invokevirtual 208, 3) := by decide +kernel
theorem dX11_text_38 : decode cX11_text 38 = .ok (.iinc 1 1, 3) := by decide +kernel
theorem dX11_text_41 : decode cX11_text 41 = .ok (.goto (-21), 3) := by decide +kernel
theorem dX11_text_44 : decode cX11_text 44 = .ok (.aload_n 0, 1) := by decide +kernel
theorem dX11_text_45 : decode cX11_text 45 = .ok (.getfield 124, 3) := by decide +kernel
theorem dX11_text_48 : decode cX11_text 48 = .ok (.ifCond .ne 72, 3) := by decide +kernel
theorem dX11_text_51 : decode cX11_text 51 = .ok (.aload_n 0, 1) := by decide +kernel
theorem dX11_text_52 : decode cX11_text 52 = .ok (.aload_n 0, 1) := by decide +kernel
theorem dX11_text_53 : decode cX11_text 53 = .ok (.getfield 81, 3) := by decide +kernel
theorem dX11_text_56 : decode cX11_text 56 = .ok (.aload_n 0, 1) := by decide +kernel
theorem dX11_text_57 : decode cX11_text 57 = .ok (.getfield 32, 3) := by decide +kernel
theorem dX11_text_60 : decode cX11_text 60 = .ok (.iconst 0, 1) := by decide +kernel
theorem dX11_text_61 : decode cX11_text 61 = .ok (.iaload, 1) := by decide +kernel
theorem dX11_text_62 : decode cX11_text 62 = .ok (.if_icmp .ge 42, 3) := by decide +kernel
theorem dX11_text_65 : decode cX11_text 65 = .ok (.aload_n 0, 1) := by decide +kernel
theorem dX11_text_66 : decode cX11_text 66 = .ok (.getfield 84, 3) := by decide +kernel
theorem dX11_text_69 : decode cX11_text 69 = .ok (.aload_n 0, 1) := by decide +kernel
theorem dX11_text_70 : decode cX11_text 70 = .ok (.getfield 32, 3) := by decide +kernel
theorem dX11_text_73 : decode cX11_text 73 = .ok (.iconst 1, 1) := by decide +kernel
theorem dX11_text_74 : decode cX11_text 74 = .ok (.iaload, 1) := by decide +kernel
theorem dX11_text_75 : decode cX11_text 75 = .ok (.if_icmp .ge 29, 3) := by decide +kernel
theorem dX11_text_78 : decode cX11_text 78 = .ok (.aload_n 0, 1) := by decide +kernel
theorem dX11_text_79 : decode cX11_text 79 = .ok (.getfield 78, 3) := by decide +kernel
theorem dX11_text_82 : decode cX11_text 82 = .ok (.aload_n 0, 1) := by decide +kernel
theorem dX11_text_83 : decode cX11_text 83 = .ok (.invokevirtual 105, 3) := by decide +kernel
theorem dX11_text_86 : decode cX11_text 86 = .ok (.if_icmp .ge 18, 3) := by decide +kernel
theorem dX11_text_89 : decode cX11_text 89 = .ok (.aload_n 0, 1) := by decide +kernel
theorem dX11_text_90 : decode cX11_text 90 = .ok (.invokevirtual 105, 3) := by decide +kernel
theorem dX11_text_93 : decode cX11_text 93 = .ok (.aload_n 0, 1) := by decide +kernel
theorem dX11_text_94 : decode cX11_text 94 = .ok (.getfield 71, 3) := by decide +kernel
theorem dX11_text_97 : decode cX11_text 97 = .ok (.if_icmp .gt 7, 3) := by decide +kernel
theorem dX11_text_100 : decode cX11_text 100 = .ok (.iconst 1, 1) := by decide +kernel
theorem dX11_text_101 : decode cX11_text 101 = .ok (.goto 4, 3) := by decide +kernel
theorem dX11_text_104 : decode cX11_text 104 = .ok (.iconst 0, 1) := by decide +kernel
theorem dX11_text_105 : decode cX11_text 105 = .ok (.bipush 6, 2) := by decide +kernel
theorem dX11_text_107 : decode cX11_text 107 = .ok (.invokevirtual 165, 3) := by decide +kernel
theorem dX11_text_110 : decode cX11_text 110 = .ok (.aload_n 0, 1) := by decide +kernel
theorem dX11_text_111 : decode cX11_text 111 = .ok (.aload_n 0, 1) := by decide +kernel
theorem dX11_text_112 : decode cX11_text 112 = .ok (.invokevirtual 211, 3) := by decide +kernel
theorem dX11_text_115 : decode cX11_text 115 = .ok (.bipush 7, 2) := by decide +kernel
theorem dX11_text_117 : decode cX11_text 117 = .ok (.invokevirtual 165, 3) := by decide +kernel
theorem dX11_text_120 : decode cX11_text 120 = .ok (.aload_n 0, 1) := by decide +kernel
theorem dX11_text_121 : decode cX11_text 121 = .ok (.iconst 0, 1) := by decide +kernel
theorem dX11_text_122 : decode cX11_text 122 = .ok (.putfield 115, 3) := by decide +kernel
theorem dX11_text_125 : decode cX11_text 125 = .ok (.aload_n 0, 1) := by decide +kernel
theorem dX11_text_126 : decode cX11_text 126 = .ok (.getfield 124, 3) := by decide +kernel
theorem dX11_text_129 : decode cX11_text 129 = .ok (.ifCond .le 11, 3) := by decide +kernel
theorem dX11_text_132 : decode cX11_text 132 = .ok (.bipush (-10), 2) := by decide +kernel
theorem dX11_text_134 : decode cX11_text 134 = .ok (.aload_n 0, 1) := by decide +kernel
theorem dX11_text_135 : decode cX11_text 135 = .ok (.getfield 130, 3) := by decide +kernel
theorem dX11_text_138 : decode cX11_text 138 = .ok (.isub, 1) := by decide +kernel
theorem dX11_text_139 : decode cX11_text 139 = .ok (.ireturn, 1) := by decide +kernel
theorem dX11_text_140 : decode cX11_text 140 = .ok (.aload_n 0, 1) := by decide +kernel
theorem dX11_text_141 : decode cX11_text 141 = .ok (.invokevirtual 68, 3) := by decide +kernel
theorem dX11_text_144 : decode cX11_text 144 = .ok (.iload_n 1, 1) := by decide +kernel
theorem dX11_text_145 : decode cX11_text 145 = .ok (.ireturn, 1) := by decide +kernel
theorem dX11_fault_0 : decode cX11_fault 0 = .ok (.aload_n 0, 1) := by decide +kernel
theorem dX11_fault_1 : decode cX11_fault 1 = .ok (.getfield 124, 3) := by decide +kernel
theorem dX11_fault_4 : decode cX11_fault 4 = .ok (.ireturn, 1) := by decide +kernel
theorem dX11_rule_0 : decode cX11_rule 0 = .ok (.iload_n 1, 1) := by decide +kernel
theorem dX11_rule_1 : decode cX11_rule 1 = .ok (.tableswitch 63 0 4 #[35, 40, 45, 50, 55], 35) := by decide +kernel
theorem dX11_rule_36 : decode cX11_rule 36 = .ok (.aload_n 0, 1) := by decide +kernel
theorem dX11_rule_37 : decode cX11_rule 37 = .ok (.getfield 90, 3) := by decide +kernel
theorem dX11_rule_40 : decode cX11_rule 40 = .ok (.ireturn, 1) := by decide +kernel
theorem dX11_rule_41 : decode cX11_rule 41 = .ok (.aload_n 0, 1) := by decide +kernel
theorem dX11_rule_42 : decode cX11_rule 42 = .ok (.getfield 93, 3) := by decide +kernel
theorem dX11_rule_45 : decode cX11_rule 45 = .ok (.ireturn, 1) := by decide +kernel
theorem dX11_rule_46 : decode cX11_rule 46 = .ok (.aload_n 0, 1) := by decide +kernel
theorem dX11_rule_47 : decode cX11_rule 47 = .ok (.getfield 96, 3) := by decide +kernel
theorem dX11_rule_50 : decode cX11_rule 50 = .ok (.ireturn, 1) := by decide +kernel
theorem dX11_rule_51 : decode cX11_rule 51 = .ok (.aload_n 0, 1) := by decide +kernel
theorem dX11_rule_52 : decode cX11_rule 52 = .ok (.getfield 99, 3) := by decide +kernel
theorem dX11_rule_55 : decode cX11_rule 55 = .ok (.ireturn, 1) := by decide +kernel
theorem dX11_rule_56 : decode cX11_rule 56 = .ok (.aload_n 0, 1) := by decide +kernel
theorem dX11_rule_57 : decode cX11_rule 57 = .ok (.getfield 7, 3) := by decide +kernel
theorem dX11_rule_60 : decode cX11_rule 60 = .ok (.bipush 81, 2) := by decide +kernel
theorem dX11_rule_62 : decode cX11_rule 62 = .ok (.iaload, 1) := by decide +kernel
theorem dX11_rule_63 : decode cX11_rule 63 = .ok (.ireturn, 1) := by decide +kernel
theorem dX11_rule_64 : decode cX11_rule 64 = .ok (.iconst (-1), 1) := by decide +kernel
theorem dX11_rule_65 : decode cX11_rule 65 = .ok (.ireturn, 1) := by decide +kernel
theorem dX11_isCell_0 : decode cX11_isCell 0 = .ok (.iload_n 1, 1) := by decide +kernel
theorem dX11_isCell_1 : decode cX11_isCell 1 = .ok (.i2l, 1) := by decide +kernel
theorem dX11_isCell_2 : decode cX11_isCell 2 = .ok (.lconst 0, 1) := by decide +kernel
theorem dX11_isCell_3 : decode cX11_isCell 3 = .ok (.ldc2_w 215, 3) := by decide +kernel
theorem dX11_isCell_6 : decode cX11_isCell 6 = .ok (.invokestatic 120, 3) := by decide +kernel
theorem dX11_isCell_9 : decode cX11_isCell 9 = .ok (.ifCond .eq 29, 3) := by decide +kernel
theorem dX11_isCell_12 : decode cX11_isCell 12 = .ok (.iload_n 1, 1) := by decide +kernel
theorem dX11_isCell_13 : decode cX11_isCell 13 = .ok (.bipush 9, 2) := by decide +kernel
theorem dX11_isCell_15 : decode cX11_isCell 15 = .ok (.irem, 1) := by decide +kernel
theorem dX11_isCell_16 : decode cX11_isCell 16 = .ok (.aload_n 0, 1) := by decide +kernel
theorem dX11_isCell_17 : decode cX11_isCell 17 = .ok (.getfield 90, 3) := by decide +kernel
theorem dX11_isCell_20 : decode cX11_isCell 20 = .ok (.if_icmp .ge 18, 3) := by decide +kernel
theorem dX11_isCell_23 : decode cX11_isCell 23 = .ok (.iload_n 1, 1) := by decide +kernel
theorem dX11_isCell_24 : decode cX11_isCell 24 = .ok (.bipush 9, 2) := by decide +kernel
theorem dX11_isCell_26 : decode cX11_isCell 26 = .ok (.idiv, 1) := by decide +kernel
theorem dX11_isCell_27 : decode cX11_isCell 27 = .ok (.aload_n 0, 1) := by decide +kernel
theorem dX11_isCell_28 : decode cX11_isCell 28 = .ok (.getfield 93, 3) := by decide +kernel
theorem dX11_isCell_31 : decode cX11_isCell 31 = .ok (.if_icmp .ge 7, 3) := by decide +kernel
theorem dX11_isCell_34 : decode cX11_isCell 34 = .ok (.iconst 1, 1) := by decide +kernel
theorem dX11_isCell_35 : decode cX11_isCell 35 = .ok (.goto 4, 3) := by decide +kernel
theorem dX11_isCell_38 : decode cX11_isCell 38 = .ok (.iconst 0, 1) := by decide +kernel
theorem dX11_isCell_39 : decode cX11_isCell 39 = .ok (.ireturn, 1) := by decide +kernel
theorem dX11_isBench_0 : decode cX11_isBench 0 = .ok (.iload_n 1, 1) := by decide +kernel
theorem dX11_isBench_1 : decode cX11_isBench 1 = .ok (.i2l, 1) := by decide +kernel
theorem dX11_isBench_2 : decode cX11_isBench 2 = .ok (.lconst 0, 1) := by decide +kernel
theorem dX11_isBench_3 : decode cX11_isBench 3 = .ok (.aload_n 0, 1) := by decide +kernel
theorem dX11_isBench_4 : decode cX11_isBench 4 = .ok (.getfield 102, 3) := by decide +kernel
theorem dX11_isBench_7 : decode cX11_isBench 7 = .ok (.iconst 1, 1) := by decide +kernel
theorem dX11_isBench_8 : decode cX11_isBench 8 = .ok (.isub, 1) := by decide +kernel
theorem dX11_isBench_9 : decode cX11_isBench 9 = .ok (.i2l, 1) := by decide +kernel
theorem dX11_isBench_10 : decode cX11_isBench 10 = .ok (.invokestatic 120, 3) := by decide +kernel
theorem dX11_isBench_13 : decode cX11_isBench 13 = .ok (.ireturn, 1) := by decide +kernel
theorem dX11_isOne_0 : decode cX11_isOne 0 = .ok (.iload_n 1, 1) := by decide +kernel
theorem dX11_isOne_1 : decode cX11_isOne 1 = .ok (.i2l, 1) := by decide +kernel
theorem dX11_isOne_2 : decode cX11_isOne 2 = .ok (.lconst 0, 1) := by decide +kernel
theorem dX11_isOne_3 : decode cX11_isOne 3 = .ok (.aload_n 0, 1) := by decide +kernel
theorem dX11_isOne_4 : decode cX11_isOne 4 = .ok (.getfield 109, 3) := by decide +kernel
theorem dX11_isOne_7 : decode cX11_isOne 7 = .ok (.iconst 1, 1) := by decide +kernel
theorem dX11_isOne_8 : decode cX11_isOne 8 = .ok (.isub, 1) := by decide +kernel
theorem dX11_isOne_9 : decode cX11_isOne 9 = .ok (.i2l, 1) := by decide +kernel
theorem dX11_isOne_10 : decode cX11_isOne 10 = .ok (.invokestatic 120, 3) := by decide +kernel
theorem dX11_isOne_13 : decode cX11_isOne 13 = .ok (.ireturn, 1) := by decide +kernel
theorem dX11_isHour_0 : decode cX11_isHour 0 = .ok (.iload_n 0, 1) := by decide +kernel
theorem dX11_isHour_1 : decode cX11_isHour 1 = .ok (.i2l, 1) := by decide +kernel
theorem dX11_isHour_2 : decode cX11_isHour 2 = .ok (.lconst 0, 1) := by decide +kernel
theorem dX11_isHour_3 : decode cX11_isHour 3 = .ok (.ldc2_w 217, 3) := by decide +kernel
theorem dX11_isHour_6 : decode cX11_isHour 6 = .ok (.invokestatic 120, 3) := by decide +kernel
theorem dX11_isHour_9 : decode cX11_isHour 9 = .ok (.ireturn, 1) := by decide +kernel
theorem dX11_cell_0 : decode cX11_cell 0 = .ok (.aload_n 0, 1) := by decide +kernel
theorem dX11_cell_1 : decode cX11_cell 1 = .ok (.iload_n 1, 1) := by decide +kernel
theorem dX11_cell_2 : decode cX11_cell 2 = .ok (.invokevirtual 219, 3) := by decide +kernel
theorem dX11_cell_5 : decode cX11_cell 5 = .ok (.ifCond .eq 12, 3) := by decide +kernel
theorem dX11_cell_8 : decode cX11_cell 8 = .ok (.aload_n 0, 1) := by decide +kernel
theorem dX11_cell_9 : decode cX11_cell 9 = .ok (.getfield 7, 3) := by decide +kernel
theorem dX11_cell_12 : decode cX11_cell 12 = .ok (.iload_n 1, 1) := by decide +kernel
theorem dX11_cell_13 : decode cX11_cell 13 = .ok (.iaload, 1) := by decide +kernel
theorem dX11_cell_14 : decode cX11_cell 14 = .ok (.goto 4, 3) := by decide +kernel
theorem dX11_cell_17 : decode cX11_cell 17 = .ok (.iconst (-1), 1) := by decide +kernel
theorem dX11_cell_18 : decode cX11_cell 18 = .ok (.ireturn, 1) := by decide +kernel
theorem dX11_kindOf_0 : decode cX11_kindOf 0 = .ok (.aload_n 0, 1) := by decide +kernel
theorem dX11_kindOf_1 : decode cX11_kindOf 1 = .ok (.getfield 17, 3) := by decide +kernel
theorem dX11_kindOf_4 : decode cX11_kindOf 4 = .ok (.iconst 4, 1) := by decide +kernel
theorem dX11_kindOf_5 : decode cX11_kindOf 5 = .ok (.iload_n 1, 1) := by decide +kernel
theorem dX11_kindOf_6 : decode cX11_kindOf 6 = .ok (.imul, 1) := by decide +kernel
theorem dX11_kindOf_7 : decode cX11_kindOf 7 = .ok (.iconst 3, 1) := by decide +kernel
theorem dX11_kindOf_8 : decode cX11_kindOf 8 = .ok (.iadd, 1) := by decide +kernel
theorem dX11_kindOf_9 : decode cX11_kindOf 9 = .ok (.iaload, 1) := by decide +kernel
theorem dX11_kindOf_10 : decode cX11_kindOf 10 = .ok (.ireturn, 1) := by decide +kernel
theorem dX11_cellOf_0 : decode cX11_cellOf 0 = .ok (.aload_n 0, 1) := by decide +kernel
theorem dX11_cellOf_1 : decode cX11_cellOf 1 = .ok (.getfield 17, 3) := by decide +kernel
theorem dX11_cellOf_4 : decode cX11_cellOf 4 = .ok (.iconst 4, 1) := by decide +kernel
theorem dX11_cellOf_5 : decode cX11_cellOf 5 = .ok (.iload_n 1, 1) := by decide +kernel
theorem dX11_cellOf_6 : decode cX11_cellOf 6 = .ok (.imul, 1) := by decide +kernel
theorem dX11_cellOf_7 : decode cX11_cellOf 7 = .ok (.iaload, 1) := by decide +kernel
theorem dX11_cellOf_8 : decode cX11_cellOf 8 = .ok (.istore_n 3, 1) := by decide +kernel
theorem dX11_cellOf_9 : decode cX11_cellOf 9 = .ok (.aload_n 0, 1) := by decide +kernel
theorem dX11_cellOf_10 : decode cX11_cellOf 10 = .ok (.iload_n 1, 1) := by decide +kernel
theorem dX11_cellOf_11 : decode cX11_cellOf 11 = .ok (.invokevirtual 223, 3) := by decide +kernel
theorem dX11_cellOf_14 : decode cX11_cellOf 14 = .ok (.iconst 2, 1) := by decide +kernel
theorem dX11_cellOf_15 : decode cX11_cellOf 15 = .ok (.if_icmp .ne 24, 3) := by decide +kernel
theorem dX11_cellOf_18 : decode cX11_cellOf 18 = .ok (.iload_n 3, 1) := by decide +kernel
theorem dX11_cellOf_19 : decode cX11_cellOf 19 = .ok (.iload_n 3, 1) := by decide +kernel
theorem dX11_cellOf_20 : decode cX11_cellOf 20 = .ok (.bipush 9, 2) := by decide +kernel
theorem dX11_cellOf_22 : decode cX11_cellOf 22 = .ok (.irem, 1) := by decide +kernel
theorem dX11_cellOf_23 : decode cX11_cellOf 23 = .ok (.isub, 1) := by decide +kernel
theorem dX11_cellOf_24 : decode cX11_cellOf 24 = .ok (.iload_n 3, 1) := by decide +kernel
theorem dX11_cellOf_25 : decode cX11_cellOf 25 = .ok (.bipush 9, 2) := by decide +kernel
theorem dX11_cellOf_27 : decode cX11_cellOf 27 = .ok (.irem, 1) := by decide +kernel
theorem dX11_cellOf_28 : decode cX11_cellOf 28 = .ok (.iload_n 2, 1) := by decide +kernel
theorem dX11_cellOf_29 : decode cX11_cellOf 29 = .ok (.iadd, 1) := by decide +kernel
theorem dX11_cellOf_30 : decode cX11_cellOf 30 = .ok (.aload_n 0, 1) := by decide +kernel
theorem dX11_cellOf_31 : decode cX11_cellOf 31 = .ok (.getfield 90, 3) := by decide +kernel
theorem dX11_cellOf_34 : decode cX11_cellOf 34 = .ok (.irem, 1) := by decide +kernel
theorem dX11_cellOf_35 : decode cX11_cellOf 35 = .ok (.iadd, 1) := by decide +kernel
theorem dX11_cellOf_36 : decode cX11_cellOf 36 = .ok (.goto 4, 3) := by decide +kernel
theorem dX11_cellOf_39 : decode cX11_cellOf 39 = .ok (.iload_n 3, 1) := by decide +kernel
theorem dX11_cellOf_40 : decode cX11_cellOf 40 = .ok (.ireturn, 1) := by decide +kernel
theorem dX11_facingOf_0 : decode cX11_facingOf 0 = .ok (.aload_n 0, 1) := by decide +kernel
theorem dX11_facingOf_1 : decode cX11_facingOf 1 = .ok (.iload_n 1, 1) := by decide +kernel
theorem dX11_facingOf_2 : decode cX11_facingOf 2 = .ok (.invokevirtual 223, 3) := by decide +kernel
theorem dX11_facingOf_5 : decode cX11_facingOf 5 = .ok (.i2l, 1) := by decide +kernel
theorem dX11_facingOf_6 : decode cX11_facingOf 6 = .ok (.lconst 1, 1) := by decide +kernel
theorem dX11_facingOf_7 : decode cX11_facingOf 7 = .ok (.ldc2_w 226, 3) := by decide +kernel
theorem dX11_facingOf_10 : decode cX11_facingOf 10 = .ok (.invokestatic 120, 3) := by decide +kernel
theorem dX11_facingOf_13 : decode cX11_facingOf 13 = .ok (.ifCond .eq 21, 3) := by decide +kernel
theorem dX11_facingOf_16 : decode cX11_facingOf 16 = .ok (.aload_n 0, 1) := by decide +kernel
theorem dX11_facingOf_17 : decode cX11_facingOf 17 = .ok (.getfield 17, 3) := by decide +kernel
theorem dX11_facingOf_20 : decode cX11_facingOf 20 = .ok (.iconst 4, 1) := by decide +kernel
theorem dX11_facingOf_21 : decode cX11_facingOf 21 = .ok (.iload_n 1, 1) := by decide +kernel
theorem dX11_facingOf_22 : decode cX11_facingOf 22 = .ok (.imul, 1) := by decide +kernel
theorem dX11_facingOf_23 : decode cX11_facingOf 23 = .ok (.iconst 1, 1) := by decide +kernel
theorem dX11_facingOf_24 : decode cX11_facingOf 24 = .ok (.iadd, 1) := by decide +kernel
theorem dX11_facingOf_25 : decode cX11_facingOf 25 = .ok (.iaload, 1) := by decide +kernel
theorem dX11_facingOf_26 : decode cX11_facingOf 26 = .ok (.iload_n 2, 1) := by decide +kernel
theorem dX11_facingOf_27 : decode cX11_facingOf 27 = .ok (.iadd, 1) := by decide +kernel
theorem dX11_facingOf_28 : decode cX11_facingOf 28 = .ok (.bipush 8, 2) := by decide +kernel
theorem dX11_facingOf_30 : decode cX11_facingOf 30 = .ok (.irem, 1) := by decide +kernel
theorem dX11_facingOf_31 : decode cX11_facingOf 31 = .ok (.goto 13, 3) := by decide +kernel
theorem dX11_facingOf_34 : decode cX11_facingOf 34 = .ok (.aload_n 0, 1) := by decide +kernel
theorem dX11_facingOf_35 : decode cX11_facingOf 35 = .ok (.getfield 17, 3) := by decide +kernel
theorem dX11_facingOf_38 : decode cX11_facingOf 38 = .ok (.iconst 4, 1) := by decide +kernel
theorem dX11_facingOf_39 : decode cX11_facingOf 39 = .ok (.iload_n 1, 1) := by decide +kernel
theorem dX11_facingOf_40 : decode cX11_facingOf 40 = .ok (.imul, 1) := by decide +kernel
theorem dX11_facingOf_41 : decode cX11_facingOf 41 = .ok (.iconst 1, 1) := by decide +kernel
theorem dX11_facingOf_42 : decode cX11_facingOf 42 = .ok (.iadd, 1) := by decide +kernel
theorem dX11_facingOf_43 : decode cX11_facingOf 43 = .ok (.iaload, 1) := by decide +kernel
theorem dX11_facingOf_44 : decode cX11_facingOf 44 = .ok (.ireturn, 1) := by decide +kernel
theorem dX11_earOf_0 : decode cX11_earOf 0 = .ok (.aload_n 0, 1) := by decide +kernel
theorem dX11_earOf_1 : decode cX11_earOf 1 = .ok (.getfield 17, 3) := by decide +kernel
theorem dX11_earOf_4 : decode cX11_earOf 4 = .ok (.iconst 4, 1) := by decide +kernel
theorem dX11_earOf_5 : decode cX11_earOf 5 = .ok (.iload_n 1, 1) := by decide +kernel
theorem dX11_earOf_6 : decode cX11_earOf 6 = .ok (.imul, 1) := by decide +kernel
theorem dX11_earOf_7 : decode cX11_earOf 7 = .ok (.iconst 2, 1) := by decide +kernel
theorem dX11_earOf_8 : decode cX11_earOf 8 = .ok (.iadd, 1) := by decide +kernel
theorem dX11_earOf_9 : decode cX11_earOf 9 = .ok (.iaload, 1) := by decide +kernel
theorem dX11_earOf_10 : decode cX11_earOf 10 = .ok (.iconst 2, 1) := by decide +kernel
theorem dX11_earOf_11 : decode cX11_earOf 11 = .ok (.idiv, 1) := by decide +kernel
theorem dX11_earOf_12 : decode cX11_earOf 12 = .ok (.istore_n 2, 1) := by decide +kernel
theorem dX11_earOf_13 : decode cX11_earOf 13 = .ok (.aload_n 0, 1) := by decide +kernel
theorem dX11_earOf_14 : decode cX11_earOf 14 = .ok (.iload_n 1, 1) := by decide +kernel
theorem dX11_earOf_15 : decode cX11_earOf 15 = .ok (.invokevirtual 223, 3) := by decide +kernel
theorem dX11_earOf_18 : decode cX11_earOf 18 = .ok (.iconst 4, 1) := by decide +kernel
theorem dX11_earOf_19 : decode cX11_earOf 19 = .ok (.if_icmp .eq 16, 3) := by decide +kernel
theorem dX11_earOf_22 : decode cX11_earOf 22 = .ok (.aload_n 0, 1) := by decide +kernel
theorem dX11_earOf_23 : decode cX11_earOf 23 = .ok (.getfield 17, 3) := by decide +kernel
theorem dX11_earOf_26 : decode cX11_earOf 26 = .ok (.iconst 4, 1) := by decide +kernel
theorem dX11_earOf_27 : decode cX11_earOf 27 = .ok (.iload_n 1, 1) := by decide +kernel
theorem dX11_earOf_28 : decode cX11_earOf 28 = .ok (.imul, 1) := by decide +kernel
theorem dX11_earOf_29 : decode cX11_earOf 29 = .ok (.iconst 2, 1) := by decide +kernel
theorem dX11_earOf_30 : decode cX11_earOf 30 = .ok (.iadd, 1) := by decide +kernel
theorem dX11_earOf_31 : decode cX11_earOf 31 = .ok (.iaload, 1) := by decide +kernel
theorem dX11_earOf_32 : decode cX11_earOf 32 = .ok (.goto 13, 3) := by decide +kernel
theorem dX11_earOf_35 : decode cX11_earOf 35 = .ok (.iload_n 2, 1) := by decide +kernel
theorem dX11_earOf_36 : decode cX11_earOf 36 = .ok (.iconst 1, 1) := by decide +kernel
theorem dX11_earOf_37 : decode cX11_earOf 37 = .ok (.if_icmp .le 7, 3) := by decide +kernel
theorem dX11_earOf_40 : decode cX11_earOf 40 = .ok (.iload_n 2, 1) := by decide +kernel
theorem dX11_earOf_41 : decode cX11_earOf 41 = .ok (.goto 4, 3) := by decide +kernel
theorem dX11_earOf_44 : decode cX11_earOf 44 = .ok (.iconst 1, 1) := by decide +kernel
theorem dX11_earOf_45 : decode cX11_earOf 45 = .ok (.ireturn, 1) := by decide +kernel
theorem dX11_whoOn_0 : decode cX11_whoOn 0 = .ok (.bipush (-4), 2) := by decide +kernel
theorem dX11_whoOn_2 : decode cX11_whoOn 2 = .ok (.istore_n 2, 1) := by decide +kernel
theorem dX11_whoOn_3 : decode cX11_whoOn 3 = .ok (.iconst 0, 1) := by decide +kernel
theorem dX11_whoOn_4 : decode cX11_whoOn 4 = .ok (.istore_n 3, 1) := by decide +kernel
theorem dX11_whoOn_5 : decode cX11_whoOn 5 = .ok (.iload_n 3, 1) := by decide +kernel
theorem dX11_whoOn_6 : decode cX11_whoOn 6 = .ok (.aload_n 0, 1) := by decide +kernel
theorem dX11_whoOn_7 : decode cX11_whoOn 7 = .ok (.getfield 109, 3) := by decide +kernel
theorem dX11_whoOn_10 : decode cX11_whoOn 10 = .ok (.if_icmp .ge 28, 3) := by decide +kernel
theorem dX11_whoOn_13 : decode cX11_whoOn 13 = .ok (.aload_n 0, 1) := by decide +kernel
theorem dX11_whoOn_14 : decode cX11_whoOn 14 = .ok (.getfield 7, 3) := by decide +kernel
theorem dX11_whoOn_17 : decode cX11_whoOn 17 = .ok (.bipush 82, 2) := by decide +kernel
theorem dX11_whoOn_19 : decode cX11_whoOn 19 = .ok (.iload_n 3, 1) := by decide +kernel
theorem dX11_whoOn_20 : decode cX11_whoOn 20 = .ok (.iadd, 1) := by decide +kernel
theorem dX11_whoOn_21 : decode cX11_whoOn 21 = .ok (.iaload, 1) := by decide +kernel
theorem dX11_whoOn_22 : decode cX11_whoOn 22 = .ok (.iload_n 1, 1) := by decide +kernel
theorem dX11_whoOn_23 : decode cX11_whoOn 23 = .ok (.if_icmp .ne 7, 3) := by decide +kernel
theorem dX11_whoOn_26 : decode cX11_whoOn 26 = .ok (.iload_n 3, 1) := by decide +kernel
theorem dX11_whoOn_27 : decode cX11_whoOn 27 = .ok (.goto 4, 3) := by decide +kernel
theorem dX11_whoOn_30 : decode cX11_whoOn 30 = .ok (.iload_n 2, 1) := by decide +kernel
theorem dX11_whoOn_31 : decode cX11_whoOn 31 = .ok (.istore_n 2, 1) := by decide +kernel
theorem dX11_whoOn_32 : decode cX11_whoOn 32 = .ok (.iinc 3 1, 3) := by decide +kernel
theorem dX11_whoOn_35 : decode cX11_whoOn 35 = .ok (.goto (-30), 3) := by decide +kernel
theorem dX11_whoOn_38 : decode cX11_whoOn 38 = .ok (.iload_n 2, 1) := by decide +kernel
theorem dX11_whoOn_39 : decode cX11_whoOn 39 = .ok (.ireturn, 1) := by decide +kernel
theorem dX11_bench_0 : decode cX11_bench 0 = .ok (.aload_n 0, 1) := by decide +kernel
theorem dX11_bench_1 : decode cX11_bench 1 = .ok (.iload_n 1, 1) := by decide +kernel
theorem dX11_bench_2 : decode cX11_bench 2 = .ok (.invokevirtual 228, 3) := by decide +kernel
theorem dX11_bench_5 : decode cX11_bench 5 = .ok (.ifCond .eq 10, 3) := by decide +kernel
theorem dX11_bench_8 : decode cX11_bench 8 = .ok (.iload_n 2, 1) := by decide +kernel
theorem dX11_bench_9 : decode cX11_bench 9 = .ok (.invokestatic 231, 3) := by decide +kernel
theorem dX11_bench_12 : decode cX11_bench 12 = .ok (.ifCond .ne 5, 3) := by decide +kernel
theorem dX11_bench_15 : decode cX11_bench 15 = .ok (.iconst (-1), 1) := by decide +kernel
theorem dX11_bench_16 : decode cX11_bench 16 = .ok (.ireturn, 1) := by decide +kernel
theorem dX11_bench_17 : decode cX11_bench 17 = .ok (.iload_n 3, 1) := by decide +kernel
theorem dX11_bench_18 : decode cX11_bench 18 = .ok (.tableswitch 66 0 4 #[34, 41, 48, 54, 60], 34) := by decide +kernel
theorem dX11_bench_52 : decode cX11_bench 52 = .ok (.aload_n 0, 1) := by decide +kernel
theorem dX11_bench_53 : decode cX11_bench 53 = .ok (.iload_n 1, 1) := by decide +kernel
theorem dX11_bench_54 : decode cX11_bench 54 = .ok (.iload_n 2, 1) := by decide +kernel
theorem dX11_bench_55 : decode cX11_bench 55 = .ok (.invokevirtual 234, 3) := by decide +kernel
theorem dX11_bench_58 : decode cX11_bench 58 = .ok (.ireturn, 1) := by decide +kernel
theorem dX11_bench_59 : decode cX11_bench 59 = .ok (.aload_n 0, 1) := by decide +kernel
theorem dX11_bench_60 : decode cX11_bench 60 = .ok (.iload_n 1, 1) := by decide +kernel
theorem dX11_bench_61 : decode cX11_bench 61 = .ok (.iload_n 2, 1) := by decide +kernel
theorem dX11_bench_62 : decode cX11_bench 62 = .ok (.invokevirtual 237, 3) := by decide +kernel
theorem dX11_bench_65 : decode cX11_bench 65 = .ok (.ireturn, 1) := by decide +kernel
theorem dX11_bench_66 : decode cX11_bench 66 = .ok (.aload_n 0, 1) := by decide +kernel
theorem dX11_bench_67 : decode cX11_bench 67 = .ok (.iload_n 1, 1) := by decide +kernel
theorem dX11_bench_68 : decode cX11_bench 68 = .ok (.invokevirtual 240, 3) := by decide +kernel
theorem dX11_bench_71 : decode cX11_bench 71 = .ok (.ireturn, 1) := by decide +kernel
theorem dX11_bench_72 : decode cX11_bench 72 = .ok (.aload_n 0, 1) := by decide +kernel
theorem dX11_bench_73 : decode cX11_bench 73 = .ok (.iload_n 1, 1) := by decide +kernel
theorem dX11_bench_74 : decode cX11_bench 74 = .ok (.invokevirtual 223, 3) := by decide +kernel
theorem dX11_bench_77 : decode cX11_bench 77 = .ok (.ireturn, 1) := by decide +kernel
theorem dX11_bench_78 : decode cX11_bench 78 = .ok (.aload_n 0, 1) := by decide +kernel
theorem dX11_bench_79 : decode cX11_bench 79 = .ok (.iload_n 1, 1) := by decide +kernel
theorem dX11_bench_80 : decode cX11_bench 80 = .ok (.invokevirtual 243, 3) := by decide +kernel
theorem dX11_bench_83 : decode cX11_bench 83 = .ok (.ireturn, 1) := by decide +kernel
theorem dX11_bench_84 : decode cX11_bench 84 = .ok (.iconst (-1), 1) := by decide +kernel
theorem dX11_bench_85 : decode cX11_bench 85 = .ok (.ireturn, 1) := by decide +kernel
theorem dX11_want_0 : decode cX11_want 0 = .ok (.iload_n 1, 1) := by decide +kernel
theorem dX11_want_1 : decode cX11_want 1 = .ok (.i2l, 1) := by decide +kernel
theorem dX11_want_2 : decode cX11_want 2 = .ok (.lconst 0, 1) := by decide +kernel
theorem dX11_want_3 : decode cX11_want 3 = .ok (.aload_n 0, 1) := by decide +kernel
theorem dX11_want_4 : decode cX11_want 4 = .ok (.getfield 112, 3) := by decide +kernel
theorem dX11_want_7 : decode cX11_want 7 = .ok (.iconst 1, 1) := by decide +kernel
theorem dX11_want_8 : decode cX11_want 8 = .ok (.isub, 1) := by decide +kernel
theorem dX11_want_9 : decode cX11_want 9 = .ok (.i2l, 1) := by decide +kernel
theorem dX11_want_10 : decode cX11_want 10 = .ok (.invokestatic 120, 3) := by decide +kernel
theorem dX11_want_13 : decode cX11_want 13 = .ok (.ifCond .eq 28, 3) := by decide +kernel
theorem dX11_want_16 : decode cX11_want 16 = .ok (.iload_n 2, 1) := by decide +kernel
theorem dX11_want_17 : decode cX11_want 17 = .ok (.i2l, 1) := by decide +kernel
theorem dX11_want_18 : decode cX11_want 18 = .ok (.lconst 0, 1) := by decide +kernel
theorem dX11_want_19 : decode cX11_want 19 = .ok (.ldc2_w 226, 3) := by decide +kernel
theorem dX11_want_22 : decode cX11_want 22 = .ok (.invokestatic 120, 3) := by decide +kernel
theorem dX11_want_25 : decode cX11_want 25 = .ok (.ifCond .eq 16, 3) := by decide +kernel
theorem dX11_want_28 : decode cX11_want 28 = .ok (.aload_n 0, 1) := by decide +kernel
theorem dX11_want_29 : decode cX11_want 29 = .ok (.getfield 20, 3) := by decide +kernel
theorem dX11_want_32 : decode cX11_want 32 = .ok (.iconst 3, 1) := by decide +kernel
theorem dX11_want_33 : decode cX11_want 33 = .ok (.iload_n 1, 1) := by decide +kernel
theorem dX11_want_34 : decode cX11_want 34 = .ok (.imul, 1) := by decide +kernel
theorem dX11_want_35 : decode cX11_want 35 = .ok (.iload_n 2, 1) := by decide +kernel
theorem dX11_want_36 : decode cX11_want 36 = .ok (.iadd, 1) := by decide +kernel
theorem dX11_want_37 : decode cX11_want 37 = .ok (.iaload, 1) := by decide +kernel
theorem dX11_want_38 : decode cX11_want 38 = .ok (.goto 4, 3) := by decide +kernel
theorem dX11_want_41 : decode cX11_want 41 = .ok (.iconst (-1), 1) := by decide +kernel
theorem dX11_want_42 : decode cX11_want 42 = .ok (.ireturn, 1) := by decide +kernel
theorem dX11_hang_0 : decode cX11_hang 0 = .ok (.aload_n 0, 1) := by decide +kernel
theorem dX11_hang_1 : decode cX11_hang 1 = .ok (.iload_n 1, 1) := by decide +kernel
theorem dX11_hang_2 : decode cX11_hang 2 = .ok (.invokevirtual 219, 3) := by decide +kernel
theorem dX11_hang_5 : decode cX11_hang 5 = .ok (.ifCond .eq 15, 3) := by decide +kernel
theorem dX11_hang_8 : decode cX11_hang 8 = .ok (.iload_n 2, 1) := by decide +kernel
theorem dX11_hang_9 : decode cX11_hang 9 = .ok (.i2l, 1) := by decide +kernel
theorem dX11_hang_10 : decode cX11_hang 10 = .ok (.lconst 0, 1) := by decide +kernel
theorem dX11_hang_11 : decode cX11_hang 11 = .ok (.ldc2_w 226, 3) := by decide +kernel
theorem dX11_hang_14 : decode cX11_hang 14 = .ok (.invokestatic 120, 3) := by decide +kernel
theorem dX11_hang_17 : decode cX11_hang 17 = .ok (.ifCond .ne 5, 3) := by decide +kernel
theorem dX11_hang_20 : decode cX11_hang 20 = .ok (.iconst (-1), 1) := by decide +kernel
theorem dX11_hang_21 : decode cX11_hang 21 = .ok (.ireturn, 1) := by decide +kernel
theorem dX11_hang_22 : decode cX11_hang 22 = .ok (.iconst 0, 1) := by decide +kernel
theorem dX11_hang_23 : decode cX11_hang 23 = .ok (.istore_n 3, 1) := by decide +kernel
theorem dX11_hang_24 : decode cX11_hang 24 = .ok (.iload_n 3, 1) := by decide +kernel
theorem dX11_hang_25 : decode cX11_hang 25 = .ok (.aload_n 0, 1) := by decide +kernel
theorem dX11_hang_26 : decode cX11_hang 26 = .ok (.getfield 102, 3) := by decide +kernel
theorem dX11_hang_29 : decode cX11_hang 29 = .ok (.if_icmp .ge 28, 3) := by decide +kernel
theorem dX11_hang_32 : decode cX11_hang 32 = .ok (.aload_n 0, 1) := by decide +kernel
theorem dX11_hang_33 : decode cX11_hang 33 = .ok (.getfield 17, 3) := by decide +kernel
theorem dX11_hang_36 : decode cX11_hang 36 = .ok (.iconst 4, 1) := by decide +kernel
theorem dX11_hang_37 : decode cX11_hang 37 = .ok (.iload_n 3, 1) := by decide +kernel
theorem dX11_hang_38 : decode cX11_hang 38 = .ok (.imul, 1) := by decide +kernel
theorem dX11_hang_39 : decode cX11_hang 39 = .ok (.iaload, 1) := by decide +kernel
theorem dX11_hang_40 : decode cX11_hang 40 = .ok (.iload_n 1, 1) := by decide +kernel
theorem dX11_hang_41 : decode cX11_hang 41 = .ok (.if_icmp .ne 10, 3) := by decide +kernel
theorem dX11_hang_44 : decode cX11_hang 44 = .ok (.iload_n 2, 1) := by decide +kernel
theorem dX11_hang_45 : decode cX11_hang 45 = .ok (.ifCond .le 6, 3) := by decide +kernel
theorem dX11_hang_48 : decode cX11_hang 48 = .ok (.bipush (-2), 2) := by decide +kernel
theorem dX11_hang_50 : decode cX11_hang 50 = .ok (.ireturn, 1) := by decide +kernel
theorem dX11_hang_51 : decode cX11_hang 51 = .ok (.iinc 3 1, 3) := by decide +kernel
theorem dX11_hang_54 : decode cX11_hang 54 = .ok (.goto (-30), 3) := by decide +kernel
theorem dX11_hang_57 : decode cX11_hang 57 = .ok (.aload_n 0, 1) := by decide +kernel
theorem dX11_hang_58 : decode cX11_hang 58 = .ok (.getfield 7, 3) := by decide +kernel
theorem dX11_hang_61 : decode cX11_hang 61 = .ok (.iload_n 1, 1) := by decide +kernel
theorem dX11_hang_62 : decode cX11_hang 62 = .ok (.iaload, 1) := by decide +kernel
theorem dX11_hang_63 : decode cX11_hang 63 = .ok (.istore_n 3, 1) := by decide +kernel
theorem dX11_hang_64 : decode cX11_hang 64 = .ok (.aload_n 0, 1) := by decide +kernel
theorem dX11_hang_65 : decode cX11_hang 65 = .ok (.getfield 7, 3) := by decide +kernel
theorem dX11_hang_68 : decode cX11_hang 68 = .ok (.iload_n 1, 1) := by decide +kernel
theorem dX11_hang_69 : decode cX11_hang 69 = .ok (.iload_n 2, 1) := by decide +kernel
theorem dX11_hang_70 : decode cX11_hang 70 = .ok (.iastore, 1) := by decide +kernel
theorem dX11_hang_71 : decode cX11_hang 71 = .ok (.iload_n 3, 1) := by decide +kernel
theorem dX11_hang_72 : decode cX11_hang 72 = .ok (.ireturn, 1) := by decide +kernel
theorem dX11_warm_0 : decode cX11_warm 0 = .ok (.iload_n 1, 1) := by decide +kernel
theorem dX11_warm_1 : decode cX11_warm 1 = .ok (.i2l, 1) := by decide +kernel
theorem dX11_warm_2 : decode cX11_warm 2 = .ok (.lconst 0, 1) := by decide +kernel
theorem dX11_warm_3 : decode cX11_warm 3 = .ok (.ldc2_w 246, 3) := by decide +kernel
theorem dX11_warm_6 : decode cX11_warm 6 = .ok (.invokestatic 120, 3) := by decide +kernel
theorem dX11_warm_9 : decode cX11_warm 9 = .ok (.ifCond .ne 5, 3) := by decide +kernel
theorem dX11_warm_12 : decode cX11_warm 12 = .ok (.iconst (-1), 1) := by decide +kernel
theorem dX11_warm_13 : decode cX11_warm 13 = .ok (.ireturn, 1) := by decide +kernel
theorem dX11_warm_14 : decode cX11_warm 14 = .ok (.aload_n 0, 1) := by decide +kernel
theorem dX11_warm_15 : decode cX11_warm 15 = .ok (.getfield 7, 3) := by decide +kernel
theorem dX11_warm_18 : decode cX11_warm 18 = .ok (.bipush 81, 2) := by decide +kernel
theorem dX11_warm_20 : decode cX11_warm 20 = .ok (.iaload, 1) := by decide +kernel
theorem dX11_warm_21 : decode cX11_warm 21 = .ok (.istore_n 2, 1) := by decide +kernel
theorem dX11_warm_22 : decode cX11_warm 22 = .ok (.aload_n 0, 1) := by decide +kernel
theorem dX11_warm_23 : decode cX11_warm 23 = .ok (.getfield 7, 3) := by decide +kernel
theorem dX11_warm_26 : decode cX11_warm 26 = .ok (.bipush 81, 2) := by decide +kernel
theorem dX11_warm_28 : decode cX11_warm 28 = .ok (.iload_n 1, 1) := by decide +kernel
theorem dX11_warm_29 : decode cX11_warm 29 = .ok (.iastore, 1) := by decide +kernel
theorem dX11_warm_30 : decode cX11_warm 30 = .ok (.iload_n 2, 1) := by decide +kernel
theorem dX11_warm_31 : decode cX11_warm 31 = .ok (.ireturn, 1) := by decide +kernel
theorem dX11_sit_0 : decode cX11_sit 0 = .ok (.aload_n 0, 1) := by decide +kernel
theorem dX11_sit_1 : decode cX11_sit 1 = .ok (.iload_n 1, 1) := by decide +kernel
theorem dX11_sit_2 : decode cX11_sit 2 = .ok (.invokevirtual 248, 3) := by decide +kernel
theorem dX11_sit_5 : decode cX11_sit 5 = .ok (.ifCond .eq 11, 3) := by decide +kernel
theorem dX11_sit_8 : decode cX11_sit 8 = .ok (.aload_n 0, 1) := by decide +kernel
theorem dX11_sit_9 : decode cX11_sit 9 = .ok (.iload_n 2, 1) := by decide +kernel
theorem dX11_sit_10 : decode cX11_sit 10 = .ok (.invokevirtual 228, 3) := by decide +kernel
theorem dX11_sit_13 : decode cX11_sit 13 = .ok (.ifCond .ne 5, 3) := by decide +kernel
theorem dX11_sit_16 : decode cX11_sit 16 = .ok (.iconst (-1), 1) := by decide +kernel
theorem dX11_sit_17 : decode cX11_sit 17 = .ok (.ireturn, 1) := by decide +kernel
theorem dX11_sit_18 : decode cX11_sit 18 = .ok (.aload_n 0, 1) := by decide +kernel
theorem dX11_sit_19 : decode cX11_sit 19 = .ok (.getfield 7, 3) := by decide +kernel
theorem dX11_sit_22 : decode cX11_sit 22 = .ok (.bipush 82, 2) := by decide +kernel
theorem dX11_sit_24 : decode cX11_sit 24 = .ok (.iload_n 1, 1) := by decide +kernel
theorem dX11_sit_25 : decode cX11_sit 25 = .ok (.iadd, 1) := by decide +kernel
theorem dX11_sit_26 : decode cX11_sit 26 = .ok (.iaload, 1) := by decide +kernel
theorem dX11_sit_27 : decode cX11_sit 27 = .ok (.istore_n 3, 1) := by decide +kernel
theorem dX11_sit_28 : decode cX11_sit 28 = .ok (.aload_n 0, 1) := by decide +kernel
theorem dX11_sit_29 : decode cX11_sit 29 = .ok (.iload_n 2, 1) := by decide +kernel
theorem dX11_sit_30 : decode cX11_sit 30 = .ok (.invokevirtual 243, 3) := by decide +kernel
theorem dX11_sit_33 : decode cX11_sit 33 = .ok (.istore 4, 2) := by decide +kernel
theorem dX11_sit_35 : decode cX11_sit 35 = .ok (.iload 4, 2) := by decide +kernel
theorem dX11_sit_37 : decode cX11_sit 37 = .ok (.bipush (-4), 2) := by decide +kernel
theorem dX11_sit_39 : decode cX11_sit 39 = .ok (.if_icmp .eq 14, 3) := by decide +kernel
theorem dX11_sit_42 : decode cX11_sit 42 = .ok (.aload_n 0, 1) := by decide +kernel
theorem dX11_sit_43 : decode cX11_sit 43 = .ok (.getfield 7, 3) := by decide +kernel
theorem dX11_sit_46 : decode cX11_sit 46 = .ok (.bipush 82, 2) := by decide +kernel
theorem dX11_sit_48 : decode cX11_sit 48 = .ok (.iload 4, 2) := by decide +kernel
theorem dX11_sit_50 : decode cX11_sit 50 = .ok (.iadd, 1) := by decide +kernel
theorem dX11_sit_51 : decode cX11_sit 51 = .ok (.iload_n 3, 1) := by decide +kernel
theorem dX11_sit_52 : decode cX11_sit 52 = .ok (.iastore, 1) := by decide +kernel
theorem dX11_sit_53 : decode cX11_sit 53 = .ok (.aload_n 0, 1) := by decide +kernel
theorem dX11_sit_54 : decode cX11_sit 54 = .ok (.getfield 7, 3) := by decide +kernel
theorem dX11_sit_57 : decode cX11_sit 57 = .ok (.bipush 82, 2) := by decide +kernel
theorem dX11_sit_59 : decode cX11_sit 59 = .ok (.iload_n 1, 1) := by decide +kernel
theorem dX11_sit_60 : decode cX11_sit 60 = .ok (.iadd, 1) := by decide +kernel
theorem dX11_sit_61 : decode cX11_sit 61 = .ok (.iload_n 2, 1) := by decide +kernel
theorem dX11_sit_62 : decode cX11_sit 62 = .ok (.iastore, 1) := by decide +kernel
theorem dX11_sit_63 : decode cX11_sit 63 = .ok (.iload_n 3, 1) := by decide +kernel
theorem dX11_sit_64 : decode cX11_sit 64 = .ok (.ireturn, 1) := by decide +kernel
theorem dX11_rightOf_0 : decode cX11_rightOf 0 = .ok (.iload_n 0, 1) := by decide +kernel
theorem dX11_rightOf_1 : decode cX11_rightOf 1 = .ok (.i2l, 1) := by decide +kernel
theorem dX11_rightOf_2 : decode cX11_rightOf 2 = .ok (.lconst 1, 1) := by decide +kernel
theorem dX11_rightOf_3 : decode cX11_rightOf 3 = .ok (.ldc2_w 251, 3) := by decide +kernel
theorem dX11_rightOf_6 : decode cX11_rightOf 6 = .ok (.invokestatic 120, 3) := by decide +kernel
theorem dX11_rightOf_9 : decode cX11_rightOf 9 = .ok (.ifCond .eq 7, 3) := by decide +kernel
theorem dX11_rightOf_12 : decode cX11_rightOf 12 = .ok (.iconst 1, 1) := by decide +kernel
theorem dX11_rightOf_13 : decode cX11_rightOf 13 = .ok (.goto 22, 3) := by decide +kernel
theorem dX11_rightOf_16 : decode cX11_rightOf 16 = .ok (.iload_n 0, 1) := by decide +kernel
theorem dX11_rightOf_17 : decode cX11_rightOf 17 = .ok (.i2l, 1) := by decide +kernel
theorem dX11_rightOf_18 : decode cX11_rightOf 18 = .ok (.ldc2_w 253, 3) := by decide +kernel
theorem dX11_rightOf_21 : decode cX11_rightOf 21 = .ok (.ldc2_w 255, 3) := by decide +kernel
theorem dX11_rightOf_24 : decode cX11_rightOf 24 = .ok (.invokestatic 120, 3) := by decide +kernel
theorem dX11_rightOf_27 : decode cX11_rightOf 27 = .ok (.ifCond .eq 7, 3) := by decide +kernel
theorem dX11_rightOf_30 : decode cX11_rightOf 30 = .ok (.iconst (-1), 1) := by decide +kernel
theorem dX11_rightOf_31 : decode cX11_rightOf 31 = .ok (.goto 4, 3) := by decide +kernel
theorem dX11_rightOf_34 : decode cX11_rightOf 34 = .ok (.iconst 0, 1) := by decide +kernel
theorem dX11_rightOf_35 : decode cX11_rightOf 35 = .ok (.ireturn, 1) := by decide +kernel
theorem dX11_downOf_0 : decode cX11_downOf 0 = .ok (.iload_n 0, 1) := by decide +kernel
theorem dX11_downOf_1 : decode cX11_downOf 1 = .ok (.i2l, 1) := by decide +kernel
theorem dX11_downOf_2 : decode cX11_downOf 2 = .ok (.ldc2_w 251, 3) := by decide +kernel
theorem dX11_downOf_5 : decode cX11_downOf 5 = .ok (.ldc2_w 253, 3) := by decide +kernel
theorem dX11_downOf_8 : decode cX11_downOf 8 = .ok (.invokestatic 120, 3) := by decide +kernel
theorem dX11_downOf_11 : decode cX11_downOf 11 = .ok (.ifCond .eq 7, 3) := by decide +kernel
theorem dX11_downOf_14 : decode cX11_downOf 14 = .ok (.iconst 1, 1) := by decide +kernel
theorem dX11_downOf_15 : decode cX11_downOf 15 = .ok (.goto 19, 3) := by decide +kernel
theorem dX11_downOf_18 : decode cX11_downOf 18 = .ok (.iload_n 0, 1) := by decide +kernel
theorem dX11_downOf_19 : decode cX11_downOf 19 = .ok (.iconst 2, 1) := by decide +kernel
theorem dX11_downOf_20 : decode cX11_downOf 20 = .ok (.if_icmp .eq 9, 3) := by decide +kernel
theorem dX11_downOf_23 : decode cX11_downOf 23 = .ok (.iload_n 0, 1) := by decide +kernel
theorem dX11_downOf_24 : decode cX11_downOf 24 = .ok (.bipush 6, 2) := by decide +kernel
theorem dX11_downOf_26 : decode cX11_downOf 26 = .ok (.if_icmp .ne 7, 3) := by decide +kernel
theorem dX11_downOf_29 : decode cX11_downOf 29 = .ok (.iconst 0, 1) := by decide +kernel
theorem dX11_downOf_30 : decode cX11_downOf 30 = .ok (.goto 4, 3) := by decide +kernel
theorem dX11_downOf_33 : decode cX11_downOf 33 = .ok (.iconst (-1), 1) := by decide +kernel
theorem dX11_downOf_34 : decode cX11_downOf 34 = .ok (.ireturn, 1) := by decide +kernel
theorem dX11_layPath_0 : decode cX11_layPath 0 = .ok (.iload_n 1, 1) := by decide +kernel
theorem dX11_layPath_1 : decode cX11_layPath 1 = .ok (.bipush 9, 2) := by decide +kernel
theorem dX11_layPath_3 : decode cX11_layPath 3 = .ok (.irem, 1) := by decide +kernel
theorem dX11_layPath_4 : decode cX11_layPath 4 = .ok (.istore 4, 2) := by decide +kernel
theorem dX11_layPath_6 : decode cX11_layPath 6 = .ok (.iload_n 1, 1) := by decide +kernel
theorem dX11_layPath_7 : decode cX11_layPath 7 = .ok (.bipush 9, 2) := by decide +kernel
theorem dX11_layPath_9 : decode cX11_layPath 9 = .ok (.idiv, 1) := by decide +kernel
theorem dX11_layPath_10 : decode cX11_layPath 10 = .ok (.istore 5, 2) := by decide +kernel
theorem dX11_layPath_12 : decode cX11_layPath 12 = .ok (.iload_n 2, 1) := by decide +kernel
theorem dX11_layPath_13 : decode cX11_layPath 13 = .ok (.invokestatic 257, 3) := by decide +kernel
theorem dX11_layPath_16 : decode cX11_layPath 16 = .ok (.istore 6, 2) := by decide +kernel
theorem dX11_layPath_18 : decode cX11_layPath 18 = .ok (.iload_n 2, 1) := by decide +kernel
theorem dX11_layPath_19 : decode cX11_layPath 19 = .ok (.invokestatic 260, 3) := by decide +kernel
theorem dX11_layPath_22 : decode cX11_layPath 22 = .ok (.istore 7, 2) := by decide +kernel
theorem dX11_layPath_24 : decode cX11_layPath 24 = .ok (.aload_n 0, 1) := by decide +kernel
theorem dX11_layPath_25 : decode cX11_layPath 25 = .ok (.getfield 38, 3) := by decide +kernel
theorem dX11_layPath_28 : decode cX11_layPath 28 = .ok (.iconst 0, 1) := by decide +kernel
theorem dX11_layPath_29 : decode cX11_layPath 29 = .ok (.iload_n 1, 1) := by decide +kernel
theorem dX11_layPath_30 : decode cX11_layPath 30 = .ok (.iastore, 1) := by decide +kernel
theorem dX11_layPath_31 : decode cX11_layPath 31 = .ok (.aload_n 0, 1) := by decide +kernel
theorem dX11_layPath_32 : decode cX11_layPath 32 = .ok (.getfield 41, 3) := by decide +kernel
theorem dX11_layPath_35 : decode cX11_layPath 35 = .ok (.iconst 0, 1) := by decide +kernel
theorem dX11_layPath_36 : decode cX11_layPath 36 = .ok (.iconst 0, 1) := by decide +kernel
theorem dX11_layPath_37 : decode cX11_layPath 37 = .ok (.iastore, 1) := by decide +kernel
theorem dX11_layPath_38 : decode cX11_layPath 38 = .ok (.aload_n 0, 1) := by decide +kernel
theorem dX11_layPath_39 : decode cX11_layPath 39 = .ok (.iconst 0, 1) := by decide +kernel
theorem dX11_layPath_40 : decode cX11_layPath 40 = .ok (.putfield 263, 3) := by decide +kernel
theorem dX11_layPath_43 : decode cX11_layPath 43 = .ok (.iconst 1, 1) := by decide +kernel
theorem dX11_layPath_44 : decode cX11_layPath 44 = .ok (.istore 8, 2) := by decide +kernel
theorem dX11_layPath_46 : decode cX11_layPath 46 = .ok (.iconst 1, 1) := by decide +kernel
theorem dX11_layPath_47 : decode cX11_layPath 47 = .ok (.istore 9, 2) := by decide +kernel
theorem dX11_layPath_49 : decode cX11_layPath 49 = .ok (.iload 9, 2) := by decide +kernel
theorem dX11_layPath_51 : decode cX11_layPath 51 = .ok (.bipush 40, 2) := by decide +kernel
theorem dX11_layPath_53 : decode cX11_layPath 53 = .ok (.if_icmp .gt 226, 3) := by decide +kernel
theorem dX11_layPath_56 : decode cX11_layPath 56 = .ok (.iload 8, 2) := by decide +kernel
theorem dX11_layPath_58 : decode cX11_layPath 58 = .ok (.ifCond .eq 221, 3) := by decide +kernel
theorem dX11_layPath_61 : decode cX11_layPath 61 = .ok (.aload_n 0, 1) := by decide +kernel
theorem dX11_layPath_62 : decode cX11_layPath 62 = .ok (.getfield 41, 3) := by decide +kernel
theorem dX11_layPath_65 : decode cX11_layPath 65 = .ok (.iload 9, 2) := by decide +kernel
theorem dX11_layPath_67 : decode cX11_layPath 67 = .ok (.iconst 1, 1) := by decide +kernel
theorem dX11_layPath_68 : decode cX11_layPath 68 = .ok (.isub, 1) := by decide +kernel
theorem dX11_layPath_69 : decode cX11_layPath 69 = .ok (.iaload, 1) := by decide +kernel
theorem dX11_layPath_70 : decode cX11_layPath 70 = .ok (.istore 10, 2) := by decide +kernel
theorem dX11_layPath_72 : decode cX11_layPath 72 = .ok (.iload 4, 2) := by decide +kernel
theorem dX11_layPath_74 : decode cX11_layPath 74 = .ok (.iload 6, 2) := by decide +kernel
theorem dX11_layPath_76 : decode cX11_layPath 76 = .ok (.iadd, 1) := by decide +kernel
theorem dX11_layPath_77 : decode cX11_layPath 77 = .ok (.i2l, 1) := by decide +kernel
theorem dX11_layPath_78 : decode cX11_layPath 78 = .ok (.lconst 0, 1) := by decide +kernel
theorem dX11_layPath_79 : decode cX11_layPath 79 = .ok (.aload_n 0, 1) := by decide +kernel
theorem dX11_layPath_80 : decode cX11_layPath 80 = .ok (.getfield 90, 3) := by decide +kernel
theorem dX11_layPath_83 : decode cX11_layPath 83 = .ok (.iconst 1, 1) := by decide +kernel
theorem dX11_layPath_84 : decode cX11_layPath 84 = .ok (.isub, 1) := by decide +kernel
theorem dX11_layPath_85 : decode cX11_layPath 85 = .ok (.i2l, 1) := by decide +kernel
theorem dX11_layPath_86 : decode cX11_layPath 86 = .ok (.invokestatic 120, 3) := by decide +kernel
theorem dX11_layPath_89 : decode cX11_layPath 89 = .ok (.ifCond .ne 11, 3) := by decide +kernel
theorem dX11_layPath_92 : decode cX11_layPath 92 = .ok (.iload 6, 2) := by decide +kernel
theorem dX11_layPath_94 : decode cX11_layPath 94 = .ok (.ineg, 1) := by decide +kernel
theorem dX11_layPath_95 : decode cX11_layPath 95 = .ok (.istore 6, 2) := by decide +kernel
theorem dX11_layPath_97 : decode cX11_layPath 97 = .ok (.iinc 10 1, 3) := by decide +kernel
theorem dX11_layPath_100 : decode cX11_layPath 100 = .ok (.iload 5, 2) := by decide +kernel
theorem dX11_layPath_102 : decode cX11_layPath 102 = .ok (.iload 7, 2) := by decide +kernel
theorem dX11_layPath_104 : decode cX11_layPath 104 = .ok (.iadd, 1) := by decide +kernel
theorem dX11_layPath_105 : decode cX11_layPath 105 = .ok (.i2l, 1) := by decide +kernel
theorem dX11_layPath_106 : decode cX11_layPath 106 = .ok (.lconst 0, 1) := by decide +kernel
theorem dX11_layPath_107 : decode cX11_layPath 107 = .ok (.aload_n 0, 1) := by decide +kernel
theorem dX11_layPath_108 : decode cX11_layPath 108 = .ok (.getfield 93, 3) := by decide +kernel
theorem dX11_layPath_111 : decode cX11_layPath 111 = .ok (.iconst 1, 1) := by decide +kernel
theorem dX11_layPath_112 : decode cX11_layPath 112 = .ok (.isub, 1) := by decide +kernel
theorem dX11_layPath_113 : decode cX11_layPath 113 = .ok (.i2l, 1) := by decide +kernel
theorem dX11_layPath_114 : decode cX11_layPath 114 = .ok (.invokestatic 120, 3) := by decide +kernel
theorem dX11_layPath_117 : decode cX11_layPath 117 = .ok (.ifCond .ne 11, 3) := by decide +kernel
theorem dX11_layPath_120 : decode cX11_layPath 120 = .ok (.iload 7, 2) := by decide +kernel
theorem dX11_layPath_122 : decode cX11_layPath 122 = .ok (.ineg, 1) := by decide +kernel
theorem dX11_layPath_123 : decode cX11_layPath 123 = .ok (.istore 7, 2) := by decide +kernel
theorem dX11_layPath_125 : decode cX11_layPath 125 = .ok (.iinc 10 1, 3) := by decide +kernel
theorem dX11_layPath_128 : decode cX11_layPath 128 = .ok (.iload 4, 2) := by decide +kernel
theorem dX11_layPath_130 : decode cX11_layPath 130 = .ok (.iload 6, 2) := by decide +kernel
theorem dX11_layPath_132 : decode cX11_layPath 132 = .ok (.iadd, 1) := by decide +kernel
theorem dX11_layPath_133 : decode cX11_layPath 133 = .ok (.istore 4, 2) := by decide +kernel
theorem dX11_layPath_135 : decode cX11_layPath 135 = .ok (.iload 5, 2) := by decide +kernel
theorem dX11_layPath_137 : decode cX11_layPath 137 = .ok (.iload 7, 2) := by decide +kernel
theorem dX11_layPath_139 : decode cX11_layPath 139 = .ok (.iadd, 1) := by decide +kernel
theorem dX11_layPath_140 : decode cX11_layPath 140 = .ok (.istore 5, 2) := by decide +kernel
theorem dX11_layPath_142 : decode cX11_layPath 142 = .ok (.aload_n 0, 1) := by decide +kernel
theorem dX11_layPath_143 : decode cX11_layPath 143 = .ok (.getfield 7, 3) := by decide +kernel
theorem dX11_layPath_146 : decode cX11_layPath 146 = .ok (.bipush 81, 2) := by decide +kernel
theorem dX11_layPath_148 : decode cX11_layPath 148 = .ok (.iaload, 1) := by decide +kernel
theorem dX11_layPath_149 : decode cX11_layPath 149 = .ok (.ifCond .le 30, 3) := by decide +kernel
theorem dX11_layPath_152 : decode cX11_layPath 152 = .ok (.iload 9, 2) := by decide +kernel
theorem dX11_layPath_154 : decode cX11_layPath 154 = .ok (.aload_n 0, 1) := by decide +kernel
theorem dX11_layPath_155 : decode cX11_layPath 155 = .ok (.getfield 7, 3) := by decide +kernel
theorem dX11_layPath_158 : decode cX11_layPath 158 = .ok (.bipush 81, 2) := by decide +kernel
theorem dX11_layPath_160 : decode cX11_layPath 160 = .ok (.iaload, 1) := by decide +kernel
theorem dX11_layPath_161 : decode cX11_layPath 161 = .ok (.irem, 1) := by decide +kernel
theorem dX11_layPath_162 : decode cX11_layPath 162 = .ok (.ifCond .ne 17, 3) := by decide +kernel
theorem dX11_layPath_165 : decode cX11_layPath 165 = .ok (.iload 5, 2) := by decide +kernel
theorem dX11_layPath_167 : decode cX11_layPath 167 = .ok (.iconst 1, 1) := by decide +kernel
theorem dX11_layPath_168 : decode cX11_layPath 168 = .ok (.iadd, 1) := by decide +kernel
theorem dX11_layPath_169 : decode cX11_layPath 169 = .ok (.aload_n 0, 1) := by decide +kernel
theorem dX11_layPath_170 : decode cX11_layPath 170 = .ok (.getfield 93, 3) := by decide +kernel
theorem dX11_layPath_173 : decode cX11_layPath 173 = .ok (.if_icmp .ge 6, 3) := by decide +kernel
theorem dX11_layPath_176 : decode cX11_layPath 176 = .ok (.iinc 5 1, 3) := by decide +kernel
theorem dX11_layPath_179 : decode cX11_layPath 179 = .ok (.aload_n 0, 1) := by decide +kernel
theorem dX11_layPath_180 : decode cX11_layPath 180 = .ok (.getfield 7, 3) := by decide +kernel
theorem dX11_layPath_183 : decode cX11_layPath 183 = .ok (.bipush 9, 2) := by decide +kernel
theorem dX11_layPath_185 : decode cX11_layPath 185 = .ok (.iload 5, 2) := by decide +kernel
theorem dX11_layPath_187 : decode cX11_layPath 187 = .ok (.imul, 1) := by decide +kernel
theorem dX11_layPath_188 : decode cX11_layPath 188 = .ok (.iload 4, 2) := by decide +kernel
theorem dX11_layPath_190 : decode cX11_layPath 190 = .ok (.iadd, 1) := by decide +kernel
theorem dX11_layPath_191 : decode cX11_layPath 191 = .ok (.iaload, 1) := by decide +kernel
theorem dX11_layPath_192 : decode cX11_layPath 192 = .ok (.istore 11, 2) := by decide +kernel
theorem dX11_layPath_194 : decode cX11_layPath 194 = .ok (.iload 11, 2) := by decide +kernel
theorem dX11_layPath_196 : decode cX11_layPath 196 = .ok (.iconst 1, 1) := by decide +kernel
theorem dX11_layPath_197 : decode cX11_layPath 197 = .ok (.if_icmp .eq 38, 3) := by decide +kernel
theorem dX11_layPath_200 : decode cX11_layPath 200 = .ok (.iload 11, 2) := by decide +kernel
theorem dX11_layPath_202 : decode cX11_layPath 202 = .ok (.iconst 2, 1) := by decide +kernel
theorem dX11_layPath_203 : decode cX11_layPath 203 = .ok (.if_icmp .ne 7, 3) := by decide +kernel
theorem dX11_layPath_206 : decode cX11_layPath 206 = .ok (.iload_n 3, 1) := by decide +kernel
theorem dX11_layPath_207 : decode cX11_layPath 207 = .ok (.ifCond .eq 28, 3) := by decide +kernel
theorem dX11_layPath_210 : decode cX11_layPath 210 = .ok (.bipush 100, 2) := by decide +kernel
theorem dX11_layPath_212 : decode cX11_layPath 212 = .ok (.aload_n 0, 1) := by decide +kernel
theorem dX11_layPath_213 : decode cX11_layPath 213 = .ok (.getfield 96, 3) := by decide +kernel
theorem dX11_layPath_216 : decode cX11_layPath 216 = .ok (.iload 9, 2) := by decide +kernel
theorem dX11_layPath_218 : decode cX11_layPath 218 = .ok (.imul, 1) := by decide +kernel
theorem dX11_layPath_219 : decode cX11_layPath 219 = .ok (.isub, 1) := by decide +kernel
theorem dX11_layPath_220 : decode cX11_layPath 220 = .ok (.aload_n 0, 1) := by decide +kernel
theorem dX11_layPath_221 : decode cX11_layPath 221 = .ok (.getfield 99, 3) := by decide +kernel
theorem dX11_layPath_224 : decode cX11_layPath 224 = .ok (.iload 10, 2) := by decide +kernel
theorem dX11_layPath_226 : decode cX11_layPath 226 = .ok (.imul, 1) := by decide +kernel
theorem dX11_layPath_227 : decode cX11_layPath 227 = .ok (.isub, 1) := by decide +kernel
theorem dX11_layPath_228 : decode cX11_layPath 228 = .ok (.ifCond .le 7, 3) := by decide +kernel
theorem dX11_layPath_231 : decode cX11_layPath 231 = .ok (.iconst 1, 1) := by decide +kernel
theorem dX11_layPath_232 : decode cX11_layPath 232 = .ok (.goto 4, 3) := by decide +kernel
theorem dX11_layPath_235 : decode cX11_layPath 235 = .ok (.iconst 0, 1) := by decide +kernel
theorem dX11_layPath_236 : decode cX11_layPath 236 = .ok (.istore 8, 2) := by decide +kernel
theorem dX11_layPath_238 : decode cX11_layPath 238 = .ok (.iload 8, 2) := by decide +kernel
theorem dX11_layPath_240 : decode cX11_layPath 240 = .ok (.ifCond .eq 33, 3) := by decide +kernel
theorem dX11_layPath_243 : decode cX11_layPath 243 = .ok (.aload_n 0, 1) := by decide +kernel
theorem dX11_layPath_244 : decode cX11_layPath 244 = .ok (.getfield 38, 3) := by decide +kernel
theorem dX11_layPath_247 : decode cX11_layPath 247 = .ok (.iload 9, 2) := by decide +kernel
theorem dX11_layPath_249 : decode cX11_layPath 249 = .ok (.bipush 9, 2) := by decide +kernel
theorem dX11_layPath_251 : decode cX11_layPath 251 = .ok (.iload 5, 2) := by decide +kernel
theorem dX11_layPath_253 : decode cX11_layPath 253 = .ok (.imul, 1) := by decide +kernel
theorem dX11_layPath_254 : decode cX11_layPath 254 = .ok (.iload 4, 2) := by decide +kernel
theorem dX11_layPath_256 : decode cX11_layPath 256 = .ok (.iadd, 1) := by decide +kernel
theorem dX11_layPath_257 : decode cX11_layPath 257 = .ok (.iastore, 1) := by decide +kernel
theorem dX11_layPath_258 : decode cX11_layPath 258 = .ok (.aload_n 0, 1) := by decide +kernel
theorem dX11_layPath_259 : decode cX11_layPath 259 = .ok (.getfield 41, 3) := by decide +kernel
theorem dX11_layPath_262 : decode cX11_layPath 262 = .ok (.iload 9, 2) := by decide +kernel
theorem dX11_layPath_264 : decode cX11_layPath 264 = .ok (.iload 10, 2) := by decide +kernel
theorem dX11_layPath_266 : decode cX11_layPath 266 = .ok (.iastore, 1) := by decide +kernel
theorem dX11_layPath_267 : decode cX11_layPath 267 = .ok (.aload_n 0, 1) := by decide +kernel
theorem dX11_layPath_268 : decode cX11_layPath 268 = .ok (.iload 9, 2) := by decide +kernel
theorem dX11_layPath_270 : decode cX11_layPath 270 = .ok (.putfield 263, 3) := by decide +kernel
theorem dX11_layPath_273 : decode cX11_layPath 273 = .ok (.iinc 9 1, 3) := by decide +kernel
theorem dX11_layPath_276 : decode cX11_layPath 276 = .ok (.goto (-227), 3) := by decide +kernel
theorem dX11_layPath_279 : decode cX11_layPath 279 = .ok (.return_, 1) := by decide +kernel
theorem dX11_loudAt_0 : decode cX11_loudAt 0 = .ok (.bipush 100, 2) := by decide +kernel
theorem dX11_loudAt_2 : decode cX11_loudAt 2 = .ok (.aload_n 0, 1) := by decide +kernel
theorem dX11_loudAt_3 : decode cX11_loudAt 3 = .ok (.getfield 96, 3) := by decide +kernel
theorem dX11_loudAt_6 : decode cX11_loudAt 6 = .ok (.iload_n 1, 1) := by decide +kernel
theorem dX11_loudAt_7 : decode cX11_loudAt 7 = .ok (.imul, 1) := by decide +kernel
theorem dX11_loudAt_8 : decode cX11_loudAt 8 = .ok (.isub, 1) := by decide +kernel
theorem dX11_loudAt_9 : decode cX11_loudAt 9 = .ok (.aload_n 0, 1) := by decide +kernel
theorem dX11_loudAt_10 : decode cX11_loudAt 10 = .ok (.getfield 99, 3) := by decide +kernel
theorem dX11_loudAt_13 : decode cX11_loudAt 13 = .ok (.aload_n 0, 1) := by decide +kernel
theorem dX11_loudAt_14 : decode cX11_loudAt 14 = .ok (.getfield 41, 3) := by decide +kernel
theorem dX11_loudAt_17 : decode cX11_loudAt 17 = .ok (.iload_n 1, 1) := by decide +kernel
theorem dX11_loudAt_18 : decode cX11_loudAt 18 = .ok (.iaload, 1) := by decide +kernel
theorem dX11_loudAt_19 : decode cX11_loudAt 19 = .ok (.imul, 1) := by decide +kernel
theorem dX11_loudAt_20 : decode cX11_loudAt 20 = .ok (.isub, 1) := by decide +kernel
theorem dX11_loudAt_21 : decode cX11_loudAt 21 = .ok (.ireturn, 1) := by decide +kernel
theorem dX11_layPathOf_0 : decode cX11_layPathOf 0 = .ok (.aload_n 0, 1) := by decide +kernel
theorem dX11_layPathOf_1 : decode cX11_layPathOf 1 = .ok (.aload_n 0, 1) := by decide +kernel
theorem dX11_layPathOf_2 : decode cX11_layPathOf 2 = .ok (.iload_n 1, 1) := by decide +kernel
theorem dX11_layPathOf_3 : decode cX11_layPathOf 3 = .ok (.iload_n 2, 1) := by decide +kernel
theorem dX11_layPathOf_4 : decode cX11_layPathOf 4 = .ok (.invokevirtual 234, 3) := by decide +kernel
theorem dX11_layPathOf_7 : decode cX11_layPathOf 7 = .ok (.aload_n 0, 1) := by decide +kernel
theorem dX11_layPathOf_8 : decode cX11_layPathOf 8 = .ok (.iload_n 1, 1) := by decide +kernel
theorem dX11_layPathOf_9 : decode cX11_layPathOf 9 = .ok (.iload_n 2, 1) := by decide +kernel
theorem dX11_layPathOf_10 : decode cX11_layPathOf 10 = .ok (.invokevirtual 237, 3) := by decide +kernel
theorem dX11_layPathOf_13 : decode cX11_layPathOf 13 = .ok (.aload_n 0, 1) := by decide +kernel
theorem dX11_layPathOf_14 : decode cX11_layPathOf 14 = .ok (.iload_n 1, 1) := by decide +kernel
theorem dX11_layPathOf_15 : decode cX11_layPathOf 15 = .ok (.invokevirtual 223, 3) := by decide +kernel
theorem dX11_layPathOf_18 : decode cX11_layPathOf 18 = .ok (.iconst 3, 1) := by decide +kernel
theorem dX11_layPathOf_19 : decode cX11_layPathOf 19 = .ok (.if_icmp .ne 7, 3) := by decide +kernel
theorem dX11_layPathOf_22 : decode cX11_layPathOf 22 = .ok (.iconst 1, 1) := by decide +kernel
theorem dX11_layPathOf_23 : decode cX11_layPathOf 23 = .ok (.goto 4, 3) := by decide +kernel
theorem dX11_layPathOf_26 : decode cX11_layPathOf 26 = .ok (.iconst 0, 1) := by decide +kernel
theorem dX11_layPathOf_27 : decode cX11_layPathOf 27 = .ok (.invokevirtual 266, 3) := by decide +kernel
theorem dX11_layPathOf_30 : decode cX11_layPathOf 30 = .ok (.return_, 1) := by decide +kernel
theorem dX11_stepTo_0 : decode cX11_stepTo 0 = .ok (.bipush (-4), 2) := by decide +kernel
theorem dX11_stepTo_2 : decode cX11_stepTo 2 = .ok (.istore_n 3, 1) := by decide +kernel
theorem dX11_stepTo_3 : decode cX11_stepTo 3 = .ok (.aload_n 0, 1) := by decide +kernel
theorem dX11_stepTo_4 : decode cX11_stepTo 4 = .ok (.getfield 263, 3) := by decide +kernel
theorem dX11_stepTo_7 : decode cX11_stepTo 7 = .ok (.istore 4, 2) := by decide +kernel
theorem dX11_stepTo_9 : decode cX11_stepTo 9 = .ok (.iload 4, 2) := by decide +kernel
theorem dX11_stepTo_11 : decode cX11_stepTo 11 = .ok (.ifCond .le 32, 3) := by decide +kernel
theorem dX11_stepTo_14 : decode cX11_stepTo 14 = .ok (.aload_n 0, 1) := by decide +kernel
theorem dX11_stepTo_15 : decode cX11_stepTo 15 = .ok (.getfield 38, 3) := by decide +kernel
theorem dX11_stepTo_18 : decode cX11_stepTo 18 = .ok (.iload 4, 2) := by decide +kernel
theorem dX11_stepTo_20 : decode cX11_stepTo 20 = .ok (.iaload, 1) := by decide +kernel
theorem dX11_stepTo_21 : decode cX11_stepTo 21 = .ok (.aload_n 0, 1) := by decide +kernel
theorem dX11_stepTo_22 : decode cX11_stepTo 22 = .ok (.iload_n 1, 1) := by decide +kernel
theorem dX11_stepTo_23 : decode cX11_stepTo 23 = .ok (.iload_n 2, 1) := by decide +kernel
theorem dX11_stepTo_24 : decode cX11_stepTo 24 = .ok (.invokevirtual 234, 3) := by decide +kernel
theorem dX11_stepTo_27 : decode cX11_stepTo 27 = .ok (.if_icmp .ne 8, 3) := by decide +kernel
theorem dX11_stepTo_30 : decode cX11_stepTo 30 = .ok (.iload 4, 2) := by decide +kernel
theorem dX11_stepTo_32 : decode cX11_stepTo 32 = .ok (.goto 4, 3) := by decide +kernel
theorem dX11_stepTo_35 : decode cX11_stepTo 35 = .ok (.iload_n 3, 1) := by decide +kernel
theorem dX11_stepTo_36 : decode cX11_stepTo 36 = .ok (.istore_n 3, 1) := by decide +kernel
theorem dX11_stepTo_37 : decode cX11_stepTo 37 = .ok (.iinc 4 (-1), 3) := by decide +kernel
theorem dX11_stepTo_40 : decode cX11_stepTo 40 = .ok (.goto (-31), 3) := by decide +kernel
theorem dX11_stepTo_43 : decode cX11_stepTo 43 = .ok (.iload_n 3, 1) := by decide +kernel
theorem dX11_stepTo_44 : decode cX11_stepTo 44 = .ok (.bipush (-4), 2) := by decide +kernel
theorem dX11_stepTo_46 : decode cX11_stepTo 46 = .ok (.if_icmp .eq 20, 3) := by decide +kernel
theorem dX11_stepTo_49 : decode cX11_stepTo 49 = .ok (.aload_n 0, 1) := by decide +kernel
theorem dX11_stepTo_50 : decode cX11_stepTo 50 = .ok (.iload_n 3, 1) := by decide +kernel
theorem dX11_stepTo_51 : decode cX11_stepTo 51 = .ok (.invokevirtual 270, 3) := by decide +kernel
theorem dX11_stepTo_54 : decode cX11_stepTo 54 = .ok (.aload_n 0, 1) := by decide +kernel
theorem dX11_stepTo_55 : decode cX11_stepTo 55 = .ok (.iload_n 1, 1) := by decide +kernel
theorem dX11_stepTo_56 : decode cX11_stepTo 56 = .ok (.invokevirtual 240, 3) := by decide +kernel
theorem dX11_stepTo_59 : decode cX11_stepTo 59 = .ok (.if_icmp .lt 7, 3) := by decide +kernel
theorem dX11_stepTo_62 : decode cX11_stepTo 62 = .ok (.iload_n 3, 1) := by decide +kernel
theorem dX11_stepTo_63 : decode cX11_stepTo 63 = .ok (.goto 5, 3) := by decide +kernel
theorem dX11_stepTo_66 : decode cX11_stepTo 66 = .ok (.bipush (-4), 2) := by decide +kernel
theorem dX11_stepTo_68 : decode cX11_stepTo 68 = .ok (.ireturn, 1) := by decide +kernel
theorem dX11_way_0 : decode cX11_way 0 = .ok (.aload_n 0, 1) := by decide +kernel
theorem dX11_way_1 : decode cX11_way 1 = .ok (.iload_n 1, 1) := by decide +kernel
theorem dX11_way_2 : decode cX11_way 2 = .ok (.invokevirtual 228, 3) := by decide +kernel
theorem dX11_way_5 : decode cX11_way 5 = .ok (.ifCond .eq 22, 3) := by decide +kernel
theorem dX11_way_8 : decode cX11_way 8 = .ok (.iload_n 2, 1) := by decide +kernel
theorem dX11_way_9 : decode cX11_way 9 = .ok (.invokestatic 231, 3) := by decide +kernel
theorem dX11_way_12 : decode cX11_way 12 = .ok (.ifCond .eq 15, 3) := by decide +kernel
theorem dX11_way_15 : decode cX11_way 15 = .ok (.iload_n 3, 1) := by decide +kernel
theorem dX11_way_16 : decode cX11_way 16 = .ok (.i2l, 1) := by decide +kernel
theorem dX11_way_17 : decode cX11_way 17 = .ok (.lconst 0, 1) := by decide +kernel
theorem dX11_way_18 : decode cX11_way 18 = .ok (.ldc2_w 273, 3) := by decide +kernel
theorem dX11_way_21 : decode cX11_way 21 = .ok (.invokestatic 120, 3) := by decide +kernel
theorem dX11_way_24 : decode cX11_way 24 = .ok (.ifCond .ne 5, 3) := by decide +kernel
theorem dX11_way_27 : decode cX11_way 27 = .ok (.iconst (-1), 1) := by decide +kernel
theorem dX11_way_28 : decode cX11_way 28 = .ok (.ireturn, 1) := by decide +kernel
theorem dX11_way_29 : decode cX11_way 29 = .ok (.aload_n 0, 1) := by decide +kernel
theorem dX11_way_30 : decode cX11_way 30 = .ok (.iload_n 1, 1) := by decide +kernel
theorem dX11_way_31 : decode cX11_way 31 = .ok (.iload_n 2, 1) := by decide +kernel
theorem dX11_way_32 : decode cX11_way 32 = .ok (.invokevirtual 275, 3) := by decide +kernel
theorem dX11_way_35 : decode cX11_way 35 = .ok (.iload_n 3, 1) := by decide +kernel
theorem dX11_way_36 : decode cX11_way 36 = .ok (.aload_n 0, 1) := by decide +kernel
theorem dX11_way_37 : decode cX11_way 37 = .ok (.getfield 263, 3) := by decide +kernel
theorem dX11_way_40 : decode cX11_way 40 = .ok (.if_icmp .gt 12, 3) := by decide +kernel
theorem dX11_way_43 : decode cX11_way 43 = .ok (.aload_n 0, 1) := by decide +kernel
theorem dX11_way_44 : decode cX11_way 44 = .ok (.getfield 38, 3) := by decide +kernel
theorem dX11_way_47 : decode cX11_way 47 = .ok (.iload_n 3, 1) := by decide +kernel
theorem dX11_way_48 : decode cX11_way 48 = .ok (.iaload, 1) := by decide +kernel
theorem dX11_way_49 : decode cX11_way 49 = .ok (.goto 5, 3) := by decide +kernel
theorem dX11_way_52 : decode cX11_way 52 = .ok (.bipush (-4), 2) := by decide +kernel
theorem dX11_way_54 : decode cX11_way 54 = .ok (.ireturn, 1) := by decide +kernel
theorem dX11_steps_0 : decode cX11_steps 0 = .ok (.aload_n 0, 1) := by decide +kernel
theorem dX11_steps_1 : decode cX11_steps 1 = .ok (.iload_n 1, 1) := by decide +kernel
theorem dX11_steps_2 : decode cX11_steps 2 = .ok (.invokevirtual 228, 3) := by decide +kernel
theorem dX11_steps_5 : decode cX11_steps 5 = .ok (.ifCond .eq 10, 3) := by decide +kernel
theorem dX11_steps_8 : decode cX11_steps 8 = .ok (.iload_n 2, 1) := by decide +kernel
theorem dX11_steps_9 : decode cX11_steps 9 = .ok (.invokestatic 231, 3) := by decide +kernel
theorem dX11_steps_12 : decode cX11_steps 12 = .ok (.ifCond .ne 5, 3) := by decide +kernel
theorem dX11_steps_15 : decode cX11_steps 15 = .ok (.iconst (-1), 1) := by decide +kernel
theorem dX11_steps_16 : decode cX11_steps 16 = .ok (.ireturn, 1) := by decide +kernel
theorem dX11_steps_17 : decode cX11_steps 17 = .ok (.aload_n 0, 1) := by decide +kernel
theorem dX11_steps_18 : decode cX11_steps 18 = .ok (.iload_n 1, 1) := by decide +kernel
theorem dX11_steps_19 : decode cX11_steps 19 = .ok (.iload_n 2, 1) := by decide +kernel
theorem dX11_steps_20 : decode cX11_steps 20 = .ok (.invokevirtual 275, 3) := by decide +kernel
theorem dX11_steps_23 : decode cX11_steps 23 = .ok (.aload_n 0, 1) := by decide +kernel
theorem dX11_steps_24 : decode cX11_steps 24 = .ok (.getfield 263, 3) := by decide +kernel
theorem dX11_steps_27 : decode cX11_steps 27 = .ok (.ireturn, 1) := by decide +kernel
theorem dX11_hears_0 : decode cX11_hears 0 = .ok (.aload_n 0, 1) := by decide +kernel
theorem dX11_hears_1 : decode cX11_hears 1 = .ok (.iload_n 1, 1) := by decide +kernel
theorem dX11_hears_2 : decode cX11_hears 2 = .ok (.invokevirtual 228, 3) := by decide +kernel
theorem dX11_hears_5 : decode cX11_hears 5 = .ok (.ifCond .eq 36, 3) := by decide +kernel
theorem dX11_hears_8 : decode cX11_hears 8 = .ok (.aload_n 0, 1) := by decide +kernel
theorem dX11_hears_9 : decode cX11_hears 9 = .ok (.iload_n 2, 1) := by decide +kernel
theorem dX11_hears_10 : decode cX11_hears 10 = .ok (.invokevirtual 228, 3) := by decide +kernel
theorem dX11_hears_13 : decode cX11_hears 13 = .ok (.ifCond .eq 28, 3) := by decide +kernel
theorem dX11_hears_16 : decode cX11_hears 16 = .ok (.iload_n 1, 1) := by decide +kernel
theorem dX11_hears_17 : decode cX11_hears 17 = .ok (.iload_n 2, 1) := by decide +kernel
theorem dX11_hears_18 : decode cX11_hears 18 = .ok (.if_icmp .eq 23, 3) := by decide +kernel
theorem dX11_hears_21 : decode cX11_hears 21 = .ok (.iload_n 3, 1) := by decide +kernel
theorem dX11_hears_22 : decode cX11_hears 22 = .ok (.invokestatic 231, 3) := by decide +kernel
theorem dX11_hears_25 : decode cX11_hears 25 = .ok (.ifCond .eq 16, 3) := by decide +kernel
theorem dX11_hears_28 : decode cX11_hears 28 = .ok (.iload 4, 2) := by decide +kernel
theorem dX11_hears_30 : decode cX11_hears 30 = .ok (.i2l, 1) := by decide +kernel
theorem dX11_hears_31 : decode cX11_hears 31 = .ok (.lconst 0, 1) := by decide +kernel
theorem dX11_hears_32 : decode cX11_hears 32 = .ok (.ldc2_w 226, 3) := by decide +kernel
theorem dX11_hears_35 : decode cX11_hears 35 = .ok (.invokestatic 120, 3) := by decide +kernel
theorem dX11_hears_38 : decode cX11_hears 38 = .ok (.ifCond .ne 5, 3) := by decide +kernel
theorem dX11_hears_41 : decode cX11_hears 41 = .ok (.iconst (-1), 1) := by decide +kernel
theorem dX11_hears_42 : decode cX11_hears 42 = .ok (.ireturn, 1) := by decide +kernel
theorem dX11_hears_43 : decode cX11_hears 43 = .ok (.aload_n 0, 1) := by decide +kernel
theorem dX11_hears_44 : decode cX11_hears 44 = .ok (.iload_n 1, 1) := by decide +kernel
theorem dX11_hears_45 : decode cX11_hears 45 = .ok (.iload_n 3, 1) := by decide +kernel
theorem dX11_hears_46 : decode cX11_hears 46 = .ok (.invokevirtual 275, 3) := by decide +kernel
theorem dX11_hears_49 : decode cX11_hears 49 = .ok (.aload_n 0, 1) := by decide +kernel
theorem dX11_hears_50 : decode cX11_hears 50 = .ok (.iload_n 2, 1) := by decide +kernel
theorem dX11_hears_51 : decode cX11_hears 51 = .ok (.iload_n 3, 1) := by decide +kernel
theorem dX11_hears_52 : decode cX11_hears 52 = .ok (.invokevirtual 279, 3) := by decide +kernel
theorem dX11_hears_55 : decode cX11_hears 55 = .ok (.istore 5, 2) := by decide +kernel
theorem dX11_hears_57 : decode cX11_hears 57 = .ok (.iload 5, 2) := by decide +kernel
theorem dX11_hears_59 : decode cX11_hears 59 = .ok (.bipush (-4), 2) := by decide +kernel
theorem dX11_hears_61 : decode cX11_hears 61 = .ok (.if_icmp .ne 8, 3) := by decide +kernel
theorem dX11_hears_64 : decode cX11_hears 64 = .ok (.bipush (-4), 2) := by decide +kernel
theorem dX11_hears_66 : decode cX11_hears 66 = .ok (.goto 35, 3) := by decide +kernel
theorem dX11_hears_69 : decode cX11_hears 69 = .ok (.iload 4, 2) := by decide +kernel
theorem dX11_hears_71 : decode cX11_hears 71 = .ok (.ifCond .ne 12, 3) := by decide +kernel
theorem dX11_hears_74 : decode cX11_hears 74 = .ok (.aload_n 0, 1) := by decide +kernel
theorem dX11_hears_75 : decode cX11_hears 75 = .ok (.iload 5, 2) := by decide +kernel
theorem dX11_hears_77 : decode cX11_hears 77 = .ok (.invokevirtual 270, 3) := by decide +kernel
theorem dX11_hears_80 : decode cX11_hears 80 = .ok (.goto 21, 3) := by decide +kernel
theorem dX11_hears_83 : decode cX11_hears 83 = .ok (.iload 4, 2) := by decide +kernel
theorem dX11_hears_85 : decode cX11_hears 85 = .ok (.iconst 1, 1) := by decide +kernel
theorem dX11_hears_86 : decode cX11_hears 86 = .ok (.if_icmp .ne 8, 3) := by decide +kernel
theorem dX11_hears_89 : decode cX11_hears 89 = .ok (.iload 5, 2) := by decide +kernel
theorem dX11_hears_91 : decode cX11_hears 91 = .ok (.goto 10, 3) := by decide +kernel
theorem dX11_hears_94 : decode cX11_hears 94 = .ok (.aload_n 0, 1) := by decide +kernel
theorem dX11_hears_95 : decode cX11_hears 95 = .ok (.getfield 41, 3) := by decide +kernel
theorem dX11_hears_98 : decode cX11_hears 98 = .ok (.iload 5, 2) := by decide +kernel
theorem dX11_hears_100 : decode cX11_hears 100 = .ok (.iaload, 1) := by decide +kernel
theorem dX11_hears_101 : decode cX11_hears 101 = .ok (.ireturn, 1) := by decide +kernel
theorem dX11_allTo_0 : decode cX11_allTo 0 = .ok (.iconst 0, 1) := by decide +kernel
theorem dX11_allTo_1 : decode cX11_allTo 1 = .ok (.istore_n 3, 1) := by decide +kernel
theorem dX11_allTo_2 : decode cX11_allTo 2 = .ok (.iconst 0, 1) := by decide +kernel
theorem dX11_allTo_3 : decode cX11_allTo 3 = .ok (.istore 4, 2) := by decide +kernel
theorem dX11_allTo_5 : decode cX11_allTo 5 = .ok (.iload 4, 2) := by decide +kernel
theorem dX11_allTo_7 : decode cX11_allTo 7 = .ok (.aload_n 0, 1) := by decide +kernel
theorem dX11_allTo_8 : decode cX11_allTo 8 = .ok (.getfield 102, 3) := by decide +kernel
theorem dX11_allTo_11 : decode cX11_allTo 11 = .ok (.if_icmp .ge 38, 3) := by decide +kernel
end
section
theorem dX11_allTo_14 : decode cX11_allTo 14 = .ok (.iload_n 3, 1) := by decide +kernel
theorem dX11_allTo_15 : decode cX11_allTo 15 = .ok (.iload 4, 2) := by decide +kernel
theorem dX11_allTo_17 : decode cX11_allTo 17 = .ok (.iload_n 2, 1) := by decide +kernel
theorem dX11_allTo_18 : decode cX11_allTo 18 = .ok (.if_icmp .eq 22, 3) := by decide +kernel
theorem dX11_allTo_21 : decode cX11_allTo 21 = .ok (.aload_n 0, 1) := by decide +kernel
theorem dX11_allTo_22 : decode cX11_allTo 22 = .ok (.iload 4, 2) := by decide +kernel
theorem dX11_allTo_24 : decode cX11_allTo 24 = .ok (.iload_n 1, 1) := by decide +kernel
theorem dX11_allTo_25 : decode cX11_allTo 25 = .ok (.invokevirtual 279, 3) := by decide +kernel
theorem dX11_allTo_28 : decode cX11_allTo 28 = .ok (.bipush (-4), 2) := by decide +kernel
theorem dX11_allTo_30 : decode cX11_allTo 30 = .ok (.if_icmp .eq 10, 3) := by decide +kernel
theorem dX11_allTo_33 : decode cX11_allTo 33 = .ok (.iconst 1, 1) := by decide +kernel
theorem dX11_allTo_34 : decode cX11_allTo 34 = .ok (.iload 4, 2) := by decide +kernel
theorem dX11_allTo_36 : decode cX11_allTo 36 = .ok (.ishl, 1) := by decide +kernel
theorem dX11_allTo_37 : decode cX11_allTo 37 = .ok (.goto 4, 3) := by decide +kernel
theorem dX11_allTo_40 : decode cX11_allTo 40 = .ok (.iconst 0, 1) := by decide +kernel
theorem dX11_allTo_41 : decode cX11_allTo 41 = .ok (.ior, 1) := by decide +kernel
theorem dX11_allTo_42 : decode cX11_allTo 42 = .ok (.istore_n 3, 1) := by decide +kernel
theorem dX11_allTo_43 : decode cX11_allTo 43 = .ok (.iinc 4 1, 3) := by decide +kernel
theorem dX11_allTo_46 : decode cX11_allTo 46 = .ok (.goto (-41), 3) := by decide +kernel
theorem dX11_allTo_49 : decode cX11_allTo 49 = .ok (.iload_n 3, 1) := by decide +kernel
theorem dX11_allTo_50 : decode cX11_allTo 50 = .ok (.ireturn, 1) := by decide +kernel
theorem dX11_heardOf_0 : decode cX11_heardOf 0 = .ok (.aload_n 0, 1) := by decide +kernel
theorem dX11_heardOf_1 : decode cX11_heardOf 1 = .ok (.iload_n 1, 1) := by decide +kernel
theorem dX11_heardOf_2 : decode cX11_heardOf 2 = .ok (.iload_n 2, 1) := by decide +kernel
theorem dX11_heardOf_3 : decode cX11_heardOf 3 = .ok (.invokevirtual 275, 3) := by decide +kernel
theorem dX11_heardOf_6 : decode cX11_heardOf 6 = .ok (.aload_n 0, 1) := by decide +kernel
theorem dX11_heardOf_7 : decode cX11_heardOf 7 = .ok (.iload_n 2, 1) := by decide +kernel
theorem dX11_heardOf_8 : decode cX11_heardOf 8 = .ok (.iload_n 1, 1) := by decide +kernel
theorem dX11_heardOf_9 : decode cX11_heardOf 9 = .ok (.invokevirtual 282, 3) := by decide +kernel
theorem dX11_heardOf_12 : decode cX11_heardOf 12 = .ok (.ireturn, 1) := by decide +kernel
theorem dX11_heard_0 : decode cX11_heard 0 = .ok (.aload_n 0, 1) := by decide +kernel
theorem dX11_heard_1 : decode cX11_heard 1 = .ok (.iload_n 1, 1) := by decide +kernel
theorem dX11_heard_2 : decode cX11_heard 2 = .ok (.invokevirtual 228, 3) := by decide +kernel
theorem dX11_heard_5 : decode cX11_heard 5 = .ok (.ifCond .eq 19, 3) := by decide +kernel
theorem dX11_heard_8 : decode cX11_heard 8 = .ok (.iload_n 2, 1) := by decide +kernel
theorem dX11_heard_9 : decode cX11_heard 9 = .ok (.invokestatic 231, 3) := by decide +kernel
theorem dX11_heard_12 : decode cX11_heard 12 = .ok (.ifCond .eq 12, 3) := by decide +kernel
theorem dX11_heard_15 : decode cX11_heard 15 = .ok (.aload_n 0, 1) := by decide +kernel
theorem dX11_heard_16 : decode cX11_heard 16 = .ok (.iload_n 1, 1) := by decide +kernel
theorem dX11_heard_17 : decode cX11_heard 17 = .ok (.iload_n 2, 1) := by decide +kernel
theorem dX11_heard_18 : decode cX11_heard 18 = .ok (.invokevirtual 285, 3) := by decide +kernel
theorem dX11_heard_21 : decode cX11_heard 21 = .ok (.goto 4, 3) := by decide +kernel
theorem dX11_heard_24 : decode cX11_heard 24 = .ok (.iconst (-1), 1) := by decide +kernel
theorem dX11_heard_25 : decode cX11_heard 25 = .ok (.ireturn, 1) := by decide +kernel
theorem dX11_answer_0 : decode cX11_answer 0 = .ok (.aload_n 0, 1) := by decide +kernel
theorem dX11_answer_1 : decode cX11_answer 1 = .ok (.iload_n 1, 1) := by decide +kernel
theorem dX11_answer_2 : decode cX11_answer 2 = .ok (.invokevirtual 228, 3) := by decide +kernel
theorem dX11_answer_5 : decode cX11_answer 5 = .ok (.ifCond .eq 10, 3) := by decide +kernel
theorem dX11_answer_8 : decode cX11_answer 8 = .ok (.iload_n 2, 1) := by decide +kernel
theorem dX11_answer_9 : decode cX11_answer 9 = .ok (.invokestatic 231, 3) := by decide +kernel
theorem dX11_answer_12 : decode cX11_answer 12 = .ok (.ifCond .ne 5, 3) := by decide +kernel
theorem dX11_answer_15 : decode cX11_answer 15 = .ok (.iconst (-1), 1) := by decide +kernel
theorem dX11_answer_16 : decode cX11_answer 16 = .ok (.ireturn, 1) := by decide +kernel
theorem dX11_answer_17 : decode cX11_answer 17 = .ok (.aload_n 0, 1) := by decide +kernel
theorem dX11_answer_18 : decode cX11_answer 18 = .ok (.iload_n 1, 1) := by decide +kernel
theorem dX11_answer_19 : decode cX11_answer 19 = .ok (.iload_n 2, 1) := by decide +kernel
theorem dX11_answer_20 : decode cX11_answer 20 = .ok (.invokevirtual 285, 3) := by decide +kernel
theorem dX11_answer_23 : decode cX11_answer 23 = .ok (.istore_n 3, 1) := by decide +kernel
theorem dX11_answer_24 : decode cX11_answer 24 = .ok (.iconst 0, 1) := by decide +kernel
theorem dX11_answer_25 : decode cX11_answer 25 = .ok (.istore 4, 2) := by decide +kernel
theorem dX11_answer_27 : decode cX11_answer 27 = .ok (.iload 4, 2) := by decide +kernel
theorem dX11_answer_29 : decode cX11_answer 29 = .ok (.aload_n 0, 1) := by decide +kernel
theorem dX11_answer_30 : decode cX11_answer 30 = .ok (.getfield 102, 3) := by decide +kernel
theorem dX11_answer_33 : decode cX11_answer 33 = .ok (.if_icmp .ge 38, 3) := by decide +kernel
theorem dX11_answer_36 : decode cX11_answer 36 = .ok (.iload_n 3, 1) := by decide +kernel
theorem dX11_answer_37 : decode cX11_answer 37 = .ok (.iconst 1, 1) := by decide +kernel
theorem dX11_answer_38 : decode cX11_answer 38 = .ok (.iload 4, 2) := by decide +kernel
theorem dX11_answer_40 : decode cX11_answer 40 = .ok (.ishl, 1) := by decide +kernel
theorem dX11_answer_41 : decode cX11_answer 41 = .ok (.if_icmp .ne 24, 3) := by decide +kernel
theorem dX11_answer_44 : decode cX11_answer 44 = .ok (.aload_n 0, 1) := by decide +kernel
theorem dX11_answer_45 : decode cX11_answer 45 = .ok (.iload 4, 2) := by decide +kernel
theorem dX11_answer_47 : decode cX11_answer 47 = .ok (.iload_n 2, 1) := by decide +kernel
theorem dX11_answer_48 : decode cX11_answer 48 = .ok (.invokevirtual 285, 3) := by decide +kernel
theorem dX11_answer_51 : decode cX11_answer 51 = .ok (.iconst 1, 1) := by decide +kernel
theorem dX11_answer_52 : decode cX11_answer 52 = .ok (.iload_n 1, 1) := by decide +kernel
theorem dX11_answer_53 : decode cX11_answer 53 = .ok (.ishl, 1) := by decide +kernel
theorem dX11_answer_54 : decode cX11_answer 54 = .ok (.if_icmp .ne 8, 3) := by decide +kernel
theorem dX11_answer_57 : decode cX11_answer 57 = .ok (.iload 4, 2) := by decide +kernel
theorem dX11_answer_59 : decode cX11_answer 59 = .ok (.goto 5, 3) := by decide +kernel
theorem dX11_answer_62 : decode cX11_answer 62 = .ok (.bipush (-4), 2) := by decide +kernel
theorem dX11_answer_64 : decode cX11_answer 64 = .ok (.ireturn, 1) := by decide +kernel
theorem dX11_answer_65 : decode cX11_answer 65 = .ok (.iinc 4 1, 3) := by decide +kernel
theorem dX11_answer_68 : decode cX11_answer 68 = .ok (.goto (-41), 3) := by decide +kernel
theorem dX11_answer_71 : decode cX11_answer 71 = .ok (.bipush (-4), 2) := by decide +kernel
theorem dX11_answer_73 : decode cX11_answer 73 = .ok (.ireturn, 1) := by decide +kernel
theorem dX11_findHeards_0 : decode cX11_findHeards 0 = .ok (.iconst 0, 1) := by decide +kernel
theorem dX11_findHeards_1 : decode cX11_findHeards 1 = .ok (.istore_n 2, 1) := by decide +kernel
theorem dX11_findHeards_2 : decode cX11_findHeards 2 = .ok (.iload_n 2, 1) := by decide +kernel
theorem dX11_findHeards_3 : decode cX11_findHeards 3 = .ok (.aload_n 0, 1) := by decide +kernel
theorem dX11_findHeards_4 : decode cX11_findHeards 4 = .ok (.getfield 102, 3) := by decide +kernel
theorem dX11_findHeards_7 : decode cX11_findHeards 7 = .ok (.if_icmp .ge 21, 3) := by decide +kernel
theorem dX11_findHeards_10 : decode cX11_findHeards 10 = .ok (.aload_n 0, 1) := by decide +kernel
theorem dX11_findHeards_11 : decode cX11_findHeards 11 = .ok (.getfield 44, 3) := by decide +kernel
theorem dX11_findHeards_14 : decode cX11_findHeards 14 = .ok (.iload_n 2, 1) := by decide +kernel
theorem dX11_findHeards_15 : decode cX11_findHeards 15 = .ok (.aload_n 0, 1) := by decide +kernel
theorem dX11_findHeards_16 : decode cX11_findHeards 16 = .ok (.iload_n 2, 1) := by decide +kernel
theorem dX11_findHeards_17 : decode cX11_findHeards 17 = .ok (.iload_n 1, 1) := by decide +kernel
theorem dX11_findHeards_18 : decode cX11_findHeards 18 = .ok (.invokevirtual 285, 3) := by decide +kernel
theorem dX11_findHeards_21 : decode cX11_findHeards 21 = .ok (.iastore, 1) := by decide +kernel
theorem dX11_findHeards_22 : decode cX11_findHeards 22 = .ok (.iinc 2 1, 3) := by decide +kernel
theorem dX11_findHeards_25 : decode cX11_findHeards 25 = .ok (.goto (-23), 3) := by decide +kernel
theorem dX11_findHeards_28 : decode cX11_findHeards 28 = .ok (.return_, 1) := by decide +kernel
theorem dX11_can_0 : decode cX11_can 0 = .ok (.aload_n 0, 1) := by decide +kernel
theorem dX11_can_1 : decode cX11_can 1 = .ok (.iload_n 1, 1) := by decide +kernel
theorem dX11_can_2 : decode cX11_can 2 = .ok (.invokevirtual 248, 3) := by decide +kernel
theorem dX11_can_5 : decode cX11_can 5 = .ok (.ifCond .eq 23, 3) := by decide +kernel
theorem dX11_can_8 : decode cX11_can 8 = .ok (.aload_n 0, 1) := by decide +kernel
theorem dX11_can_9 : decode cX11_can 9 = .ok (.iload_n 2, 1) := by decide +kernel
theorem dX11_can_10 : decode cX11_can 10 = .ok (.invokevirtual 248, 3) := by decide +kernel
theorem dX11_can_13 : decode cX11_can 13 = .ok (.ifCond .eq 15, 3) := by decide +kernel
theorem dX11_can_16 : decode cX11_can 16 = .ok (.iload_n 1, 1) := by decide +kernel
theorem dX11_can_17 : decode cX11_can 17 = .ok (.iload_n 2, 1) := by decide +kernel
theorem dX11_can_18 : decode cX11_can 18 = .ok (.if_icmp .eq 10, 3) := by decide +kernel
theorem dX11_can_21 : decode cX11_can 21 = .ok (.iload_n 3, 1) := by decide +kernel
theorem dX11_can_22 : decode cX11_can 22 = .ok (.invokestatic 231, 3) := by decide +kernel
theorem dX11_can_25 : decode cX11_can 25 = .ok (.ifCond .ne 5, 3) := by decide +kernel
theorem dX11_can_28 : decode cX11_can 28 = .ok (.iconst (-1), 1) := by decide +kernel
theorem dX11_can_29 : decode cX11_can 29 = .ok (.ireturn, 1) := by decide +kernel
theorem dX11_can_30 : decode cX11_can 30 = .ok (.aload_n 0, 1) := by decide +kernel
theorem dX11_can_31 : decode cX11_can 31 = .ok (.aload_n 0, 1) := by decide +kernel
theorem dX11_can_32 : decode cX11_can 32 = .ok (.getfield 7, 3) := by decide +kernel
theorem dX11_can_35 : decode cX11_can 35 = .ok (.bipush 82, 2) := by decide +kernel
theorem dX11_can_37 : decode cX11_can 37 = .ok (.iload_n 1, 1) := by decide +kernel
theorem dX11_can_38 : decode cX11_can 38 = .ok (.iadd, 1) := by decide +kernel
theorem dX11_can_39 : decode cX11_can 39 = .ok (.iaload, 1) := by decide +kernel
theorem dX11_can_40 : decode cX11_can 40 = .ok (.iload_n 3, 1) := by decide +kernel
theorem dX11_can_41 : decode cX11_can 41 = .ok (.invokevirtual 285, 3) := by decide +kernel
theorem dX11_can_44 : decode cX11_can 44 = .ok (.aload_n 0, 1) := by decide +kernel
theorem dX11_can_45 : decode cX11_can 45 = .ok (.getfield 7, 3) := by decide +kernel
theorem dX11_can_48 : decode cX11_can 48 = .ok (.bipush 82, 2) := by decide +kernel
theorem dX11_can_50 : decode cX11_can 50 = .ok (.iload_n 2, 1) := by decide +kernel
theorem dX11_can_51 : decode cX11_can 51 = .ok (.iadd, 1) := by decide +kernel
theorem dX11_can_52 : decode cX11_can 52 = .ok (.iaload, 1) := by decide +kernel
theorem dX11_can_53 : decode cX11_can 53 = .ok (.ishr, 1) := by decide +kernel
theorem dX11_can_54 : decode cX11_can 54 = .ok (.iconst 1, 1) := by decide +kernel
theorem dX11_can_55 : decode cX11_can 55 = .ok (.iand, 1) := by decide +kernel
theorem dX11_can_56 : decode cX11_can 56 = .ok (.ireturn, 1) := by decide +kernel
theorem dX11_sitsAsNow_0 : decode cX11_sitsAsNow 0 = .ok (.iconst 0, 1) := by decide +kernel
theorem dX11_sitsAsNow_1 : decode cX11_sitsAsNow 1 = .ok (.istore_n 1, 1) := by decide +kernel
theorem dX11_sitsAsNow_2 : decode cX11_sitsAsNow 2 = .ok (.iload_n 1, 1) := by decide +kernel
theorem dX11_sitsAsNow_3 : decode cX11_sitsAsNow 3 = .ok (.bipush 6, 2) := by decide +kernel
theorem dX11_sitsAsNow_5 : decode cX11_sitsAsNow 5 = .ok (.if_icmp .ge 24, 3) := by decide +kernel
theorem dX11_sitsAsNow_8 : decode cX11_sitsAsNow 8 = .ok (.aload_n 0, 1) := by decide +kernel
theorem dX11_sitsAsNow_9 : decode cX11_sitsAsNow 9 = .ok (.getfield 47, 3) := by decide +kernel
theorem dX11_sitsAsNow_12 : decode cX11_sitsAsNow 12 = .ok (.iload_n 1, 1) := by decide +kernel
theorem dX11_sitsAsNow_13 : decode cX11_sitsAsNow 13 = .ok (.aload_n 0, 1) := by decide +kernel
theorem dX11_sitsAsNow_14 : decode cX11_sitsAsNow 14 = .ok (.getfield 7, 3) := by decide +kernel
theorem dX11_sitsAsNow_17 : decode cX11_sitsAsNow 17 = .ok (.bipush 82, 2) := by decide +kernel
theorem dX11_sitsAsNow_19 : decode cX11_sitsAsNow 19 = .ok (.iload_n 1, 1) := by decide +kernel
theorem dX11_sitsAsNow_20 : decode cX11_sitsAsNow 20 = .ok (.iadd, 1) := by decide +kernel
theorem dX11_sitsAsNow_21 : decode cX11_sitsAsNow 21 = .ok (.iaload, 1) := by decide +kernel
theorem dX11_sitsAsNow_22 : decode cX11_sitsAsNow 22 = .ok (.iastore, 1) := by decide +kernel
theorem dX11_sitsAsNow_23 : decode cX11_sitsAsNow 23 = .ok (.iinc 1 1, 3) := by decide +kernel
theorem dX11_sitsAsNow_26 : decode cX11_sitsAsNow 26 = .ok (.goto (-24), 3) := by decide +kernel
theorem dX11_sitsAsNow_29 : decode cX11_sitsAsNow 29 = .ok (.return_, 1) := by decide +kernel
theorem dX11_brokenBy_0 : decode cX11_brokenBy 0 = .ok (.iconst 0, 1) := by decide +kernel
theorem dX11_brokenBy_1 : decode cX11_brokenBy 1 = .ok (.istore_n 1, 1) := by decide +kernel
theorem dX11_brokenBy_2 : decode cX11_brokenBy 2 = .ok (.iconst 0, 1) := by decide +kernel
theorem dX11_brokenBy_3 : decode cX11_brokenBy 3 = .ok (.istore_n 2, 1) := by decide +kernel
theorem dX11_brokenBy_4 : decode cX11_brokenBy 4 = .ok (.iload_n 2, 1) := by decide +kernel
theorem dX11_brokenBy_5 : decode cX11_brokenBy 5 = .ok (.aload_n 0, 1) := by decide +kernel
theorem dX11_brokenBy_6 : decode cX11_brokenBy 6 = .ok (.getfield 112, 3) := by decide +kernel
theorem dX11_brokenBy_9 : decode cX11_brokenBy 9 = .ok (.if_icmp .ge 73, 3) := by decide +kernel
theorem dX11_brokenBy_12 : decode cX11_brokenBy 12 = .ok (.aload_n 0, 1) := by decide +kernel
theorem dX11_brokenBy_13 : decode cX11_brokenBy 13 = .ok (.getfield 44, 3) := by decide +kernel
theorem dX11_brokenBy_16 : decode cX11_brokenBy 16 = .ok (.aload_n 0, 1) := by decide +kernel
theorem dX11_brokenBy_17 : decode cX11_brokenBy 17 = .ok (.getfield 47, 3) := by decide +kernel
theorem dX11_brokenBy_20 : decode cX11_brokenBy 20 = .ok (.aload_n 0, 1) := by decide +kernel
theorem dX11_brokenBy_21 : decode cX11_brokenBy 21 = .ok (.getfield 20, 3) := by decide +kernel
theorem dX11_brokenBy_24 : decode cX11_brokenBy 24 = .ok (.iconst 3, 1) := by decide +kernel
theorem dX11_brokenBy_25 : decode cX11_brokenBy 25 = .ok (.iload_n 2, 1) := by decide +kernel
theorem dX11_brokenBy_26 : decode cX11_brokenBy 26 = .ok (.imul, 1) := by decide +kernel
theorem dX11_brokenBy_27 : decode cX11_brokenBy 27 = .ok (.iaload, 1) := by decide +kernel
theorem dX11_brokenBy_28 : decode cX11_brokenBy 28 = .ok (.iaload, 1) := by decide +kernel
theorem dX11_brokenBy_29 : decode cX11_brokenBy 29 = .ok (.iaload, 1) := by decide +kernel
theorem dX11_brokenBy_30 : decode cX11_brokenBy 30 = .ok (.aload_n 0, 1) := by decide +kernel
theorem dX11_brokenBy_31 : decode cX11_brokenBy 31 = .ok (.getfield 47, 3) := by decide +kernel
theorem dX11_brokenBy_34 : decode cX11_brokenBy 34 = .ok (.aload_n 0, 1) := by decide +kernel
theorem dX11_brokenBy_35 : decode cX11_brokenBy 35 = .ok (.getfield 20, 3) := by decide +kernel
theorem dX11_brokenBy_38 : decode cX11_brokenBy 38 = .ok (.iconst 3, 1) := by decide +kernel
theorem dX11_brokenBy_39 : decode cX11_brokenBy 39 = .ok (.iload_n 2, 1) := by decide +kernel
theorem dX11_brokenBy_40 : decode cX11_brokenBy 40 = .ok (.imul, 1) := by decide +kernel
theorem dX11_brokenBy_41 : decode cX11_brokenBy 41 = .ok (.iconst 1, 1) := by decide +kernel
theorem dX11_brokenBy_42 : decode cX11_brokenBy 42 = .ok (.iadd, 1) := by decide +kernel
theorem dX11_brokenBy_43 : decode cX11_brokenBy 43 = .ok (.iaload, 1) := by decide +kernel
theorem dX11_brokenBy_44 : decode cX11_brokenBy 44 = .ok (.iaload, 1) := by decide +kernel
theorem dX11_brokenBy_45 : decode cX11_brokenBy 45 = .ok (.ishr, 1) := by decide +kernel
theorem dX11_brokenBy_46 : decode cX11_brokenBy 46 = .ok (.iconst 1, 1) := by decide +kernel
theorem dX11_brokenBy_47 : decode cX11_brokenBy 47 = .ok (.iand, 1) := by decide +kernel
theorem dX11_brokenBy_48 : decode cX11_brokenBy 48 = .ok (.istore_n 3, 1) := by decide +kernel
theorem dX11_brokenBy_49 : decode cX11_brokenBy 49 = .ok (.iload_n 1, 1) := by decide +kernel
theorem dX11_brokenBy_50 : decode cX11_brokenBy 50 = .ok (.iload_n 3, 1) := by decide +kernel
theorem dX11_brokenBy_51 : decode cX11_brokenBy 51 = .ok (.aload_n 0, 1) := by decide +kernel
theorem dX11_brokenBy_52 : decode cX11_brokenBy 52 = .ok (.getfield 20, 3) := by decide +kernel
theorem dX11_brokenBy_55 : decode cX11_brokenBy 55 = .ok (.iconst 3, 1) := by decide +kernel
theorem dX11_brokenBy_56 : decode cX11_brokenBy 56 = .ok (.iload_n 2, 1) := by decide +kernel
theorem dX11_brokenBy_57 : decode cX11_brokenBy 57 = .ok (.imul, 1) := by decide +kernel
theorem dX11_brokenBy_58 : decode cX11_brokenBy 58 = .ok (.iconst 2, 1) := by decide +kernel
theorem dX11_brokenBy_59 : decode cX11_brokenBy 59 = .ok (.iadd, 1) := by decide +kernel
theorem dX11_brokenBy_60 : decode cX11_brokenBy 60 = .ok (.iaload, 1) := by decide +kernel
theorem dX11_brokenBy_61 : decode cX11_brokenBy 61 = .ok (.if_icmp .eq 7, 3) := by decide +kernel
theorem dX11_brokenBy_64 : decode cX11_brokenBy 64 = .ok (.iconst 1, 1) := by decide +kernel
theorem dX11_brokenBy_65 : decode cX11_brokenBy 65 = .ok (.goto 4, 3) := by decide +kernel
theorem dX11_brokenBy_68 : decode cX11_brokenBy 68 = .ok (.iconst 0, 1) := by decide +kernel
theorem dX11_brokenBy_69 : decode cX11_brokenBy 69 = .ok (.invokestatic 195, 3) := by decide +kernel
theorem dX11_brokenBy_72 : decode cX11_brokenBy 72 = .ok (.iload_n 2, 1) := by decide +kernel
theorem dX11_brokenBy_73 : decode cX11_brokenBy 73 = .ok (.ishl, 1) := by decide +kernel
theorem dX11_brokenBy_74 : decode cX11_brokenBy 74 = .ok (.ior, 1) := by decide +kernel
theorem dX11_brokenBy_75 : decode cX11_brokenBy 75 = .ok (.istore_n 1, 1) := by decide +kernel
theorem dX11_brokenBy_76 : decode cX11_brokenBy 76 = .ok (.iinc 2 1, 3) := by decide +kernel
theorem dX11_brokenBy_79 : decode cX11_brokenBy 79 = .ok (.goto (-75), 3) := by decide +kernel
theorem dX11_brokenBy_82 : decode cX11_brokenBy 82 = .ok (.iload_n 1, 1) := by decide +kernel
theorem dX11_brokenBy_83 : decode cX11_brokenBy 83 = .ok (.ireturn, 1) := by decide +kernel
theorem dX11_brokenIn_0 : decode cX11_brokenIn 0 = .ok (.aload_n 0, 1) := by decide +kernel
theorem dX11_brokenIn_1 : decode cX11_brokenIn 1 = .ok (.iload_n 1, 1) := by decide +kernel
theorem dX11_brokenIn_2 : decode cX11_brokenIn 2 = .ok (.invokevirtual 288, 3) := by decide +kernel
theorem dX11_brokenIn_5 : decode cX11_brokenIn 5 = .ok (.aload_n 0, 1) := by decide +kernel
theorem dX11_brokenIn_6 : decode cX11_brokenIn 6 = .ok (.invokevirtual 291, 3) := by decide +kernel
theorem dX11_brokenIn_9 : decode cX11_brokenIn 9 = .ok (.aload_n 0, 1) := by decide +kernel
theorem dX11_brokenIn_10 : decode cX11_brokenIn 10 = .ok (.invokevirtual 294, 3) := by decide +kernel
theorem dX11_brokenIn_13 : decode cX11_brokenIn 13 = .ok (.ireturn, 1) := by decide +kernel
theorem dX11_broken_0 : decode cX11_broken 0 = .ok (.iload_n 1, 1) := by decide +kernel
theorem dX11_broken_1 : decode cX11_broken 1 = .ok (.invokestatic 231, 3) := by decide +kernel
theorem dX11_broken_4 : decode cX11_broken 4 = .ok (.ifCond .eq 11, 3) := by decide +kernel
theorem dX11_broken_7 : decode cX11_broken 7 = .ok (.aload_n 0, 1) := by decide +kernel
theorem dX11_broken_8 : decode cX11_broken 8 = .ok (.iload_n 1, 1) := by decide +kernel
theorem dX11_broken_9 : decode cX11_broken 9 = .ok (.invokevirtual 297, 3) := by decide +kernel
theorem dX11_broken_12 : decode cX11_broken 12 = .ok (.goto 4, 3) := by decide +kernel
theorem dX11_broken_15 : decode cX11_broken 15 = .ok (.iconst (-1), 1) := by decide +kernel
theorem dX11_broken_16 : decode cX11_broken 16 = .ok (.ireturn, 1) := by decide +kernel
theorem dX11_areUnlike_0 : decode cX11_areUnlike 0 = .ok (.iconst 0, 1) := by decide +kernel
theorem dX11_areUnlike_1 : decode cX11_areUnlike 1 = .ok (.istore_n 1, 1) := by decide +kernel
theorem dX11_areUnlike_2 : decode cX11_areUnlike 2 = .ok (.iconst 1, 1) := by decide +kernel
theorem dX11_areUnlike_3 : decode cX11_areUnlike 3 = .ok (.istore_n 2, 1) := by decide +kernel
theorem dX11_areUnlike_4 : decode cX11_areUnlike 4 = .ok (.iconst 0, 1) := by decide +kernel
theorem dX11_areUnlike_5 : decode cX11_areUnlike 5 = .ok (.istore_n 3, 1) := by decide +kernel
theorem dX11_areUnlike_6 : decode cX11_areUnlike 6 = .ok (.iload_n 3, 1) := by decide +kernel
theorem dX11_areUnlike_7 : decode cX11_areUnlike 7 = .ok (.aload_n 0, 1) := by decide +kernel
theorem dX11_areUnlike_8 : decode cX11_areUnlike 8 = .ok (.getfield 109, 3) := by decide +kernel
theorem dX11_areUnlike_11 : decode cX11_areUnlike 11 = .ok (.if_icmp .ge 43, 3) := by decide +kernel
theorem dX11_areUnlike_14 : decode cX11_areUnlike 14 = .ok (.iload_n 2, 1) := by decide +kernel
theorem dX11_areUnlike_15 : decode cX11_areUnlike 15 = .ok (.ifCond .eq 20, 3) := by decide +kernel
theorem dX11_areUnlike_18 : decode cX11_areUnlike 18 = .ok (.iload_n 1, 1) := by decide +kernel
theorem dX11_areUnlike_19 : decode cX11_areUnlike 19 = .ok (.aload_n 0, 1) := by decide +kernel
theorem dX11_areUnlike_20 : decode cX11_areUnlike 20 = .ok (.getfield 47, 3) := by decide +kernel
theorem dX11_areUnlike_23 : decode cX11_areUnlike 23 = .ok (.iload_n 3, 1) := by decide +kernel
theorem dX11_areUnlike_24 : decode cX11_areUnlike 24 = .ok (.iaload, 1) := by decide +kernel
theorem dX11_areUnlike_25 : decode cX11_areUnlike 25 = .ok (.ishr, 1) := by decide +kernel
theorem dX11_areUnlike_26 : decode cX11_areUnlike 26 = .ok (.iconst 1, 1) := by decide +kernel
theorem dX11_areUnlike_27 : decode cX11_areUnlike 27 = .ok (.iand, 1) := by decide +kernel
theorem dX11_areUnlike_28 : decode cX11_areUnlike 28 = .ok (.ifCond .ne 7, 3) := by decide +kernel
theorem dX11_areUnlike_31 : decode cX11_areUnlike 31 = .ok (.iconst 1, 1) := by decide +kernel
theorem dX11_areUnlike_32 : decode cX11_areUnlike 32 = .ok (.goto 4, 3) := by decide +kernel
theorem dX11_areUnlike_35 : decode cX11_areUnlike 35 = .ok (.iconst 0, 1) := by decide +kernel
theorem dX11_areUnlike_36 : decode cX11_areUnlike 36 = .ok (.istore_n 2, 1) := by decide +kernel
theorem dX11_areUnlike_37 : decode cX11_areUnlike 37 = .ok (.iload_n 1, 1) := by decide +kernel
theorem dX11_areUnlike_38 : decode cX11_areUnlike 38 = .ok (.iconst 1, 1) := by decide +kernel
theorem dX11_areUnlike_39 : decode cX11_areUnlike 39 = .ok (.aload_n 0, 1) := by decide +kernel
theorem dX11_areUnlike_40 : decode cX11_areUnlike 40 = .ok (.getfield 47, 3) := by decide +kernel
theorem dX11_areUnlike_43 : decode cX11_areUnlike 43 = .ok (.iload_n 3, 1) := by decide +kernel
theorem dX11_areUnlike_44 : decode cX11_areUnlike 44 = .ok (.iaload, 1) := by decide +kernel
theorem dX11_areUnlike_45 : decode cX11_areUnlike 45 = .ok (.ishl, 1) := by decide +kernel
theorem dX11_areUnlike_46 : decode cX11_areUnlike 46 = .ok (.ior, 1) := by decide +kernel
theorem dX11_areUnlike_47 : decode cX11_areUnlike 47 = .ok (.istore_n 1, 1) := by decide +kernel
theorem dX11_areUnlike_48 : decode cX11_areUnlike 48 = .ok (.iinc 3 1, 3) := by decide +kernel
theorem dX11_areUnlike_51 : decode cX11_areUnlike 51 = .ok (.goto (-45), 3) := by decide +kernel
theorem dX11_areUnlike_54 : decode cX11_areUnlike 54 = .ok (.iload_n 2, 1) := by decide +kernel
theorem dX11_areUnlike_55 : decode cX11_areUnlike 55 = .ok (.ireturn, 1) := by decide +kernel
theorem dX11_nextSeats_0 : decode cX11_nextSeats 0 = .ok (.aload_n 0, 1) := by decide +kernel
theorem dX11_nextSeats_1 : decode cX11_nextSeats 1 = .ok (.getfield 109, 3) := by decide +kernel
theorem dX11_nextSeats_4 : decode cX11_nextSeats 4 = .ok (.iconst 1, 1) := by decide +kernel
theorem dX11_nextSeats_5 : decode cX11_nextSeats 5 = .ok (.isub, 1) := by decide +kernel
theorem dX11_nextSeats_6 : decode cX11_nextSeats 6 = .ok (.istore_n 1, 1) := by decide +kernel
theorem dX11_nextSeats_7 : decode cX11_nextSeats 7 = .ok (.iload_n 1, 1) := by decide +kernel
theorem dX11_nextSeats_8 : decode cX11_nextSeats 8 = .ok (.ifCond .lt 31, 3) := by decide +kernel
theorem dX11_nextSeats_11 : decode cX11_nextSeats 11 = .ok (.aload_n 0, 1) := by decide +kernel
theorem dX11_nextSeats_12 : decode cX11_nextSeats 12 = .ok (.getfield 47, 3) := by decide +kernel
theorem dX11_nextSeats_15 : decode cX11_nextSeats 15 = .ok (.iload_n 1, 1) := by decide +kernel
theorem dX11_nextSeats_16 : decode cX11_nextSeats 16 = .ok (.iaload, 1) := by decide +kernel
theorem dX11_nextSeats_17 : decode cX11_nextSeats 17 = .ok (.aload_n 0, 1) := by decide +kernel
theorem dX11_nextSeats_18 : decode cX11_nextSeats 18 = .ok (.getfield 102, 3) := by decide +kernel
theorem dX11_nextSeats_21 : decode cX11_nextSeats 21 = .ok (.iconst 1, 1) := by decide +kernel
theorem dX11_nextSeats_22 : decode cX11_nextSeats 22 = .ok (.isub, 1) := by decide +kernel
theorem dX11_nextSeats_23 : decode cX11_nextSeats 23 = .ok (.if_icmp .ne 16, 3) := by decide +kernel
theorem dX11_nextSeats_26 : decode cX11_nextSeats 26 = .ok (.aload_n 0, 1) := by decide +kernel
theorem dX11_nextSeats_27 : decode cX11_nextSeats 27 = .ok (.getfield 47, 3) := by decide +kernel
theorem dX11_nextSeats_30 : decode cX11_nextSeats 30 = .ok (.iload_n 1, 1) := by decide +kernel
theorem dX11_nextSeats_31 : decode cX11_nextSeats 31 = .ok (.iconst 0, 1) := by decide +kernel
theorem dX11_nextSeats_32 : decode cX11_nextSeats 32 = .ok (.iastore, 1) := by decide +kernel
theorem dX11_nextSeats_33 : decode cX11_nextSeats 33 = .ok (.iinc 1 (-1), 3) := by decide +kernel
theorem dX11_nextSeats_36 : decode cX11_nextSeats 36 = .ok (.goto (-29), 3) := by decide +kernel
theorem dX11_nextSeats_39 : decode cX11_nextSeats 39 = .ok (.iload_n 1, 1) := by decide +kernel
theorem dX11_nextSeats_40 : decode cX11_nextSeats 40 = .ok (.ifCond .lt 13, 3) := by decide +kernel
theorem dX11_nextSeats_43 : decode cX11_nextSeats 43 = .ok (.aload_n 0, 1) := by decide +kernel
theorem dX11_nextSeats_44 : decode cX11_nextSeats 44 = .ok (.getfield 47, 3) := by decide +kernel
theorem dX11_nextSeats_47 : decode cX11_nextSeats 47 = .ok (.iload_n 1, 1) := by decide +kernel
theorem dX11_nextSeats_48 : decode cX11_nextSeats 48 = .ok (.dup2, 1) := by decide +kernel
theorem dX11_nextSeats_49 : decode cX11_nextSeats 49 = .ok (.iaload, 1) := by decide +kernel
theorem dX11_nextSeats_50 : decode cX11_nextSeats 50 = .ok (.iconst 1, 1) := by decide +kernel
theorem dX11_nextSeats_51 : decode cX11_nextSeats 51 = .ok (.iadd, 1) := by decide +kernel
theorem dX11_nextSeats_52 : decode cX11_nextSeats 52 = .ok (.iastore, 1) := by decide +kernel
theorem dX11_nextSeats_53 : decode cX11_nextSeats 53 = .ok (.iload_n 1, 1) := by decide +kernel
theorem dX11_nextSeats_54 : decode cX11_nextSeats 54 = .ok (.ifCond .lt 7, 3) := by decide +kernel
theorem dX11_nextSeats_57 : decode cX11_nextSeats 57 = .ok (.iconst 1, 1) := by decide +kernel
theorem dX11_nextSeats_58 : decode cX11_nextSeats 58 = .ok (.goto 4, 3) := by decide +kernel
theorem dX11_nextSeats_61 : decode cX11_nextSeats 61 = .ok (.iconst 0, 1) := by decide +kernel
theorem dX11_nextSeats_62 : decode cX11_nextSeats 62 = .ok (.ireturn, 1) := by decide +kernel
theorem dX11_findSeating_0 : decode cX11_findSeating 0 = .ok (.aload_n 0, 1) := by decide +kernel
theorem dX11_findSeating_1 : decode cX11_findSeating 1 = .ok (.iload_n 1, 1) := by decide +kernel
theorem dX11_findSeating_2 : decode cX11_findSeating 2 = .ok (.invokevirtual 288, 3) := by decide +kernel
theorem dX11_findSeating_5 : decode cX11_findSeating 5 = .ok (.aload_n 0, 1) := by decide +kernel
theorem dX11_findSeating_6 : decode cX11_findSeating 6 = .ok (.bipush (-4), 2) := by decide +kernel
theorem dX11_findSeating_8 : decode cX11_findSeating 8 = .ok (.putfield 300, 3) := by decide +kernel
theorem dX11_findSeating_11 : decode cX11_findSeating 11 = .ok (.aload_n 0, 1) := by decide +kernel
theorem dX11_findSeating_12 : decode cX11_findSeating 12 = .ok (.iconst 0, 1) := by decide +kernel
theorem dX11_findSeating_13 : decode cX11_findSeating 13 = .ok (.putfield 303, 3) := by decide +kernel
theorem dX11_findSeating_16 : decode cX11_findSeating 16 = .ok (.iconst 0, 1) := by decide +kernel
theorem dX11_findSeating_17 : decode cX11_findSeating 17 = .ok (.istore_n 2, 1) := by decide +kernel
theorem dX11_findSeating_18 : decode cX11_findSeating 18 = .ok (.iload_n 2, 1) := by decide +kernel
theorem dX11_findSeating_19 : decode cX11_findSeating 19 = .ok (.bipush 6, 2) := by decide +kernel
theorem dX11_findSeating_21 : decode cX11_findSeating 21 = .ok (.if_icmp .ge 16, 3) := by decide +kernel
theorem dX11_findSeating_24 : decode cX11_findSeating 24 = .ok (.aload_n 0, 1) := by decide +kernel
theorem dX11_findSeating_25 : decode cX11_findSeating 25 = .ok (.getfield 47, 3) := by decide +kernel
theorem dX11_findSeating_28 : decode cX11_findSeating 28 = .ok (.iload_n 2, 1) := by decide +kernel
theorem dX11_findSeating_29 : decode cX11_findSeating 29 = .ok (.iconst 0, 1) := by decide +kernel
theorem dX11_findSeating_30 : decode cX11_findSeating 30 = .ok (.iastore, 1) := by decide +kernel
theorem dX11_findSeating_31 : decode cX11_findSeating 31 = .ok (.iinc 2 1, 3) := by decide +kernel
theorem dX11_findSeating_34 : decode cX11_findSeating 34 = .ok (.goto (-16), 3) := by decide +kernel
theorem dX11_findSeating_37 : decode cX11_findSeating 37 = .ok (.iconst 1, 1) := by decide +kernel
theorem dX11_findSeating_38 : decode cX11_findSeating 38 = .ok (.istore_n 2, 1) := by decide +kernel
theorem dX11_findSeating_39 : decode cX11_findSeating 39 = .ok (.iload_n 2, 1) := by decide +kernel
theorem dX11_findSeating_40 : decode cX11_findSeating 40 = .ok (.ifCond .eq 108, 3) := by decide +kernel
theorem dX11_findSeating_43 : decode cX11_findSeating 43 = .ok (.aload_n 0, 1) := by decide +kernel
theorem dX11_findSeating_44 : decode cX11_findSeating 44 = .ok (.invokevirtual 306, 3) := by decide +kernel
theorem dX11_findSeating_47 : decode cX11_findSeating 47 = .ok (.ifCond .eq 93, 3) := by decide +kernel
theorem dX11_findSeating_50 : decode cX11_findSeating 50 = .ok (.aload_n 0, 1) := by decide +kernel
theorem dX11_findSeating_51 : decode cX11_findSeating 51 = .ok (.invokevirtual 294, 3) := by decide +kernel
theorem dX11_findSeating_54 : decode cX11_findSeating 54 = .ok (.invokestatic 309, 3) := by decide +kernel
theorem dX11_findSeating_57 : decode cX11_findSeating 57 = .ok (.istore_n 3, 1) := by decide +kernel
theorem dX11_findSeating_58 : decode cX11_findSeating 58 = .ok (.aload_n 0, 1) := by decide +kernel
theorem dX11_findSeating_59 : decode cX11_findSeating 59 = .ok (.getfield 300, 3) := by decide +kernel
theorem dX11_findSeating_62 : decode cX11_findSeating 62 = .ok (.bipush (-4), 2) := by decide +kernel
theorem dX11_findSeating_64 : decode cX11_findSeating 64 = .ok (.if_icmp .eq 11, 3) := by decide +kernel
theorem dX11_findSeating_67 : decode cX11_findSeating 67 = .ok (.iload_n 3, 1) := by decide +kernel
theorem dX11_findSeating_68 : decode cX11_findSeating 68 = .ok (.aload_n 0, 1) := by decide +kernel
theorem dX11_findSeating_69 : decode cX11_findSeating 69 = .ok (.getfield 300, 3) := by decide +kernel
theorem dX11_findSeating_72 : decode cX11_findSeating 72 = .ok (.if_icmp .ge 43, 3) := by decide +kernel
theorem dX11_findSeating_75 : decode cX11_findSeating 75 = .ok (.aload_n 0, 1) := by decide +kernel
theorem dX11_findSeating_76 : decode cX11_findSeating 76 = .ok (.iload_n 3, 1) := by decide +kernel
theorem dX11_findSeating_77 : decode cX11_findSeating 77 = .ok (.putfield 300, 3) := by decide +kernel
theorem dX11_findSeating_80 : decode cX11_findSeating 80 = .ok (.aload_n 0, 1) := by decide +kernel
theorem dX11_findSeating_81 : decode cX11_findSeating 81 = .ok (.iconst 0, 1) := by decide +kernel
theorem dX11_findSeating_82 : decode cX11_findSeating 82 = .ok (.putfield 303, 3) := by decide +kernel
theorem dX11_findSeating_85 : decode cX11_findSeating 85 = .ok (.iconst 0, 1) := by decide +kernel
theorem dX11_findSeating_86 : decode cX11_findSeating 86 = .ok (.istore 4, 2) := by decide +kernel
theorem dX11_findSeating_88 : decode cX11_findSeating 88 = .ok (.iload 4, 2) := by decide +kernel
theorem dX11_findSeating_90 : decode cX11_findSeating 90 = .ok (.bipush 6, 2) := by decide +kernel
theorem dX11_findSeating_92 : decode cX11_findSeating 92 = .ok (.if_icmp .ge 23, 3) := by decide +kernel
theorem dX11_findSeating_95 : decode cX11_findSeating 95 = .ok (.aload_n 0, 1) := by decide +kernel
theorem dX11_findSeating_96 : decode cX11_findSeating 96 = .ok (.getfield 50, 3) := by decide +kernel
theorem dX11_findSeating_99 : decode cX11_findSeating 99 = .ok (.iload 4, 2) := by decide +kernel
theorem dX11_findSeating_101 : decode cX11_findSeating 101 = .ok (.aload_n 0, 1) := by decide +kernel
theorem dX11_findSeating_102 : decode cX11_findSeating 102 = .ok (.getfield 47, 3) := by decide +kernel
theorem dX11_findSeating_105 : decode cX11_findSeating 105 = .ok (.iload 4, 2) := by decide +kernel
theorem dX11_findSeating_107 : decode cX11_findSeating 107 = .ok (.iaload, 1) := by decide +kernel
theorem dX11_findSeating_108 : decode cX11_findSeating 108 = .ok (.iastore, 1) := by decide +kernel
theorem dX11_findSeating_109 : decode cX11_findSeating 109 = .ok (.iinc 4 1, 3) := by decide +kernel
theorem dX11_findSeating_112 : decode cX11_findSeating 112 = .ok (.goto (-24), 3) := by decide +kernel
theorem dX11_findSeating_115 : decode cX11_findSeating 115 = .ok (.aload_n 0, 1) := by decide +kernel
theorem dX11_findSeating_116 : decode cX11_findSeating 116 = .ok (.dup, 1) := by decide +kernel
theorem dX11_findSeating_117 : decode cX11_findSeating 117 = .ok (.getfield 303, 3) := by decide +kernel
theorem dX11_findSeating_120 : decode cX11_findSeating 120 = .ok (.iload_n 3, 1) := by decide +kernel
theorem dX11_findSeating_121 : decode cX11_findSeating 121 = .ok (.aload_n 0, 1) := by decide +kernel
theorem dX11_findSeating_122 : decode cX11_findSeating 122 = .ok (.getfield 300, 3) := by decide +kernel
theorem dX11_findSeating_125 : decode cX11_findSeating 125 = .ok (.if_icmp .ne 7, 3) := by decide +kernel
theorem dX11_findSeating_128 : decode cX11_findSeating 128 = .ok (.iconst 1, 1) := by decide +kernel
theorem dX11_findSeating_129 : decode cX11_findSeating 129 = .ok (.goto 4, 3) := by decide +kernel
theorem dX11_findSeating_132 : decode cX11_findSeating 132 = .ok (.iconst 0, 1) := by decide +kernel
theorem dX11_findSeating_133 : decode cX11_findSeating 133 = .ok (.invokestatic 195, 3) := by decide +kernel
theorem dX11_findSeating_136 : decode cX11_findSeating 136 = .ok (.iadd, 1) := by decide +kernel
theorem dX11_findSeating_137 : decode cX11_findSeating 137 = .ok (.putfield 303, 3) := by decide +kernel
theorem dX11_findSeating_140 : decode cX11_findSeating 140 = .ok (.aload_n 0, 1) := by decide +kernel
theorem dX11_findSeating_141 : decode cX11_findSeating 141 = .ok (.invokevirtual 312, 3) := by decide +kernel
theorem dX11_findSeating_144 : decode cX11_findSeating 144 = .ok (.istore_n 2, 1) := by decide +kernel
theorem dX11_findSeating_145 : decode cX11_findSeating 145 = .ok (.goto (-106), 3) := by decide +kernel
theorem dX11_findSeating_148 : decode cX11_findSeating 148 = .ok (.return_, 1) := by decide +kernel
theorem dX11_seating_0 : decode cX11_seating 0 = .ok (.iload_n 1, 1) := by decide +kernel
theorem dX11_seating_1 : decode cX11_seating 1 = .ok (.invokestatic 231, 3) := by decide +kernel
theorem dX11_seating_4 : decode cX11_seating 4 = .ok (.ifCond .eq 24, 3) := by decide +kernel
theorem dX11_seating_7 : decode cX11_seating 7 = .ok (.iload_n 2, 1) := by decide +kernel
theorem dX11_seating_8 : decode cX11_seating 8 = .ok (.i2l, 1) := by decide +kernel
theorem dX11_seating_9 : decode cX11_seating 9 = .ok (.lconst 0, 1) := by decide +kernel
theorem dX11_seating_10 : decode cX11_seating 10 = .ok (.lconst 1, 1) := by decide +kernel
theorem dX11_seating_11 : decode cX11_seating 11 = .ok (.invokestatic 120, 3) := by decide +kernel
theorem dX11_seating_14 : decode cX11_seating 14 = .ok (.ifCond .ne 16, 3) := by decide +kernel
theorem dX11_seating_17 : decode cX11_seating 17 = .ok (.aload_n 0, 1) := by decide +kernel
theorem dX11_seating_18 : decode cX11_seating 18 = .ok (.iload_n 2, 1) := by decide +kernel
theorem dX11_seating_19 : decode cX11_seating 19 = .ok (.bipush 10, 2) := by decide +kernel
theorem dX11_seating_21 : decode cX11_seating 21 = .ok (.isub, 1) := by decide +kernel
theorem dX11_seating_22 : decode cX11_seating 22 = .ok (.invokevirtual 248, 3) := by decide +kernel
theorem dX11_seating_25 : decode cX11_seating 25 = .ok (.ifCond .ne 5, 3) := by decide +kernel
theorem dX11_seating_28 : decode cX11_seating 28 = .ok (.iconst (-1), 1) := by decide +kernel
theorem dX11_seating_29 : decode cX11_seating 29 = .ok (.ireturn, 1) := by decide +kernel
theorem dX11_seating_30 : decode cX11_seating 30 = .ok (.aload_n 0, 1) := by decide +kernel
theorem dX11_seating_31 : decode cX11_seating 31 = .ok (.iload_n 1, 1) := by decide +kernel
theorem dX11_seating_32 : decode cX11_seating 32 = .ok (.invokevirtual 315, 3) := by decide +kernel
theorem dX11_seating_35 : decode cX11_seating 35 = .ok (.iload_n 2, 1) := by decide +kernel
theorem dX11_seating_36 : decode cX11_seating 36 = .ok (.ifCond .ne 10, 3) := by decide +kernel
theorem dX11_seating_39 : decode cX11_seating 39 = .ok (.aload_n 0, 1) := by decide +kernel
theorem dX11_seating_40 : decode cX11_seating 40 = .ok (.getfield 300, 3) := by decide +kernel
theorem dX11_seating_43 : decode cX11_seating 43 = .ok (.goto 24, 3) := by decide +kernel
theorem dX11_seating_46 : decode cX11_seating 46 = .ok (.iload_n 2, 1) := by decide +kernel
theorem dX11_seating_47 : decode cX11_seating 47 = .ok (.iconst 1, 1) := by decide +kernel
theorem dX11_seating_48 : decode cX11_seating 48 = .ok (.if_icmp .ne 10, 3) := by decide +kernel
theorem dX11_seating_51 : decode cX11_seating 51 = .ok (.aload_n 0, 1) := by decide +kernel
theorem dX11_seating_52 : decode cX11_seating 52 = .ok (.getfield 303, 3) := by decide +kernel
theorem dX11_seating_55 : decode cX11_seating 55 = .ok (.goto 12, 3) := by decide +kernel
theorem dX11_seating_58 : decode cX11_seating 58 = .ok (.aload_n 0, 1) := by decide +kernel
theorem dX11_seating_59 : decode cX11_seating 59 = .ok (.getfield 50, 3) := by decide +kernel
theorem dX11_seating_62 : decode cX11_seating 62 = .ok (.iload_n 2, 1) := by decide +kernel
theorem dX11_seating_63 : decode cX11_seating 63 = .ok (.bipush 10, 2) := by decide +kernel
theorem dX11_seating_65 : decode cX11_seating 65 = .ok (.isub, 1) := by decide +kernel
theorem dX11_seating_66 : decode cX11_seating 66 = .ok (.iaload, 1) := by decide +kernel
theorem dX11_seating_67 : decode cX11_seating 67 = .ok (.ireturn, 1) := by decide +kernel
theorem dX11_hasBench_0 : decode cX11_hasBench 0 = .ok (.iconst 0, 1) := by decide +kernel
theorem dX11_hasBench_1 : decode cX11_hasBench 1 = .ok (.istore_n 3, 1) := by decide +kernel
theorem dX11_hasBench_2 : decode cX11_hasBench 2 = .ok (.iconst 0, 1) := by decide +kernel
theorem dX11_hasBench_3 : decode cX11_hasBench 3 = .ok (.istore 4, 2) := by decide +kernel
theorem dX11_hasBench_5 : decode cX11_hasBench 5 = .ok (.iload 4, 2) := by decide +kernel
theorem dX11_hasBench_7 : decode cX11_hasBench 7 = .ok (.aload_n 0, 1) := by decide +kernel
theorem dX11_hasBench_8 : decode cX11_hasBench 8 = .ok (.getfield 102, 3) := by decide +kernel
theorem dX11_hasBench_11 : decode cX11_hasBench 11 = .ok (.if_icmp .ge 30, 3) := by decide +kernel
theorem dX11_hasBench_14 : decode cX11_hasBench 14 = .ok (.iload_n 3, 1) := by decide +kernel
theorem dX11_hasBench_15 : decode cX11_hasBench 15 = .ok (.ifCond .ne 14, 3) := by decide +kernel
theorem dX11_hasBench_18 : decode cX11_hasBench 18 = .ok (.aload_n 0, 1) := by decide +kernel
theorem dX11_hasBench_19 : decode cX11_hasBench 19 = .ok (.iload 4, 2) := by decide +kernel
theorem dX11_hasBench_21 : decode cX11_hasBench 21 = .ok (.iload_n 2, 1) := by decide +kernel
theorem dX11_hasBench_22 : decode cX11_hasBench 22 = .ok (.invokevirtual 234, 3) := by decide +kernel
theorem dX11_hasBench_25 : decode cX11_hasBench 25 = .ok (.iload_n 1, 1) := by decide +kernel
theorem dX11_hasBench_26 : decode cX11_hasBench 26 = .ok (.if_icmp .ne 7, 3) := by decide +kernel
theorem dX11_hasBench_29 : decode cX11_hasBench 29 = .ok (.iconst 1, 1) := by decide +kernel
theorem dX11_hasBench_30 : decode cX11_hasBench 30 = .ok (.goto 4, 3) := by decide +kernel
theorem dX11_hasBench_33 : decode cX11_hasBench 33 = .ok (.iconst 0, 1) := by decide +kernel
theorem dX11_hasBench_34 : decode cX11_hasBench 34 = .ok (.istore_n 3, 1) := by decide +kernel
theorem dX11_hasBench_35 : decode cX11_hasBench 35 = .ok (.iinc 4 1, 3) := by decide +kernel
theorem dX11_hasBench_38 : decode cX11_hasBench 38 = .ok (.goto (-33), 3) := by decide +kernel
theorem dX11_hasBench_41 : decode cX11_hasBench 41 = .ok (.iload_n 3, 1) := by decide +kernel
theorem dX11_hasBench_42 : decode cX11_hasBench 42 = .ok (.ireturn, 1) := by decide +kernel
theorem dX11_findBetter_0 : decode cX11_findBetter 0 = .ok (.aload_n 0, 1) := by decide +kernel
theorem dX11_findBetter_1 : decode cX11_findBetter 1 = .ok (.aload_n 0, 1) := by decide +kernel
theorem dX11_findBetter_2 : decode cX11_findBetter 2 = .ok (.iload_n 1, 1) := by decide +kernel
theorem dX11_findBetter_3 : decode cX11_findBetter 3 = .ok (.invokevirtual 297, 3) := by decide +kernel
theorem dX11_findBetter_6 : decode cX11_findBetter 6 = .ok (.invokestatic 309, 3) := by decide +kernel
theorem dX11_findBetter_9 : decode cX11_findBetter 9 = .ok (.putfield 318, 3) := by decide +kernel
theorem dX11_findBetter_12 : decode cX11_findBetter 12 = .ok (.aload_n 0, 1) := by decide +kernel
theorem dX11_findBetter_13 : decode cX11_findBetter 13 = .ok (.bipush (-4), 2) := by decide +kernel
theorem dX11_findBetter_15 : decode cX11_findBetter 15 = .ok (.putfield 321, 3) := by decide +kernel
theorem dX11_findBetter_18 : decode cX11_findBetter 18 = .ok (.iconst 0, 1) := by decide +kernel
theorem dX11_findBetter_19 : decode cX11_findBetter 19 = .ok (.istore_n 3, 1) := by decide +kernel
theorem dX11_findBetter_20 : decode cX11_findBetter 20 = .ok (.iload_n 3, 1) := by decide +kernel
theorem dX11_findBetter_21 : decode cX11_findBetter 21 = .ok (.bipush 81, 2) := by decide +kernel
theorem dX11_findBetter_23 : decode cX11_findBetter 23 = .ok (.if_icmp .ge 135, 3) := by decide +kernel
theorem dX11_findBetter_26 : decode cX11_findBetter 26 = .ok (.aload_n 0, 1) := by decide +kernel
theorem dX11_findBetter_27 : decode cX11_findBetter 27 = .ok (.iload_n 3, 1) := by decide +kernel
theorem dX11_findBetter_28 : decode cX11_findBetter 28 = .ok (.invokevirtual 219, 3) := by decide +kernel
theorem dX11_findBetter_31 : decode cX11_findBetter 31 = .ok (.ifCond .eq 121, 3) := by decide +kernel
theorem dX11_findBetter_34 : decode cX11_findBetter 34 = .ok (.iload_n 2, 1) := by decide +kernel
theorem dX11_findBetter_35 : decode cX11_findBetter 35 = .ok (.ifCond .eq 24, 3) := by decide +kernel
theorem dX11_findBetter_38 : decode cX11_findBetter 38 = .ok (.aload_n 0, 1) := by decide +kernel
theorem dX11_findBetter_39 : decode cX11_findBetter 39 = .ok (.getfield 7, 3) := by decide +kernel
theorem dX11_findBetter_42 : decode cX11_findBetter 42 = .ok (.iload_n 3, 1) := by decide +kernel
theorem dX11_findBetter_43 : decode cX11_findBetter 43 = .ok (.iaload, 1) := by decide +kernel
theorem dX11_findBetter_44 : decode cX11_findBetter 44 = .ok (.ifCond .ne 108, 3) := by decide +kernel
theorem dX11_findBetter_47 : decode cX11_findBetter 47 = .ok (.aload_n 0, 1) := by decide +kernel
theorem dX11_findBetter_48 : decode cX11_findBetter 48 = .ok (.iload_n 3, 1) := by decide +kernel
theorem dX11_findBetter_49 : decode cX11_findBetter 49 = .ok (.iload_n 1, 1) := by decide +kernel
theorem dX11_findBetter_50 : decode cX11_findBetter 50 = .ok (.invokevirtual 324, 3) := by decide +kernel
theorem dX11_findBetter_53 : decode cX11_findBetter 53 = .ok (.ifCond .ne 99, 3) := by decide +kernel
theorem dX11_findBetter_56 : decode cX11_findBetter 56 = .ok (.goto 12, 3) := by decide +kernel
theorem dX11_findBetter_59 : decode cX11_findBetter 59 = .ok (.aload_n 0, 1) := by decide +kernel
theorem dX11_findBetter_60 : decode cX11_findBetter 60 = .ok (.getfield 7, 3) := by decide +kernel
theorem dX11_findBetter_63 : decode cX11_findBetter 63 = .ok (.iload_n 3, 1) := by decide +kernel
theorem dX11_findBetter_64 : decode cX11_findBetter 64 = .ok (.iaload, 1) := by decide +kernel
theorem dX11_findBetter_65 : decode cX11_findBetter 65 = .ok (.ifCond .le 87, 3) := by decide +kernel
theorem dX11_findBetter_68 : decode cX11_findBetter 68 = .ok (.aload_n 0, 1) := by decide +kernel
theorem dX11_findBetter_69 : decode cX11_findBetter 69 = .ok (.getfield 7, 3) := by decide +kernel
theorem dX11_findBetter_72 : decode cX11_findBetter 72 = .ok (.iload_n 3, 1) := by decide +kernel
theorem dX11_findBetter_73 : decode cX11_findBetter 73 = .ok (.iaload, 1) := by decide +kernel
theorem dX11_findBetter_74 : decode cX11_findBetter 74 = .ok (.istore 4, 2) := by decide +kernel
theorem dX11_findBetter_76 : decode cX11_findBetter 76 = .ok (.aload_n 0, 1) := by decide +kernel
theorem dX11_findBetter_77 : decode cX11_findBetter 77 = .ok (.getfield 7, 3) := by decide +kernel
theorem dX11_findBetter_80 : decode cX11_findBetter 80 = .ok (.iload_n 3, 1) := by decide +kernel
theorem dX11_findBetter_81 : decode cX11_findBetter 81 = .ok (.iload_n 2, 1) := by decide +kernel
theorem dX11_findBetter_82 : decode cX11_findBetter 82 = .ok (.ifCond .eq 7, 3) := by decide +kernel
theorem dX11_findBetter_85 : decode cX11_findBetter 85 = .ok (.iconst 2, 1) := by decide +kernel
theorem dX11_findBetter_86 : decode cX11_findBetter 86 = .ok (.goto 4, 3) := by decide +kernel
theorem dX11_findBetter_89 : decode cX11_findBetter 89 = .ok (.iconst 0, 1) := by decide +kernel
theorem dX11_findBetter_90 : decode cX11_findBetter 90 = .ok (.iastore, 1) := by decide +kernel
theorem dX11_findBetter_91 : decode cX11_findBetter 91 = .ok (.aload_n 0, 1) := by decide +kernel
theorem dX11_findBetter_92 : decode cX11_findBetter 92 = .ok (.iload_n 1, 1) := by decide +kernel
theorem dX11_findBetter_93 : decode cX11_findBetter 93 = .ok (.invokevirtual 297, 3) := by decide +kernel
theorem dX11_findBetter_96 : decode cX11_findBetter 96 = .ok (.invokestatic 309, 3) := by decide +kernel
theorem dX11_findBetter_99 : decode cX11_findBetter 99 = .ok (.istore 5, 2) := by decide +kernel
theorem dX11_findBetter_101 : decode cX11_findBetter 101 = .ok (.aload_n 0, 1) := by decide +kernel
theorem dX11_findBetter_102 : decode cX11_findBetter 102 = .ok (.getfield 7, 3) := by decide +kernel
theorem dX11_findBetter_105 : decode cX11_findBetter 105 = .ok (.iload_n 3, 1) := by decide +kernel
theorem dX11_findBetter_106 : decode cX11_findBetter 106 = .ok (.iload 4, 2) := by decide +kernel
theorem dX11_findBetter_108 : decode cX11_findBetter 108 = .ok (.iastore, 1) := by decide +kernel
theorem dX11_findBetter_109 : decode cX11_findBetter 109 = .ok (.aload_n 0, 1) := by decide +kernel
theorem dX11_findBetter_110 : decode cX11_findBetter 110 = .ok (.iload 5, 2) := by decide +kernel
theorem dX11_findBetter_112 : decode cX11_findBetter 112 = .ok (.aload_n 0, 1) := by decide +kernel
theorem dX11_findBetter_113 : decode cX11_findBetter 113 = .ok (.getfield 318, 3) := by decide +kernel
theorem dX11_findBetter_116 : decode cX11_findBetter 116 = .ok (.if_icmp .ge 7, 3) := by decide +kernel
theorem dX11_findBetter_119 : decode cX11_findBetter 119 = .ok (.iload_n 3, 1) := by decide +kernel
theorem dX11_findBetter_120 : decode cX11_findBetter 120 = .ok (.goto 7, 3) := by decide +kernel
theorem dX11_findBetter_123 : decode cX11_findBetter 123 = .ok (.aload_n 0, 1) := by decide +kernel
theorem dX11_findBetter_124 : decode cX11_findBetter 124 = .ok (.getfield 321, 3) := by decide +kernel
theorem dX11_findBetter_127 : decode cX11_findBetter 127 = .ok (.putfield 321, 3) := by decide +kernel
theorem dX11_findBetter_130 : decode cX11_findBetter 130 = .ok (.aload_n 0, 1) := by decide +kernel
theorem dX11_findBetter_131 : decode cX11_findBetter 131 = .ok (.iload 5, 2) := by decide +kernel
theorem dX11_findBetter_133 : decode cX11_findBetter 133 = .ok (.aload_n 0, 1) := by decide +kernel
theorem dX11_findBetter_134 : decode cX11_findBetter 134 = .ok (.getfield 318, 3) := by decide +kernel
theorem dX11_findBetter_137 : decode cX11_findBetter 137 = .ok (.if_icmp .ge 8, 3) := by decide +kernel
theorem dX11_findBetter_140 : decode cX11_findBetter 140 = .ok (.iload 5, 2) := by decide +kernel
theorem dX11_findBetter_142 : decode cX11_findBetter 142 = .ok (.goto 7, 3) := by decide +kernel
theorem dX11_findBetter_145 : decode cX11_findBetter 145 = .ok (.aload_n 0, 1) := by decide +kernel
theorem dX11_findBetter_146 : decode cX11_findBetter 146 = .ok (.getfield 318, 3) := by decide +kernel
theorem dX11_findBetter_149 : decode cX11_findBetter 149 = .ok (.putfield 318, 3) := by decide +kernel
theorem dX11_findBetter_152 : decode cX11_findBetter 152 = .ok (.iinc 3 1, 3) := by decide +kernel
theorem dX11_findBetter_155 : decode cX11_findBetter 155 = .ok (.goto (-135), 3) := by decide +kernel
theorem dX11_findBetter_158 : decode cX11_findBetter 158 = .ok (.return_, 1) := by decide +kernel
theorem dX11_curtain_0 : decode cX11_curtain 0 = .ok (.iload_n 1, 1) := by decide +kernel
theorem dX11_curtain_1 : decode cX11_curtain 1 = .ok (.invokestatic 231, 3) := by decide +kernel
theorem dX11_curtain_4 : decode cX11_curtain 4 = .ok (.ifCond .eq 13, 3) := by decide +kernel
theorem dX11_curtain_7 : decode cX11_curtain 7 = .ok (.iload_n 2, 1) := by decide +kernel
theorem dX11_curtain_8 : decode cX11_curtain 8 = .ok (.i2l, 1) := by decide +kernel
theorem dX11_curtain_9 : decode cX11_curtain 9 = .ok (.lconst 0, 1) := by decide +kernel
theorem dX11_curtain_10 : decode cX11_curtain 10 = .ok (.lconst 1, 1) := by decide +kernel
theorem dX11_curtain_11 : decode cX11_curtain 11 = .ok (.invokestatic 120, 3) := by decide +kernel
theorem dX11_curtain_14 : decode cX11_curtain 14 = .ok (.ifCond .ne 5, 3) := by decide +kernel
theorem dX11_curtain_17 : decode cX11_curtain 17 = .ok (.iconst (-1), 1) := by decide +kernel
theorem dX11_curtain_18 : decode cX11_curtain 18 = .ok (.ireturn, 1) := by decide +kernel
theorem dX11_curtain_19 : decode cX11_curtain 19 = .ok (.aload_n 0, 1) := by decide +kernel
theorem dX11_curtain_20 : decode cX11_curtain 20 = .ok (.iload_n 1, 1) := by decide +kernel
theorem dX11_curtain_21 : decode cX11_curtain 21 = .ok (.iconst 1, 1) := by decide +kernel
theorem dX11_curtain_22 : decode cX11_curtain 22 = .ok (.invokevirtual 328, 3) := by decide +kernel
theorem dX11_curtain_25 : decode cX11_curtain 25 = .ok (.aload_n 0, 1) := by decide +kernel
theorem dX11_curtain_26 : decode cX11_curtain 26 = .ok (.getfield 321, 3) := by decide +kernel
theorem dX11_curtain_29 : decode cX11_curtain 29 = .ok (.bipush (-4), 2) := by decide +kernel
theorem dX11_curtain_31 : decode cX11_curtain 31 = .ok (.if_icmp .ne 8, 3) := by decide +kernel
theorem dX11_curtain_34 : decode cX11_curtain 34 = .ok (.bipush (-4), 2) := by decide +kernel
theorem dX11_curtain_36 : decode cX11_curtain 36 = .ok (.goto 18, 3) := by decide +kernel
theorem dX11_curtain_39 : decode cX11_curtain 39 = .ok (.iload_n 2, 1) := by decide +kernel
theorem dX11_curtain_40 : decode cX11_curtain 40 = .ok (.ifCond .ne 10, 3) := by decide +kernel
theorem dX11_curtain_43 : decode cX11_curtain 43 = .ok (.aload_n 0, 1) := by decide +kernel
theorem dX11_curtain_44 : decode cX11_curtain 44 = .ok (.getfield 321, 3) := by decide +kernel
theorem dX11_curtain_47 : decode cX11_curtain 47 = .ok (.goto 7, 3) := by decide +kernel
theorem dX11_curtain_50 : decode cX11_curtain 50 = .ok (.aload_n 0, 1) := by decide +kernel
theorem dX11_curtain_51 : decode cX11_curtain 51 = .ok (.getfield 318, 3) := by decide +kernel
theorem dX11_curtain_54 : decode cX11_curtain 54 = .ok (.ireturn, 1) := by decide +kernel
theorem dX11_clear_0 : decode cX11_clear 0 = .ok (.iload_n 1, 1) := by decide +kernel
theorem dX11_clear_1 : decode cX11_clear 1 = .ok (.invokestatic 231, 3) := by decide +kernel
theorem dX11_clear_4 : decode cX11_clear 4 = .ok (.ifCond .eq 13, 3) := by decide +kernel
theorem dX11_clear_7 : decode cX11_clear 7 = .ok (.iload_n 2, 1) := by decide +kernel
theorem dX11_clear_8 : decode cX11_clear 8 = .ok (.i2l, 1) := by decide +kernel
theorem dX11_clear_9 : decode cX11_clear 9 = .ok (.lconst 0, 1) := by decide +kernel
theorem dX11_clear_10 : decode cX11_clear 10 = .ok (.lconst 1, 1) := by decide +kernel
theorem dX11_clear_11 : decode cX11_clear 11 = .ok (.invokestatic 120, 3) := by decide +kernel
theorem dX11_clear_14 : decode cX11_clear 14 = .ok (.ifCond .ne 5, 3) := by decide +kernel
theorem dX11_clear_17 : decode cX11_clear 17 = .ok (.iconst (-1), 1) := by decide +kernel
theorem dX11_clear_18 : decode cX11_clear 18 = .ok (.ireturn, 1) := by decide +kernel
theorem dX11_clear_19 : decode cX11_clear 19 = .ok (.aload_n 0, 1) := by decide +kernel
theorem dX11_clear_20 : decode cX11_clear 20 = .ok (.iload_n 1, 1) := by decide +kernel
theorem dX11_clear_21 : decode cX11_clear 21 = .ok (.iconst 0, 1) := by decide +kernel
theorem dX11_clear_22 : decode cX11_clear 22 = .ok (.invokevirtual 328, 3) := by decide +kernel
theorem dX11_clear_25 : decode cX11_clear 25 = .ok (.aload_n 0, 1) := by decide +kernel
theorem dX11_clear_26 : decode cX11_clear 26 = .ok (.getfield 321, 3) := by decide +kernel
theorem dX11_clear_29 : decode cX11_clear 29 = .ok (.bipush (-4), 2) := by decide +kernel
theorem dX11_clear_31 : decode cX11_clear 31 = .ok (.if_icmp .ne 8, 3) := by decide +kernel
theorem dX11_clear_34 : decode cX11_clear 34 = .ok (.bipush (-4), 2) := by decide +kernel
theorem dX11_clear_36 : decode cX11_clear 36 = .ok (.goto 18, 3) := by decide +kernel
theorem dX11_clear_39 : decode cX11_clear 39 = .ok (.iload_n 2, 1) := by decide +kernel
theorem dX11_clear_40 : decode cX11_clear 40 = .ok (.ifCond .ne 10, 3) := by decide +kernel
theorem dX11_clear_43 : decode cX11_clear 43 = .ok (.aload_n 0, 1) := by decide +kernel
theorem dX11_clear_44 : decode cX11_clear 44 = .ok (.getfield 321, 3) := by decide +kernel
theorem dX11_clear_47 : decode cX11_clear 47 = .ok (.goto 7, 3) := by decide +kernel
theorem dX11_clear_50 : decode cX11_clear 50 = .ok (.aload_n 0, 1) := by decide +kernel
theorem dX11_clear_51 : decode cX11_clear 51 = .ok (.getfield 318, 3) := by decide +kernel
theorem dX11_clear_54 : decode cX11_clear 54 = .ok (.ireturn, 1) := by decide +kernel
theorem dX11_hours_0 : decode cX11_hours 0 = .ok (.iconst 0, 1) := by decide +kernel
theorem dX11_hours_1 : decode cX11_hours 1 = .ok (.istore_n 1, 1) := by decide +kernel
theorem dX11_hours_2 : decode cX11_hours 2 = .ok (.iconst 0, 1) := by decide +kernel
theorem dX11_hours_3 : decode cX11_hours 3 = .ok (.istore_n 2, 1) := by decide +kernel
theorem dX11_hours_4 : decode cX11_hours 4 = .ok (.iload_n 2, 1) := by decide +kernel
theorem dX11_hours_5 : decode cX11_hours 5 = .ok (.bipush 12, 2) := by decide +kernel
theorem dX11_hours_7 : decode cX11_hours 7 = .ok (.if_icmp .ge 30, 3) := by decide +kernel
theorem dX11_hours_10 : decode cX11_hours 10 = .ok (.iload_n 1, 1) := by decide +kernel
theorem dX11_hours_11 : decode cX11_hours 11 = .ok (.aload_n 0, 1) := by decide +kernel
theorem dX11_hours_12 : decode cX11_hours 12 = .ok (.iload_n 2, 1) := by decide +kernel
theorem dX11_hours_13 : decode cX11_hours 13 = .ok (.invokevirtual 297, 3) := by decide +kernel
theorem dX11_hours_16 : decode cX11_hours 16 = .ok (.ifCond .ne 7, 3) := by decide +kernel
theorem dX11_hours_19 : decode cX11_hours 19 = .ok (.iconst 1, 1) := by decide +kernel
theorem dX11_hours_20 : decode cX11_hours 20 = .ok (.goto 4, 3) := by decide +kernel
theorem dX11_hours_23 : decode cX11_hours 23 = .ok (.iconst 0, 1) := by decide +kernel
theorem dX11_hours_24 : decode cX11_hours 24 = .ok (.invokestatic 195, 3) := by decide +kernel
theorem dX11_hours_27 : decode cX11_hours 27 = .ok (.iload_n 2, 1) := by decide +kernel
theorem dX11_hours_28 : decode cX11_hours 28 = .ok (.ishl, 1) := by decide +kernel
theorem dX11_hours_29 : decode cX11_hours 29 = .ok (.ior, 1) := by decide +kernel
theorem dX11_hours_30 : decode cX11_hours 30 = .ok (.istore_n 1, 1) := by decide +kernel
theorem dX11_hours_31 : decode cX11_hours 31 = .ok (.iinc 2 1, 3) := by decide +kernel
theorem dX11_hours_34 : decode cX11_hours 34 = .ok (.goto (-30), 3) := by decide +kernel
theorem dX11_hours_37 : decode cX11_hours 37 = .ok (.iload_n 1, 1) := by decide +kernel
theorem dX11_hours_38 : decode cX11_hours 38 = .ok (.ireturn, 1) := by decide +kernel
theorem dX11_days_0 : decode cX11_days 0 = .ok (.iload_n 1, 1) := by decide +kernel
theorem dX11_days_1 : decode cX11_days 1 = .ok (.invokestatic 231, 3) := by decide +kernel
theorem dX11_days_4 : decode cX11_days 4 = .ok (.ifCond .eq 27, 3) := by decide +kernel
theorem dX11_days_7 : decode cX11_days 7 = .ok (.iload_n 2, 1) := by decide +kernel
theorem dX11_days_8 : decode cX11_days 8 = .ok (.i2l, 1) := by decide +kernel
theorem dX11_days_9 : decode cX11_days 9 = .ok (.lconst 0, 1) := by decide +kernel
theorem dX11_days_10 : decode cX11_days 10 = .ok (.ldc2_w 246, 3) := by decide +kernel
theorem dX11_days_13 : decode cX11_days 13 = .ok (.invokestatic 120, 3) := by decide +kernel
theorem dX11_days_16 : decode cX11_days 16 = .ok (.ifCond .eq 15, 3) := by decide +kernel
theorem dX11_days_19 : decode cX11_days 19 = .ok (.iload_n 3, 1) := by decide +kernel
theorem dX11_days_20 : decode cX11_days 20 = .ok (.i2l, 1) := by decide +kernel
theorem dX11_days_21 : decode cX11_days 21 = .ok (.lconst 0, 1) := by decide +kernel
theorem dX11_days_22 : decode cX11_days 22 = .ok (.ldc2_w 226, 3) := by decide +kernel
theorem dX11_days_25 : decode cX11_days 25 = .ok (.invokestatic 120, 3) := by decide +kernel
theorem dX11_days_28 : decode cX11_days 28 = .ok (.ifCond .ne 5, 3) := by decide +kernel
theorem dX11_days_31 : decode cX11_days 31 = .ok (.iconst (-1), 1) := by decide +kernel
theorem dX11_days_32 : decode cX11_days 32 = .ok (.ireturn, 1) := by decide +kernel
theorem dX11_days_33 : decode cX11_days 33 = .ok (.aload_n 0, 1) := by decide +kernel
theorem dX11_days_34 : decode cX11_days 34 = .ok (.getfield 7, 3) := by decide +kernel
theorem dX11_days_37 : decode cX11_days 37 = .ok (.bipush 81, 2) := by decide +kernel
theorem dX11_days_39 : decode cX11_days 39 = .ok (.iaload, 1) := by decide +kernel
theorem dX11_days_40 : decode cX11_days 40 = .ok (.istore 4, 2) := by decide +kernel
theorem dX11_days_42 : decode cX11_days 42 = .ok (.iconst 0, 1) := by decide +kernel
theorem dX11_days_43 : decode cX11_days 43 = .ok (.istore 5, 2) := by decide +kernel
theorem dX11_days_45 : decode cX11_days 45 = .ok (.iconst 0, 1) := by decide +kernel
theorem dX11_days_46 : decode cX11_days 46 = .ok (.istore 6, 2) := by decide +kernel
theorem dX11_days_48 : decode cX11_days 48 = .ok (.iconst 0, 1) := by decide +kernel
theorem dX11_days_49 : decode cX11_days 49 = .ok (.istore 7, 2) := by decide +kernel
theorem dX11_days_51 : decode cX11_days 51 = .ok (.iconst 0, 1) := by decide +kernel
theorem dX11_days_52 : decode cX11_days 52 = .ok (.istore 8, 2) := by decide +kernel
theorem dX11_days_54 : decode cX11_days 54 = .ok (.iload 8, 2) := by decide +kernel
theorem dX11_days_56 : decode cX11_days 56 = .ok (.aload_n 0, 1) := by decide +kernel
theorem dX11_days_57 : decode cX11_days 57 = .ok (.getfield 102, 3) := by decide +kernel
theorem dX11_days_60 : decode cX11_days 60 = .ok (.if_icmp .ge 82, 3) := by decide +kernel
theorem dX11_days_63 : decode cX11_days 63 = .ok (.aload_n 0, 1) := by decide +kernel
theorem dX11_days_64 : decode cX11_days 64 = .ok (.iload 8, 2) := by decide +kernel
theorem dX11_days_66 : decode cX11_days 66 = .ok (.iload_n 1, 1) := by decide +kernel
theorem dX11_days_67 : decode cX11_days 67 = .ok (.invokevirtual 285, 3) := by decide +kernel
theorem dX11_days_70 : decode cX11_days 70 = .ok (.istore 9, 2) := by decide +kernel
theorem dX11_days_72 : decode cX11_days 72 = .ok (.aload_n 0, 1) := by decide +kernel
theorem dX11_days_73 : decode cX11_days 73 = .ok (.getfield 7, 3) := by decide +kernel
theorem dX11_days_76 : decode cX11_days 76 = .ok (.bipush 81, 2) := by decide +kernel
theorem dX11_days_78 : decode cX11_days 78 = .ok (.iload_n 2, 1) := by decide +kernel
theorem dX11_days_79 : decode cX11_days 79 = .ok (.iastore, 1) := by decide +kernel
theorem dX11_days_80 : decode cX11_days 80 = .ok (.aload_n 0, 1) := by decide +kernel
theorem dX11_days_81 : decode cX11_days 81 = .ok (.iload 8, 2) := by decide +kernel
theorem dX11_days_83 : decode cX11_days 83 = .ok (.iload_n 1, 1) := by decide +kernel
theorem dX11_days_84 : decode cX11_days 84 = .ok (.invokevirtual 285, 3) := by decide +kernel
theorem dX11_days_87 : decode cX11_days 87 = .ok (.istore 10, 2) := by decide +kernel
theorem dX11_days_89 : decode cX11_days 89 = .ok (.aload_n 0, 1) := by decide +kernel
theorem dX11_days_90 : decode cX11_days 90 = .ok (.getfield 7, 3) := by decide +kernel
theorem dX11_days_93 : decode cX11_days 93 = .ok (.bipush 81, 2) := by decide +kernel
theorem dX11_days_95 : decode cX11_days 95 = .ok (.iload 4, 2) := by decide +kernel
theorem dX11_days_97 : decode cX11_days 97 = .ok (.iastore, 1) := by decide +kernel
theorem dX11_days_98 : decode cX11_days 98 = .ok (.iload 5, 2) := by decide +kernel
theorem dX11_days_100 : decode cX11_days 100 = .ok (.iload 9, 2) := by decide +kernel
theorem dX11_days_102 : decode cX11_days 102 = .ok (.invokestatic 309, 3) := by decide +kernel
theorem dX11_days_105 : decode cX11_days 105 = .ok (.iadd, 1) := by decide +kernel
theorem dX11_days_106 : decode cX11_days 106 = .ok (.istore 5, 2) := by decide +kernel
theorem dX11_days_108 : decode cX11_days 108 = .ok (.iload 6, 2) := by decide +kernel
theorem dX11_days_110 : decode cX11_days 110 = .ok (.iload 9, 2) := by decide +kernel
theorem dX11_days_112 : decode cX11_days 112 = .ok (.iload 10, 2) := by decide +kernel
theorem dX11_days_114 : decode cX11_days 114 = .ok (.iand, 1) := by decide +kernel
theorem dX11_days_115 : decode cX11_days 115 = .ok (.invokestatic 309, 3) := by decide +kernel
theorem dX11_days_118 : decode cX11_days 118 = .ok (.iadd, 1) := by decide +kernel
theorem dX11_days_119 : decode cX11_days 119 = .ok (.istore 6, 2) := by decide +kernel
theorem dX11_days_121 : decode cX11_days 121 = .ok (.iload 7, 2) := by decide +kernel
theorem dX11_days_123 : decode cX11_days 123 = .ok (.iload 10, 2) := by decide +kernel
theorem dX11_days_125 : decode cX11_days 125 = .ok (.iload 9, 2) := by decide +kernel
theorem dX11_days_127 : decode cX11_days 127 = .ok (.iconst (-1), 1) := by decide +kernel
theorem dX11_days_128 : decode cX11_days 128 = .ok (.ixor, 1) := by decide +kernel
theorem dX11_days_129 : decode cX11_days 129 = .ok (.iand, 1) := by decide +kernel
theorem dX11_days_130 : decode cX11_days 130 = .ok (.invokestatic 309, 3) := by decide +kernel
theorem dX11_days_133 : decode cX11_days 133 = .ok (.iadd, 1) := by decide +kernel
theorem dX11_days_134 : decode cX11_days 134 = .ok (.istore 7, 2) := by decide +kernel
theorem dX11_days_136 : decode cX11_days 136 = .ok (.iinc 8 1, 3) := by decide +kernel
theorem dX11_days_139 : decode cX11_days 139 = .ok (.goto (-85), 3) := by decide +kernel
theorem dX11_days_142 : decode cX11_days 142 = .ok (.iload_n 3, 1) := by decide +kernel
theorem dX11_days_143 : decode cX11_days 143 = .ok (.ifCond .ne 8, 3) := by decide +kernel
theorem dX11_days_146 : decode cX11_days 146 = .ok (.iload 5, 2) := by decide +kernel
theorem dX11_days_148 : decode cX11_days 148 = .ok (.goto 15, 3) := by decide +kernel
theorem dX11_days_151 : decode cX11_days 151 = .ok (.iload_n 3, 1) := by decide +kernel
theorem dX11_days_152 : decode cX11_days 152 = .ok (.iconst 1, 1) := by decide +kernel
theorem dX11_days_153 : decode cX11_days 153 = .ok (.if_icmp .ne 8, 3) := by decide +kernel
theorem dX11_days_156 : decode cX11_days 156 = .ok (.iload 6, 2) := by decide +kernel
theorem dX11_days_158 : decode cX11_days 158 = .ok (.goto 5, 3) := by decide +kernel
theorem dX11_days_161 : decode cX11_days 161 = .ok (.iload 7, 2) := by decide +kernel
theorem dX11_days_163 : decode cX11_days 163 = .ok (.ireturn, 1) := by decide +kernel
theorem dX11_best_0 : decode cX11_best 0 = .ok (.iload_n 1, 1) := by decide +kernel
theorem dX11_best_1 : decode cX11_best 1 = .ok (.invokestatic 231, 3) := by decide +kernel
theorem dX11_best_4 : decode cX11_best 4 = .ok (.ifCond .eq 13, 3) := by decide +kernel
theorem dX11_best_7 : decode cX11_best 7 = .ok (.iload_n 2, 1) := by decide +kernel
theorem dX11_best_8 : decode cX11_best 8 = .ok (.i2l, 1) := by decide +kernel
theorem dX11_best_9 : decode cX11_best 9 = .ok (.lconst 0, 1) := by decide +kernel
theorem dX11_best_10 : decode cX11_best 10 = .ok (.lconst 1, 1) := by decide +kernel
theorem dX11_best_11 : decode cX11_best 11 = .ok (.invokestatic 120, 3) := by decide +kernel
theorem dX11_best_14 : decode cX11_best 14 = .ok (.ifCond .ne 5, 3) := by decide +kernel
theorem dX11_best_17 : decode cX11_best 17 = .ok (.iconst (-1), 1) := by decide +kernel
theorem dX11_best_18 : decode cX11_best 18 = .ok (.ireturn, 1) := by decide +kernel
theorem dX11_best_19 : decode cX11_best 19 = .ok (.aload_n 0, 1) := by decide +kernel
theorem dX11_best_20 : decode cX11_best 20 = .ok (.getfield 7, 3) := by decide +kernel
theorem dX11_best_23 : decode cX11_best 23 = .ok (.bipush 81, 2) := by decide +kernel
theorem dX11_best_25 : decode cX11_best 25 = .ok (.iaload, 1) := by decide +kernel
theorem dX11_best_26 : decode cX11_best 26 = .ok (.istore_n 3, 1) := by decide +kernel
theorem dX11_best_27 : decode cX11_best 27 = .ok (.bipush (-4), 2) := by decide +kernel
theorem dX11_best_29 : decode cX11_best 29 = .ok (.istore 4, 2) := by decide +kernel
theorem dX11_best_31 : decode cX11_best 31 = .ok (.iconst 0, 1) := by decide +kernel
theorem dX11_best_32 : decode cX11_best 32 = .ok (.istore 5, 2) := by decide +kernel
theorem dX11_best_34 : decode cX11_best 34 = .ok (.iconst 0, 1) := by decide +kernel
theorem dX11_best_35 : decode cX11_best 35 = .ok (.istore 6, 2) := by decide +kernel
theorem dX11_best_37 : decode cX11_best 37 = .ok (.iload 6, 2) := by decide +kernel
theorem dX11_best_39 : decode cX11_best 39 = .ok (.bipush 10, 2) := by decide +kernel
theorem dX11_best_41 : decode cX11_best 41 = .ok (.if_icmp .ge 77, 3) := by decide +kernel
theorem dX11_best_44 : decode cX11_best 44 = .ok (.aload_n 0, 1) := by decide +kernel
theorem dX11_best_45 : decode cX11_best 45 = .ok (.getfield 7, 3) := by decide +kernel
theorem dX11_best_48 : decode cX11_best 48 = .ok (.bipush 81, 2) := by decide +kernel
theorem dX11_best_50 : decode cX11_best 50 = .ok (.iload 6, 2) := by decide +kernel
theorem dX11_best_52 : decode cX11_best 52 = .ok (.iastore, 1) := by decide +kernel
theorem dX11_best_53 : decode cX11_best 53 = .ok (.aload_n 0, 1) := by decide +kernel
theorem dX11_best_54 : decode cX11_best 54 = .ok (.iload_n 1, 1) := by decide +kernel
theorem dX11_best_55 : decode cX11_best 55 = .ok (.invokevirtual 297, 3) := by decide +kernel
theorem dX11_best_58 : decode cX11_best 58 = .ok (.invokestatic 309, 3) := by decide +kernel
theorem dX11_best_61 : decode cX11_best 61 = .ok (.istore 7, 2) := by decide +kernel
theorem dX11_best_63 : decode cX11_best 63 = .ok (.iload 4, 2) := by decide +kernel
theorem dX11_best_65 : decode cX11_best 65 = .ok (.bipush (-4), 2) := by decide +kernel
theorem dX11_best_67 : decode cX11_best 67 = .ok (.if_icmp .eq 10, 3) := by decide +kernel
theorem dX11_best_70 : decode cX11_best 70 = .ok (.iload 7, 2) := by decide +kernel
theorem dX11_best_72 : decode cX11_best 72 = .ok (.iload 5, 2) := by decide +kernel
theorem dX11_best_74 : decode cX11_best 74 = .ok (.if_icmp .ge 7, 3) := by decide +kernel
theorem dX11_best_77 : decode cX11_best 77 = .ok (.iconst 1, 1) := by decide +kernel
theorem dX11_best_78 : decode cX11_best 78 = .ok (.goto 4, 3) := by decide +kernel
theorem dX11_best_81 : decode cX11_best 81 = .ok (.iconst 0, 1) := by decide +kernel
theorem dX11_best_82 : decode cX11_best 82 = .ok (.istore 8, 2) := by decide +kernel
theorem dX11_best_84 : decode cX11_best 84 = .ok (.iload 8, 2) := by decide +kernel
theorem dX11_best_86 : decode cX11_best 86 = .ok (.ifCond .eq 8, 3) := by decide +kernel
theorem dX11_best_89 : decode cX11_best 89 = .ok (.iload 6, 2) := by decide +kernel
theorem dX11_best_91 : decode cX11_best 91 = .ok (.goto 5, 3) := by decide +kernel
theorem dX11_best_94 : decode cX11_best 94 = .ok (.iload 4, 2) := by decide +kernel
theorem dX11_best_96 : decode cX11_best 96 = .ok (.istore 4, 2) := by decide +kernel
theorem dX11_best_98 : decode cX11_best 98 = .ok (.iload 8, 2) := by decide +kernel
theorem dX11_best_100 : decode cX11_best 100 = .ok (.ifCond .eq 8, 3) := by decide +kernel
theorem dX11_best_103 : decode cX11_best 103 = .ok (.iload 7, 2) := by decide +kernel
theorem dX11_best_105 : decode cX11_best 105 = .ok (.goto 5, 3) := by decide +kernel
theorem dX11_best_108 : decode cX11_best 108 = .ok (.iload 5, 2) := by decide +kernel
theorem dX11_best_110 : decode cX11_best 110 = .ok (.istore 5, 2) := by decide +kernel
theorem dX11_best_112 : decode cX11_best 112 = .ok (.iinc 6 1, 3) := by decide +kernel
theorem dX11_best_115 : decode cX11_best 115 = .ok (.goto (-78), 3) := by decide +kernel
theorem dX11_best_118 : decode cX11_best 118 = .ok (.aload_n 0, 1) := by decide +kernel
theorem dX11_best_119 : decode cX11_best 119 = .ok (.getfield 7, 3) := by decide +kernel
theorem dX11_best_122 : decode cX11_best 122 = .ok (.bipush 81, 2) := by decide +kernel
theorem dX11_best_124 : decode cX11_best 124 = .ok (.iload_n 3, 1) := by decide +kernel
theorem dX11_best_125 : decode cX11_best 125 = .ok (.iastore, 1) := by decide +kernel
theorem dX11_best_126 : decode cX11_best 126 = .ok (.iload_n 2, 1) := by decide +kernel
theorem dX11_best_127 : decode cX11_best 127 = .ok (.ifCond .ne 8, 3) := by decide +kernel
theorem dX11_best_130 : decode cX11_best 130 = .ok (.iload 4, 2) := by decide +kernel
theorem dX11_best_132 : decode cX11_best 132 = .ok (.goto 5, 3) := by decide +kernel
theorem dX11_best_135 : decode cX11_best 135 = .ok (.iload 5, 2) := by decide +kernel
theorem dX11_best_137 : decode cX11_best 137 = .ok (.ireturn, 1) := by decide +kernel
theorem dX11_sayOf_0 : decode cX11_sayOf 0 = .ok (.aload_n 0, 1) := by decide +kernel
theorem dX11_sayOf_1 : decode cX11_sayOf 1 = .ok (.getfield 7, 3) := by decide +kernel
theorem dX11_sayOf_4 : decode cX11_sayOf 4 = .ok (.bipush 89, 2) := by decide +kernel
theorem dX11_sayOf_6 : decode cX11_sayOf 6 = .ok (.iconst 3, 1) := by decide +kernel
theorem dX11_sayOf_7 : decode cX11_sayOf 7 = .ok (.iload_n 1, 1) := by decide +kernel
theorem dX11_sayOf_8 : decode cX11_sayOf 8 = .ok (.imul, 1) := by decide +kernel
theorem dX11_sayOf_9 : decode cX11_sayOf 9 = .ok (.iadd, 1) := by decide +kernel
theorem dX11_sayOf_10 : decode cX11_sayOf 10 = .ok (.iload_n 2, 1) := by decide +kernel
theorem dX11_sayOf_11 : decode cX11_sayOf 11 = .ok (.iadd, 1) := by decide +kernel
theorem dX11_sayOf_12 : decode cX11_sayOf 12 = .ok (.iaload, 1) := by decide +kernel
theorem dX11_sayOf_13 : decode cX11_sayOf 13 = .ok (.ireturn, 1) := by decide +kernel
theorem dX11_isSaid_0 : decode cX11_isSaid 0 = .ok (.aload_n 0, 1) := by decide +kernel
theorem dX11_isSaid_1 : decode cX11_isSaid 1 = .ok (.getfield 53, 3) := by decide +kernel
theorem dX11_isSaid_4 : decode cX11_isSaid 4 = .ok (.aload_n 0, 1) := by decide +kernel
theorem dX11_isSaid_5 : decode cX11_isSaid 5 = .ok (.iload_n 1, 1) := by decide +kernel
theorem dX11_isSaid_6 : decode cX11_isSaid 6 = .ok (.iconst 2, 1) := by decide +kernel
theorem dX11_isSaid_7 : decode cX11_isSaid 7 = .ok (.invokevirtual 332, 3) := by decide +kernel
theorem dX11_isSaid_10 : decode cX11_isSaid 10 = .ok (.iaload, 1) := by decide +kernel
theorem dX11_isSaid_11 : decode cX11_isSaid 11 = .ok (.istore_n 2, 1) := by decide +kernel
theorem dX11_isSaid_12 : decode cX11_isSaid 12 = .ok (.iload_n 2, 1) := by decide +kernel
theorem dX11_isSaid_13 : decode cX11_isSaid 13 = .ok (.ifCond .eq 17, 3) := by decide +kernel
theorem dX11_isSaid_16 : decode cX11_isSaid 16 = .ok (.iload_n 2, 1) := by decide +kernel
theorem dX11_isSaid_17 : decode cX11_isSaid 17 = .ok (.aload_n 0, 1) := by decide +kernel
theorem dX11_isSaid_18 : decode cX11_isSaid 18 = .ok (.iload_n 1, 1) := by decide +kernel
theorem dX11_isSaid_19 : decode cX11_isSaid 19 = .ok (.iconst 1, 1) := by decide +kernel
theorem dX11_isSaid_20 : decode cX11_isSaid 20 = .ok (.invokevirtual 332, 3) := by decide +kernel
theorem dX11_isSaid_23 : decode cX11_isSaid 23 = .ok (.ishr, 1) := by decide +kernel
theorem dX11_isSaid_24 : decode cX11_isSaid 24 = .ok (.iconst 1, 1) := by decide +kernel
theorem dX11_isSaid_25 : decode cX11_isSaid 25 = .ok (.iand, 1) := by decide +kernel
theorem dX11_isSaid_26 : decode cX11_isSaid 26 = .ok (.iconst 1, 1) := by decide +kernel
theorem dX11_isSaid_27 : decode cX11_isSaid 27 = .ok (.if_icmp .ne 7, 3) := by decide +kernel
theorem dX11_isSaid_30 : decode cX11_isSaid 30 = .ok (.iconst 1, 1) := by decide +kernel
theorem dX11_isSaid_31 : decode cX11_isSaid 31 = .ok (.goto 4, 3) := by decide +kernel
theorem dX11_isSaid_34 : decode cX11_isSaid 34 = .ok (.iconst 0, 1) := by decide +kernel
theorem dX11_isSaid_35 : decode cX11_isSaid 35 = .ok (.ireturn, 1) := by decide +kernel
theorem dX11_says_0 : decode cX11_says 0 = .ok (.aload_n 0, 1) := by decide +kernel
theorem dX11_says_1 : decode cX11_says 1 = .ok (.iload_n 1, 1) := by decide +kernel
theorem dX11_says_2 : decode cX11_says 2 = .ok (.iconst 1, 1) := by decide +kernel
theorem dX11_says_3 : decode cX11_says 3 = .ok (.invokevirtual 332, 3) := by decide +kernel
theorem dX11_says_6 : decode cX11_says 6 = .ok (.istore_n 2, 1) := by decide +kernel
theorem dX11_says_7 : decode cX11_says 7 = .ok (.aload_n 0, 1) := by decide +kernel
theorem dX11_says_8 : decode cX11_says 8 = .ok (.aload_n 0, 1) := by decide +kernel
theorem dX11_says_9 : decode cX11_says 9 = .ok (.getfield 7, 3) := by decide +kernel
theorem dX11_says_12 : decode cX11_says 12 = .ok (.bipush 82, 2) := by decide +kernel
theorem dX11_says_14 : decode cX11_says 14 = .ok (.iload_n 2, 1) := by decide +kernel
theorem dX11_says_15 : decode cX11_says 15 = .ok (.iadd, 1) := by decide +kernel
theorem dX11_says_16 : decode cX11_says 16 = .ok (.iaload, 1) := by decide +kernel
theorem dX11_says_17 : decode cX11_says 17 = .ok (.aload_n 0, 1) := by decide +kernel
theorem dX11_says_18 : decode cX11_says 18 = .ok (.iload_n 1, 1) := by decide +kernel
theorem dX11_says_19 : decode cX11_says 19 = .ok (.iconst 0, 1) := by decide +kernel
theorem dX11_says_20 : decode cX11_says 20 = .ok (.invokevirtual 332, 3) := by decide +kernel
theorem dX11_says_23 : decode cX11_says 23 = .ok (.invokevirtual 285, 3) := by decide +kernel
theorem dX11_says_26 : decode cX11_says 26 = .ok (.istore_n 3, 1) := by decide +kernel
theorem dX11_says_27 : decode cX11_says 27 = .ok (.iconst 1, 1) := by decide +kernel
theorem dX11_says_28 : decode cX11_says 28 = .ok (.iload_n 2, 1) := by decide +kernel
theorem dX11_says_29 : decode cX11_says 29 = .ok (.ishl, 1) := by decide +kernel
theorem dX11_says_30 : decode cX11_says 30 = .ok (.istore 4, 2) := by decide +kernel
theorem dX11_says_32 : decode cX11_says 32 = .ok (.iconst 0, 1) := by decide +kernel
theorem dX11_says_33 : decode cX11_says 33 = .ok (.istore 5, 2) := by decide +kernel
theorem dX11_says_35 : decode cX11_says 35 = .ok (.iload 5, 2) := by decide +kernel
theorem dX11_says_37 : decode cX11_says 37 = .ok (.aload_n 0, 1) := by decide +kernel
theorem dX11_says_38 : decode cX11_says 38 = .ok (.getfield 109, 3) := by decide +kernel
theorem dX11_says_41 : decode cX11_says 41 = .ok (.if_icmp .ge 31, 3) := by decide +kernel
theorem dX11_says_44 : decode cX11_says 44 = .ok (.iload 4, 2) := by decide +kernel
theorem dX11_says_46 : decode cX11_says 46 = .ok (.iload_n 3, 1) := by decide +kernel
theorem dX11_says_47 : decode cX11_says 47 = .ok (.aload_n 0, 1) := by decide +kernel
theorem dX11_says_48 : decode cX11_says 48 = .ok (.getfield 7, 3) := by decide +kernel
theorem dX11_says_51 : decode cX11_says 51 = .ok (.bipush 82, 2) := by decide +kernel
theorem dX11_says_53 : decode cX11_says 53 = .ok (.iload 5, 2) := by decide +kernel
theorem dX11_says_55 : decode cX11_says 55 = .ok (.iadd, 1) := by decide +kernel
theorem dX11_says_56 : decode cX11_says 56 = .ok (.iaload, 1) := by decide +kernel
theorem dX11_says_57 : decode cX11_says 57 = .ok (.ishr, 1) := by decide +kernel
theorem dX11_says_58 : decode cX11_says 58 = .ok (.iconst 1, 1) := by decide +kernel
theorem dX11_says_59 : decode cX11_says 59 = .ok (.iand, 1) := by decide +kernel
theorem dX11_says_60 : decode cX11_says 60 = .ok (.iload 5, 2) := by decide +kernel
theorem dX11_says_62 : decode cX11_says 62 = .ok (.ishl, 1) := by decide +kernel
theorem dX11_says_63 : decode cX11_says 63 = .ok (.ior, 1) := by decide +kernel
theorem dX11_says_64 : decode cX11_says 64 = .ok (.istore 4, 2) := by decide +kernel
theorem dX11_says_66 : decode cX11_says 66 = .ok (.iinc 5 1, 3) := by decide +kernel
theorem dX11_says_69 : decode cX11_says 69 = .ok (.goto (-34), 3) := by decide +kernel
theorem dX11_says_72 : decode cX11_says 72 = .ok (.aload_n 0, 1) := by decide +kernel
theorem dX11_says_73 : decode cX11_says 73 = .ok (.getfield 53, 3) := by decide +kernel
theorem dX11_says_76 : decode cX11_says 76 = .ok (.aload_n 0, 1) := by decide +kernel
theorem dX11_says_77 : decode cX11_says 77 = .ok (.iload_n 1, 1) := by decide +kernel
theorem dX11_says_78 : decode cX11_says 78 = .ok (.iconst 2, 1) := by decide +kernel
theorem dX11_says_79 : decode cX11_says 79 = .ok (.invokevirtual 332, 3) := by decide +kernel
theorem dX11_says_82 : decode cX11_says 82 = .ok (.dup2, 1) := by decide +kernel
theorem dX11_says_83 : decode cX11_says 83 = .ok (.iaload, 1) := by decide +kernel
theorem dX11_says_84 : decode cX11_says 84 = .ok (.iload 4, 2) := by decide +kernel
theorem dX11_says_86 : decode cX11_says 86 = .ok (.ior, 1) := by decide +kernel
theorem dX11_says_87 : decode cX11_says 87 = .ok (.iastore, 1) := by decide +kernel
theorem dX11_says_88 : decode cX11_says 88 = .ok (.return_, 1) := by decide +kernel
theorem dX11_nobodyKnows_0 : decode cX11_nobodyKnows 0 = .ok (.iconst 0, 1) := by decide +kernel
theorem dX11_nobodyKnows_1 : decode cX11_nobodyKnows 1 = .ok (.istore_n 1, 1) := by decide +kernel
theorem dX11_nobodyKnows_2 : decode cX11_nobodyKnows 2 = .ok (.iload_n 1, 1) := by decide +kernel
theorem dX11_nobodyKnows_3 : decode cX11_nobodyKnows 3 = .ok (.bipush 8, 2) := by decide +kernel
theorem dX11_nobodyKnows_5 : decode cX11_nobodyKnows 5 = .ok (.if_icmp .ge 16, 3) := by decide +kernel
theorem dX11_nobodyKnows_8 : decode cX11_nobodyKnows 8 = .ok (.aload_n 0, 1) := by decide +kernel
theorem dX11_nobodyKnows_9 : decode cX11_nobodyKnows 9 = .ok (.getfield 53, 3) := by decide +kernel
theorem dX11_nobodyKnows_12 : decode cX11_nobodyKnows 12 = .ok (.iload_n 1, 1) := by decide +kernel
theorem dX11_nobodyKnows_13 : decode cX11_nobodyKnows 13 = .ok (.iconst 0, 1) := by decide +kernel
theorem dX11_nobodyKnows_14 : decode cX11_nobodyKnows 14 = .ok (.iastore, 1) := by decide +kernel
theorem dX11_nobodyKnows_15 : decode cX11_nobodyKnows 15 = .ok (.iinc 1 1, 3) := by decide +kernel
theorem dX11_nobodyKnows_18 : decode cX11_nobodyKnows 18 = .ok (.goto (-16), 3) := by decide +kernel
theorem dX11_nobodyKnows_21 : decode cX11_nobodyKnows 21 = .ok (.return_, 1) := by decide +kernel
theorem dX11_whispers_0 : decode cX11_whispers 0 = .ok (.aload_n 0, 1) := by decide +kernel
theorem dX11_whispers_1 : decode cX11_whispers 1 = .ok (.invokevirtual 335, 3) := by decide +kernel
theorem dX11_whispers_4 : decode cX11_whispers 4 = .ok (.iconst 0, 1) := by decide +kernel
theorem dX11_whispers_5 : decode cX11_whispers 5 = .ok (.istore_n 3, 1) := by decide +kernel
theorem dX11_whispers_6 : decode cX11_whispers 6 = .ok (.iconst 0, 1) := by decide +kernel
theorem dX11_whispers_7 : decode cX11_whispers 7 = .ok (.istore 4, 2) := by decide +kernel
theorem dX11_whispers_9 : decode cX11_whispers 9 = .ok (.iload 4, 2) := by decide +kernel
theorem dX11_whispers_11 : decode cX11_whispers 11 = .ok (.iload_n 1, 1) := by decide +kernel
theorem dX11_whispers_12 : decode cX11_whispers 12 = .ok (.if_icmp .ge 33, 3) := by decide +kernel
theorem dX11_whispers_15 : decode cX11_whispers 15 = .ok (.iload 4, 2) := by decide +kernel
theorem dX11_whispers_17 : decode cX11_whispers 17 = .ok (.iload_n 2, 1) := by decide +kernel
theorem dX11_whispers_18 : decode cX11_whispers 18 = .ok (.if_icmp .eq 21, 3) := by decide +kernel
theorem dX11_whispers_21 : decode cX11_whispers 21 = .ok (.aload_n 0, 1) := by decide +kernel
theorem dX11_whispers_22 : decode cX11_whispers 22 = .ok (.iload 4, 2) := by decide +kernel
theorem dX11_whispers_24 : decode cX11_whispers 24 = .ok (.invokevirtual 338, 3) := by decide +kernel
theorem dX11_whispers_27 : decode cX11_whispers 27 = .ok (.ifCond .eq 12, 3) := by decide +kernel
theorem dX11_whispers_30 : decode cX11_whispers 30 = .ok (.aload_n 0, 1) := by decide +kernel
theorem dX11_whispers_31 : decode cX11_whispers 31 = .ok (.iload 4, 2) := by decide +kernel
theorem dX11_whispers_33 : decode cX11_whispers 33 = .ok (.invokevirtual 341, 3) := by decide +kernel
theorem dX11_whispers_36 : decode cX11_whispers 36 = .ok (.iinc 3 1, 3) := by decide +kernel
theorem dX11_whispers_39 : decode cX11_whispers 39 = .ok (.iinc 4 1, 3) := by decide +kernel
theorem dX11_whispers_42 : decode cX11_whispers 42 = .ok (.goto (-33), 3) := by decide +kernel
theorem dX11_whispers_45 : decode cX11_whispers 45 = .ok (.iload_n 3, 1) := by decide +kernel
theorem dX11_whispers_46 : decode cX11_whispers 46 = .ok (.ireturn, 1) := by decide +kernel
theorem dX11_lastHour_0 : decode cX11_lastHour 0 = .ok (.aload_n 0, 1) := by decide +kernel
theorem dX11_lastHour_1 : decode cX11_lastHour 1 = .ok (.getfield 7, 3) := by decide +kernel
theorem dX11_lastHour_4 : decode cX11_lastHour 4 = .ok (.bipush 88, 2) := by decide +kernel
theorem dX11_lastHour_6 : decode cX11_lastHour 6 = .ok (.iaload, 1) := by decide +kernel
theorem dX11_lastHour_7 : decode cX11_lastHour 7 = .ok (.ifCond .ne 7, 3) := by decide +kernel
theorem dX11_lastHour_10 : decode cX11_lastHour 10 = .ok (.iconst 0, 1) := by decide +kernel
theorem dX11_lastHour_11 : decode cX11_lastHour 11 = .ok (.goto 17, 3) := by decide +kernel
theorem dX11_lastHour_14 : decode cX11_lastHour 14 = .ok (.aload_n 0, 1) := by decide +kernel
theorem dX11_lastHour_15 : decode cX11_lastHour 15 = .ok (.aload_n 0, 1) := by decide +kernel
theorem dX11_lastHour_16 : decode cX11_lastHour 16 = .ok (.getfield 7, 3) := by decide +kernel
theorem dX11_lastHour_19 : decode cX11_lastHour 19 = .ok (.bipush 88, 2) := by decide +kernel
theorem dX11_lastHour_21 : decode cX11_lastHour 21 = .ok (.iaload, 1) := by decide +kernel
theorem dX11_lastHour_22 : decode cX11_lastHour 22 = .ok (.iconst 1, 1) := by decide +kernel
theorem dX11_lastHour_23 : decode cX11_lastHour 23 = .ok (.isub, 1) := by decide +kernel
theorem dX11_lastHour_24 : decode cX11_lastHour 24 = .ok (.iconst 0, 1) := by decide +kernel
theorem dX11_lastHour_25 : decode cX11_lastHour 25 = .ok (.invokevirtual 332, 3) := by decide +kernel
theorem dX11_lastHour_28 : decode cX11_lastHour 28 = .ok (.ireturn, 1) := by decide +kernel
theorem dX11_isSecret_0 : decode cX11_isSecret 0 = .ok (.iload_n 0, 1) := by decide +kernel
theorem dX11_isSecret_1 : decode cX11_isSecret 1 = .ok (.i2l, 1) := by decide +kernel
theorem dX11_isSecret_2 : decode cX11_isSecret 2 = .ok (.lconst 0, 1) := by decide +kernel
theorem dX11_isSecret_3 : decode cX11_isSecret 3 = .ok (.ldc2_w 255, 3) := by decide +kernel
theorem dX11_isSecret_6 : decode cX11_isSecret 6 = .ok (.invokestatic 120, 3) := by decide +kernel
theorem dX11_isSecret_9 : decode cX11_isSecret 9 = .ok (.ireturn, 1) := by decide +kernel
theorem dX11_say_0 : decode cX11_say 0 = .ok (.iload_n 1, 1) := by decide +kernel
theorem dX11_say_1 : decode cX11_say 1 = .ok (.i2l, 1) := by decide +kernel
theorem dX11_say_2 : decode cX11_say 2 = .ok (.aload_n 0, 1) := by decide +kernel
theorem dX11_say_3 : decode cX11_say 3 = .ok (.invokevirtual 344, 3) := by decide +kernel
theorem dX11_say_6 : decode cX11_say 6 = .ok (.i2l, 1) := by decide +kernel
theorem dX11_say_7 : decode cX11_say 7 = .ok (.ldc2_w 217, 3) := by decide +kernel
theorem dX11_say_10 : decode cX11_say 10 = .ok (.invokestatic 120, 3) := by decide +kernel
theorem dX11_say_13 : decode cX11_say 13 = .ok (.ifCond .eq 18, 3) := by decide +kernel
theorem dX11_say_16 : decode cX11_say 16 = .ok (.aload_n 0, 1) := by decide +kernel
theorem dX11_say_17 : decode cX11_say 17 = .ok (.iload_n 2, 1) := by decide +kernel
theorem dX11_say_18 : decode cX11_say 18 = .ok (.invokevirtual 248, 3) := by decide +kernel
theorem dX11_say_21 : decode cX11_say 21 = .ok (.ifCond .eq 10, 3) := by decide +kernel
theorem dX11_say_24 : decode cX11_say 24 = .ok (.iload_n 3, 1) := by decide +kernel
theorem dX11_say_25 : decode cX11_say 25 = .ok (.invokestatic 347, 3) := by decide +kernel
theorem dX11_say_28 : decode cX11_say 28 = .ok (.ifCond .ne 5, 3) := by decide +kernel
theorem dX11_say_31 : decode cX11_say 31 = .ok (.iconst (-1), 1) := by decide +kernel
theorem dX11_say_32 : decode cX11_say 32 = .ok (.ireturn, 1) := by decide +kernel
theorem dX11_say_33 : decode cX11_say 33 = .ok (.aload_n 0, 1) := by decide +kernel
theorem dX11_say_34 : decode cX11_say 34 = .ok (.getfield 7, 3) := by decide +kernel
theorem dX11_say_37 : decode cX11_say 37 = .ok (.bipush 88, 2) := by decide +kernel
theorem dX11_say_39 : decode cX11_say 39 = .ok (.iaload, 1) := by decide +kernel
theorem dX11_say_40 : decode cX11_say 40 = .ok (.bipush 12, 2) := by decide +kernel
theorem dX11_say_42 : decode cX11_say 42 = .ok (.if_icmp .ne 6, 3) := by decide +kernel
theorem dX11_say_45 : decode cX11_say 45 = .ok (.bipush (-3), 2) := by decide +kernel
theorem dX11_say_47 : decode cX11_say 47 = .ok (.ireturn, 1) := by decide +kernel
theorem dX11_say_48 : decode cX11_say 48 = .ok (.bipush 89, 2) := by decide +kernel
theorem dX11_say_50 : decode cX11_say 50 = .ok (.iconst 3, 1) := by decide +kernel
theorem dX11_say_51 : decode cX11_say 51 = .ok (.aload_n 0, 1) := by decide +kernel
theorem dX11_say_52 : decode cX11_say 52 = .ok (.getfield 7, 3) := by decide +kernel
theorem dX11_say_55 : decode cX11_say 55 = .ok (.bipush 88, 2) := by decide +kernel
theorem dX11_say_57 : decode cX11_say 57 = .ok (.iaload, 1) := by decide +kernel
theorem dX11_say_58 : decode cX11_say 58 = .ok (.imul, 1) := by decide +kernel
theorem dX11_say_59 : decode cX11_say 59 = .ok (.iadd, 1) := by decide +kernel
theorem dX11_say_60 : decode cX11_say 60 = .ok (.istore 4, 2) := by decide +kernel
theorem dX11_say_62 : decode cX11_say 62 = .ok (.aload_n 0, 1) := by decide +kernel
theorem dX11_say_63 : decode cX11_say 63 = .ok (.getfield 7, 3) := by decide +kernel
theorem dX11_say_66 : decode cX11_say 66 = .ok (.iload 4, 2) := by decide +kernel
theorem dX11_say_68 : decode cX11_say 68 = .ok (.iload_n 1, 1) := by decide +kernel
theorem dX11_say_69 : decode cX11_say 69 = .ok (.iastore, 1) := by decide +kernel
theorem dX11_say_70 : decode cX11_say 70 = .ok (.aload_n 0, 1) := by decide +kernel
theorem dX11_say_71 : decode cX11_say 71 = .ok (.getfield 7, 3) := by decide +kernel
theorem dX11_say_74 : decode cX11_say 74 = .ok (.iload 4, 2) := by decide +kernel
theorem dX11_say_76 : decode cX11_say 76 = .ok (.iconst 1, 1) := by decide +kernel
theorem dX11_say_77 : decode cX11_say 77 = .ok (.iadd, 1) := by decide +kernel
theorem dX11_say_78 : decode cX11_say 78 = .ok (.iload_n 2, 1) := by decide +kernel
theorem dX11_say_79 : decode cX11_say 79 = .ok (.iastore, 1) := by decide +kernel
theorem dX11_say_80 : decode cX11_say 80 = .ok (.aload_n 0, 1) := by decide +kernel
theorem dX11_say_81 : decode cX11_say 81 = .ok (.getfield 7, 3) := by decide +kernel
theorem dX11_say_84 : decode cX11_say 84 = .ok (.iload 4, 2) := by decide +kernel
theorem dX11_say_86 : decode cX11_say 86 = .ok (.iconst 2, 1) := by decide +kernel
theorem dX11_say_87 : decode cX11_say 87 = .ok (.iadd, 1) := by decide +kernel
theorem dX11_say_88 : decode cX11_say 88 = .ok (.iload_n 3, 1) := by decide +kernel
theorem dX11_say_89 : decode cX11_say 89 = .ok (.iastore, 1) := by decide +kernel
theorem dX11_say_90 : decode cX11_say 90 = .ok (.aload_n 0, 1) := by decide +kernel
theorem dX11_say_91 : decode cX11_say 91 = .ok (.getfield 7, 3) := by decide +kernel
theorem dX11_say_94 : decode cX11_say 94 = .ok (.bipush 88, 2) := by decide +kernel
theorem dX11_say_96 : decode cX11_say 96 = .ok (.dup2, 1) := by decide +kernel
theorem dX11_say_97 : decode cX11_say 97 = .ok (.iaload, 1) := by decide +kernel
theorem dX11_say_98 : decode cX11_say 98 = .ok (.iconst 1, 1) := by decide +kernel
theorem dX11_say_99 : decode cX11_say 99 = .ok (.iadd, 1) := by decide +kernel
theorem dX11_say_100 : decode cX11_say 100 = .ok (.iastore, 1) := by decide +kernel
theorem dX11_say_101 : decode cX11_say 101 = .ok (.aload_n 0, 1) := by decide +kernel
theorem dX11_say_102 : decode cX11_say 102 = .ok (.getfield 7, 3) := by decide +kernel
theorem dX11_say_105 : decode cX11_say 105 = .ok (.bipush 88, 2) := by decide +kernel
theorem dX11_say_107 : decode cX11_say 107 = .ok (.iaload, 1) := by decide +kernel
theorem dX11_say_108 : decode cX11_say 108 = .ok (.ireturn, 1) := by decide +kernel
theorem dX11_unsay_0 : decode cX11_unsay 0 = .ok (.iload_n 1, 1) := by decide +kernel
theorem dX11_unsay_1 : decode cX11_unsay 1 = .ok (.i2l, 1) := by decide +kernel
theorem dX11_unsay_2 : decode cX11_unsay 2 = .ok (.lconst 0, 1) := by decide +kernel
theorem dX11_unsay_3 : decode cX11_unsay 3 = .ok (.aload_n 0, 1) := by decide +kernel
theorem dX11_unsay_4 : decode cX11_unsay 4 = .ok (.getfield 7, 3) := by decide +kernel
theorem dX11_unsay_7 : decode cX11_unsay 7 = .ok (.bipush 88, 2) := by decide +kernel
theorem dX11_unsay_9 : decode cX11_unsay 9 = .ok (.iaload, 1) := by decide +kernel
theorem dX11_unsay_10 : decode cX11_unsay 10 = .ok (.i2l, 1) := by decide +kernel
theorem dX11_unsay_11 : decode cX11_unsay 11 = .ok (.invokestatic 120, 3) := by decide +kernel
theorem dX11_unsay_14 : decode cX11_unsay 14 = .ok (.ifCond .ne 5, 3) := by decide +kernel
theorem dX11_unsay_17 : decode cX11_unsay 17 = .ok (.iconst (-1), 1) := by decide +kernel
theorem dX11_unsay_18 : decode cX11_unsay 18 = .ok (.ireturn, 1) := by decide +kernel
theorem dX11_unsay_19 : decode cX11_unsay 19 = .ok (.aload_n 0, 1) := by decide +kernel
theorem dX11_unsay_20 : decode cX11_unsay 20 = .ok (.getfield 7, 3) := by decide +kernel
theorem dX11_unsay_23 : decode cX11_unsay 23 = .ok (.bipush 88, 2) := by decide +kernel
theorem dX11_unsay_25 : decode cX11_unsay 25 = .ok (.iaload, 1) := by decide +kernel
theorem dX11_unsay_26 : decode cX11_unsay 26 = .ok (.istore_n 2, 1) := by decide +kernel
theorem dX11_unsay_27 : decode cX11_unsay 27 = .ok (.aload_n 0, 1) := by decide +kernel
theorem dX11_unsay_28 : decode cX11_unsay 28 = .ok (.getfield 7, 3) := by decide +kernel
theorem dX11_unsay_31 : decode cX11_unsay 31 = .ok (.bipush 88, 2) := by decide +kernel
theorem dX11_unsay_33 : decode cX11_unsay 33 = .ok (.iload_n 1, 1) := by decide +kernel
theorem dX11_unsay_34 : decode cX11_unsay 34 = .ok (.iastore, 1) := by decide +kernel
theorem dX11_unsay_35 : decode cX11_unsay 35 = .ok (.iload_n 2, 1) := by decide +kernel
theorem dX11_unsay_36 : decode cX11_unsay 36 = .ok (.ireturn, 1) := by decide +kernel
theorem dX11_isSay_0 : decode cX11_isSay 0 = .ok (.iload_n 1, 1) := by decide +kernel
theorem dX11_isSay_1 : decode cX11_isSay 1 = .ok (.i2l, 1) := by decide +kernel
theorem dX11_isSay_2 : decode cX11_isSay 2 = .ok (.lconst 0, 1) := by decide +kernel
theorem dX11_isSay_3 : decode cX11_isSay 3 = .ok (.aload_n 0, 1) := by decide +kernel
theorem dX11_isSay_4 : decode cX11_isSay 4 = .ok (.getfield 7, 3) := by decide +kernel
theorem dX11_isSay_7 : decode cX11_isSay 7 = .ok (.bipush 88, 2) := by decide +kernel
theorem dX11_isSay_9 : decode cX11_isSay 9 = .ok (.iaload, 1) := by decide +kernel
theorem dX11_isSay_10 : decode cX11_isSay 10 = .ok (.iconst 1, 1) := by decide +kernel
theorem dX11_isSay_11 : decode cX11_isSay 11 = .ok (.isub, 1) := by decide +kernel
theorem dX11_isSay_12 : decode cX11_isSay 12 = .ok (.i2l, 1) := by decide +kernel
theorem dX11_isSay_13 : decode cX11_isSay 13 = .ok (.invokestatic 120, 3) := by decide +kernel
theorem dX11_isSay_16 : decode cX11_isSay 16 = .ok (.ireturn, 1) := by decide +kernel
theorem dX11_said_0 : decode cX11_said 0 = .ok (.aload_n 0, 1) := by decide +kernel
theorem dX11_said_1 : decode cX11_said 1 = .ok (.iload_n 1, 1) := by decide +kernel
theorem dX11_said_2 : decode cX11_said 2 = .ok (.invokevirtual 350, 3) := by decide +kernel
theorem dX11_said_5 : decode cX11_said 5 = .ok (.ifCond .eq 15, 3) := by decide +kernel
theorem dX11_said_8 : decode cX11_said 8 = .ok (.iload_n 2, 1) := by decide +kernel
theorem dX11_said_9 : decode cX11_said 9 = .ok (.i2l, 1) := by decide +kernel
theorem dX11_said_10 : decode cX11_said 10 = .ok (.lconst 0, 1) := by decide +kernel
theorem dX11_said_11 : decode cX11_said 11 = .ok (.ldc2_w 251, 3) := by decide +kernel
theorem dX11_said_14 : decode cX11_said 14 = .ok (.invokestatic 120, 3) := by decide +kernel
theorem dX11_said_17 : decode cX11_said 17 = .ok (.ifCond .ne 5, 3) := by decide +kernel
theorem dX11_said_20 : decode cX11_said 20 = .ok (.iconst (-1), 1) := by decide +kernel
theorem dX11_said_21 : decode cX11_said 21 = .ok (.ireturn, 1) := by decide +kernel
theorem dX11_said_22 : decode cX11_said 22 = .ok (.iload_n 2, 1) := by decide +kernel
theorem dX11_said_23 : decode cX11_said 23 = .ok (.iconst 3, 1) := by decide +kernel
theorem dX11_said_24 : decode cX11_said 24 = .ok (.if_icmp .ge 10, 3) := by decide +kernel
theorem dX11_said_27 : decode cX11_said 27 = .ok (.aload_n 0, 1) := by decide +kernel
theorem dX11_said_28 : decode cX11_said 28 = .ok (.iload_n 1, 1) := by decide +kernel
theorem dX11_said_29 : decode cX11_said 29 = .ok (.iload_n 2, 1) := by decide +kernel
theorem dX11_said_30 : decode cX11_said 30 = .ok (.invokevirtual 332, 3) := by decide +kernel
theorem dX11_said_33 : decode cX11_said 33 = .ok (.ireturn, 1) := by decide +kernel
theorem dX11_said_34 : decode cX11_said 34 = .ok (.aload_n 0, 1) := by decide +kernel
theorem dX11_said_35 : decode cX11_said 35 = .ok (.iload_n 1, 1) := by decide +kernel
theorem dX11_said_36 : decode cX11_said 36 = .ok (.bipush (-4), 2) := by decide +kernel
theorem dX11_said_38 : decode cX11_said 38 = .ok (.invokevirtual 353, 3) := by decide +kernel
theorem dX11_said_41 : decode cX11_said 41 = .ok (.pop, 1) := by decide +kernel
theorem dX11_said_42 : decode cX11_said 42 = .ok (.aload_n 0, 1) := by decide +kernel
theorem dX11_said_43 : decode cX11_said 43 = .ok (.iload_n 1, 1) := by decide +kernel
theorem dX11_said_44 : decode cX11_said 44 = .ok (.invokevirtual 338, 3) := by decide +kernel
theorem dX11_said_47 : decode cX11_said 47 = .ok (.invokestatic 195, 3) := by decide +kernel
theorem dX11_said_50 : decode cX11_said 50 = .ok (.ireturn, 1) := by decide +kernel
theorem dX11_knows_0 : decode cX11_knows 0 = .ok (.aload_n 0, 1) := by decide +kernel
theorem dX11_knows_1 : decode cX11_knows 1 = .ok (.iload_n 1, 1) := by decide +kernel
theorem dX11_knows_2 : decode cX11_knows 2 = .ok (.invokevirtual 248, 3) := by decide +kernel
theorem dX11_knows_5 : decode cX11_knows 5 = .ok (.ifCond .eq 20, 3) := by decide +kernel
theorem dX11_knows_8 : decode cX11_knows 8 = .ok (.iload_n 2, 1) := by decide +kernel
theorem dX11_knows_9 : decode cX11_knows 9 = .ok (.i2l, 1) := by decide +kernel
theorem dX11_knows_10 : decode cX11_knows 10 = .ok (.lconst 0, 1) := by decide +kernel
theorem dX11_knows_11 : decode cX11_knows 11 = .ok (.aload_n 0, 1) := by decide +kernel
theorem dX11_knows_12 : decode cX11_knows 12 = .ok (.getfield 7, 3) := by decide +kernel
theorem dX11_knows_15 : decode cX11_knows 15 = .ok (.bipush 88, 2) := by decide +kernel
theorem dX11_knows_17 : decode cX11_knows 17 = .ok (.iaload, 1) := by decide +kernel
theorem dX11_knows_18 : decode cX11_knows 18 = .ok (.i2l, 1) := by decide +kernel
theorem dX11_knows_19 : decode cX11_knows 19 = .ok (.invokestatic 120, 3) := by decide +kernel
theorem dX11_knows_22 : decode cX11_knows 22 = .ok (.ifCond .ne 5, 3) := by decide +kernel
theorem dX11_knows_25 : decode cX11_knows 25 = .ok (.iconst (-1), 1) := by decide +kernel
theorem dX11_knows_26 : decode cX11_knows 26 = .ok (.ireturn, 1) := by decide +kernel
theorem dX11_knows_27 : decode cX11_knows 27 = .ok (.aload_n 0, 1) := by decide +kernel
theorem dX11_knows_28 : decode cX11_knows 28 = .ok (.iload_n 2, 1) := by decide +kernel
theorem dX11_knows_29 : decode cX11_knows 29 = .ok (.bipush (-4), 2) := by decide +kernel
theorem dX11_knows_31 : decode cX11_knows 31 = .ok (.invokevirtual 353, 3) := by decide +kernel
theorem dX11_knows_34 : decode cX11_knows 34 = .ok (.pop, 1) := by decide +kernel
theorem dX11_knows_35 : decode cX11_knows 35 = .ok (.iconst 0, 1) := by decide +kernel
theorem dX11_knows_36 : decode cX11_knows 36 = .ok (.istore_n 3, 1) := by decide +kernel
theorem dX11_knows_37 : decode cX11_knows 37 = .ok (.iconst 0, 1) := by decide +kernel
theorem dX11_knows_38 : decode cX11_knows 38 = .ok (.istore 4, 2) := by decide +kernel
theorem dX11_knows_40 : decode cX11_knows 40 = .ok (.iload 4, 2) := by decide +kernel
theorem dX11_knows_42 : decode cX11_knows 42 = .ok (.bipush 8, 2) := by decide +kernel
theorem dX11_knows_44 : decode cX11_knows 44 = .ok (.if_icmp .ge 26, 3) := by decide +kernel
theorem dX11_knows_47 : decode cX11_knows 47 = .ok (.iload_n 3, 1) := by decide +kernel
theorem dX11_knows_48 : decode cX11_knows 48 = .ok (.aload_n 0, 1) := by decide +kernel
theorem dX11_knows_49 : decode cX11_knows 49 = .ok (.getfield 53, 3) := by decide +kernel
theorem dX11_knows_52 : decode cX11_knows 52 = .ok (.iload 4, 2) := by decide +kernel
theorem dX11_knows_54 : decode cX11_knows 54 = .ok (.iaload, 1) := by decide +kernel
theorem dX11_knows_55 : decode cX11_knows 55 = .ok (.iload_n 1, 1) := by decide +kernel
theorem dX11_knows_56 : decode cX11_knows 56 = .ok (.ishr, 1) := by decide +kernel
theorem dX11_knows_57 : decode cX11_knows 57 = .ok (.iconst 1, 1) := by decide +kernel
theorem dX11_knows_58 : decode cX11_knows 58 = .ok (.iand, 1) := by decide +kernel
theorem dX11_knows_59 : decode cX11_knows 59 = .ok (.iload 4, 2) := by decide +kernel
theorem dX11_knows_61 : decode cX11_knows 61 = .ok (.ishl, 1) := by decide +kernel
theorem dX11_knows_62 : decode cX11_knows 62 = .ok (.ior, 1) := by decide +kernel
theorem dX11_knows_63 : decode cX11_knows 63 = .ok (.istore_n 3, 1) := by decide +kernel
theorem dX11_knows_64 : decode cX11_knows 64 = .ok (.iinc 4 1, 3) := by decide +kernel
theorem dX11_knows_67 : decode cX11_knows 67 = .ok (.goto (-27), 3) := by decide +kernel
theorem dX11_knows_70 : decode cX11_knows 70 = .ok (.iload_n 3, 1) := by decide +kernel
theorem dX11_knows_71 : decode cX11_knows 71 = .ok (.ireturn, 1) := by decide +kernel
theorem dX11_since_0 : decode cX11_since 0 = .ok (.aload_n 0, 1) := by decide +kernel
theorem dX11_since_1 : decode cX11_since 1 = .ok (.iload_n 1, 1) := by decide +kernel
theorem dX11_since_2 : decode cX11_since 2 = .ok (.invokevirtual 248, 3) := by decide +kernel
theorem dX11_since_5 : decode cX11_since 5 = .ok (.ifCond .eq 10, 3) := by decide +kernel
theorem dX11_since_8 : decode cX11_since 8 = .ok (.iload_n 2, 1) := by decide +kernel
theorem dX11_since_9 : decode cX11_since 9 = .ok (.invokestatic 347, 3) := by decide +kernel
theorem dX11_since_12 : decode cX11_since 12 = .ok (.ifCond .ne 5, 3) := by decide +kernel
theorem dX11_since_15 : decode cX11_since 15 = .ok (.iconst (-1), 1) := by decide +kernel
theorem dX11_since_16 : decode cX11_since 16 = .ok (.ireturn, 1) := by decide +kernel
theorem dX11_since_17 : decode cX11_since 17 = .ok (.iconst 0, 1) := by decide +kernel
theorem dX11_since_18 : decode cX11_since 18 = .ok (.istore_n 3, 1) := by decide +kernel
theorem dX11_since_19 : decode cX11_since 19 = .ok (.iload_n 3, 1) := by decide +kernel
theorem dX11_since_20 : decode cX11_since 20 = .ok (.aload_n 0, 1) := by decide +kernel
theorem dX11_since_21 : decode cX11_since 21 = .ok (.getfield 7, 3) := by decide +kernel
theorem dX11_since_24 : decode cX11_since 24 = .ok (.bipush 88, 2) := by decide +kernel
theorem dX11_since_26 : decode cX11_since 26 = .ok (.iaload, 1) := by decide +kernel
theorem dX11_since_27 : decode cX11_since 27 = .ok (.if_icmp .ge 35, 3) := by decide +kernel
theorem dX11_since_30 : decode cX11_since 30 = .ok (.aload_n 0, 1) := by decide +kernel
theorem dX11_since_31 : decode cX11_since 31 = .ok (.iload_n 3, 1) := by decide +kernel
theorem dX11_since_32 : decode cX11_since 32 = .ok (.iconst 1, 1) := by decide +kernel
theorem dX11_since_33 : decode cX11_since 33 = .ok (.iadd, 1) := by decide +kernel
theorem dX11_since_34 : decode cX11_since 34 = .ok (.bipush (-4), 2) := by decide +kernel
theorem dX11_since_36 : decode cX11_since 36 = .ok (.invokevirtual 353, 3) := by decide +kernel
theorem dX11_since_39 : decode cX11_since 39 = .ok (.pop, 1) := by decide +kernel
theorem dX11_since_40 : decode cX11_since 40 = .ok (.aload_n 0, 1) := by decide +kernel
theorem dX11_since_41 : decode cX11_since 41 = .ok (.getfield 53, 3) := by decide +kernel
theorem dX11_since_44 : decode cX11_since 44 = .ok (.iload_n 2, 1) := by decide +kernel
theorem dX11_since_45 : decode cX11_since 45 = .ok (.iaload, 1) := by decide +kernel
theorem dX11_since_46 : decode cX11_since 46 = .ok (.iload_n 1, 1) := by decide +kernel
theorem dX11_since_47 : decode cX11_since 47 = .ok (.ishr, 1) := by decide +kernel
theorem dX11_since_48 : decode cX11_since 48 = .ok (.iconst 1, 1) := by decide +kernel
theorem dX11_since_49 : decode cX11_since 49 = .ok (.iand, 1) := by decide +kernel
theorem dX11_since_50 : decode cX11_since 50 = .ok (.iconst 1, 1) := by decide +kernel
theorem dX11_since_51 : decode cX11_since 51 = .ok (.if_icmp .ne 5, 3) := by decide +kernel
theorem dX11_since_54 : decode cX11_since 54 = .ok (.iload_n 3, 1) := by decide +kernel
theorem dX11_since_55 : decode cX11_since 55 = .ok (.ireturn, 1) := by decide +kernel
theorem dX11_since_56 : decode cX11_since 56 = .ok (.iinc 3 1, 3) := by decide +kernel
theorem dX11_since_59 : decode cX11_since 59 = .ok (.goto (-40), 3) := by decide +kernel
theorem dX11_since_62 : decode cX11_since 62 = .ok (.bipush (-4), 2) := by decide +kernel
theorem dX11_since_64 : decode cX11_since 64 = .ok (.ireturn, 1) := by decide +kernel
theorem dX11_leak_0 : decode cX11_leak 0 = .ok (.iload_n 1, 1) := by decide +kernel
theorem dX11_leak_1 : decode cX11_leak 1 = .ok (.invokestatic 347, 3) := by decide +kernel
theorem dX11_leak_4 : decode cX11_leak 4 = .ok (.ifCond .eq 33, 3) := by decide +kernel
theorem dX11_leak_7 : decode cX11_leak 7 = .ok (.iload_n 2, 1) := by decide +kernel
theorem dX11_leak_8 : decode cX11_leak 8 = .ok (.i2l, 1) := by decide +kernel
theorem dX11_leak_9 : decode cX11_leak 9 = .ok (.lconst 0, 1) := by decide +kernel
theorem dX11_leak_10 : decode cX11_leak 10 = .ok (.iconst 1, 1) := by decide +kernel
theorem dX11_leak_11 : decode cX11_leak 11 = .ok (.aload_n 0, 1) := by decide +kernel
theorem dX11_leak_12 : decode cX11_leak 12 = .ok (.getfield 109, 3) := by decide +kernel
theorem dX11_leak_15 : decode cX11_leak 15 = .ok (.ishl, 1) := by decide +kernel
theorem dX11_leak_16 : decode cX11_leak 16 = .ok (.iconst 1, 1) := by decide +kernel
theorem dX11_leak_17 : decode cX11_leak 17 = .ok (.isub, 1) := by decide +kernel
theorem dX11_leak_18 : decode cX11_leak 18 = .ok (.i2l, 1) := by decide +kernel
theorem dX11_leak_19 : decode cX11_leak 19 = .ok (.invokestatic 120, 3) := by decide +kernel
theorem dX11_leak_22 : decode cX11_leak 22 = .ok (.ifCond .eq 15, 3) := by decide +kernel
theorem dX11_leak_25 : decode cX11_leak 25 = .ok (.iload_n 3, 1) := by decide +kernel
theorem dX11_leak_26 : decode cX11_leak 26 = .ok (.i2l, 1) := by decide +kernel
theorem dX11_leak_27 : decode cX11_leak 27 = .ok (.lconst 0, 1) := by decide +kernel
theorem dX11_leak_28 : decode cX11_leak 28 = .ok (.ldc2_w 226, 3) := by decide +kernel
theorem dX11_leak_31 : decode cX11_leak 31 = .ok (.invokestatic 120, 3) := by decide +kernel
theorem dX11_leak_34 : decode cX11_leak 34 = .ok (.ifCond .ne 5, 3) := by decide +kernel
theorem dX11_leak_37 : decode cX11_leak 37 = .ok (.iconst (-1), 1) := by decide +kernel
theorem dX11_leak_38 : decode cX11_leak 38 = .ok (.ireturn, 1) := by decide +kernel
theorem dX11_leak_39 : decode cX11_leak 39 = .ok (.iconst 0, 1) := by decide +kernel
theorem dX11_leak_40 : decode cX11_leak 40 = .ok (.istore 4, 2) := by decide +kernel
theorem dX11_leak_42 : decode cX11_leak 42 = .ok (.iload 4, 2) := by decide +kernel
theorem dX11_leak_44 : decode cX11_leak 44 = .ok (.aload_n 0, 1) := by decide +kernel
theorem dX11_leak_45 : decode cX11_leak 45 = .ok (.getfield 7, 3) := by decide +kernel
theorem dX11_leak_48 : decode cX11_leak 48 = .ok (.bipush 88, 2) := by decide +kernel
theorem dX11_leak_50 : decode cX11_leak 50 = .ok (.iaload, 1) := by decide +kernel
theorem dX11_leak_51 : decode cX11_leak 51 = .ok (.if_icmp .ge 64, 3) := by decide +kernel
theorem dX11_leak_54 : decode cX11_leak 54 = .ok (.aload_n 0, 1) := by decide +kernel
theorem dX11_leak_55 : decode cX11_leak 55 = .ok (.iload 4, 2) := by decide +kernel
theorem dX11_leak_57 : decode cX11_leak 57 = .ok (.iconst 1, 1) := by decide +kernel
theorem dX11_leak_58 : decode cX11_leak 58 = .ok (.iadd, 1) := by decide +kernel
theorem dX11_leak_59 : decode cX11_leak 59 = .ok (.bipush (-4), 2) := by decide +kernel
theorem dX11_leak_61 : decode cX11_leak 61 = .ok (.invokevirtual 353, 3) := by decide +kernel
theorem dX11_leak_64 : decode cX11_leak 64 = .ok (.pop, 1) := by decide +kernel
theorem dX11_leak_65 : decode cX11_leak 65 = .ok (.aload_n 0, 1) := by decide +kernel
theorem dX11_leak_66 : decode cX11_leak 66 = .ok (.getfield 53, 3) := by decide +kernel
theorem dX11_leak_69 : decode cX11_leak 69 = .ok (.iload_n 1, 1) := by decide +kernel
theorem dX11_leak_70 : decode cX11_leak 70 = .ok (.iaload, 1) := by decide +kernel
theorem dX11_leak_71 : decode cX11_leak 71 = .ok (.iload_n 2, 1) := by decide +kernel
theorem dX11_leak_72 : decode cX11_leak 72 = .ok (.iconst (-1), 1) := by decide +kernel
theorem dX11_leak_73 : decode cX11_leak 73 = .ok (.ixor, 1) := by decide +kernel
theorem dX11_leak_74 : decode cX11_leak 74 = .ok (.iand, 1) := by decide +kernel
theorem dX11_leak_75 : decode cX11_leak 75 = .ok (.istore 5, 2) := by decide +kernel
theorem dX11_leak_77 : decode cX11_leak 77 = .ok (.iload 5, 2) := by decide +kernel
theorem dX11_leak_79 : decode cX11_leak 79 = .ok (.ifCond .eq 30, 3) := by decide +kernel
theorem dX11_leak_82 : decode cX11_leak 82 = .ok (.iload_n 3, 1) := by decide +kernel
theorem dX11_leak_83 : decode cX11_leak 83 = .ok (.ifCond .ne 8, 3) := by decide +kernel
theorem dX11_leak_86 : decode cX11_leak 86 = .ok (.iload 4, 2) := by decide +kernel
theorem dX11_leak_88 : decode cX11_leak 88 = .ok (.goto 20, 3) := by decide +kernel
theorem dX11_leak_91 : decode cX11_leak 91 = .ok (.iload_n 3, 1) := by decide +kernel
theorem dX11_leak_92 : decode cX11_leak 92 = .ok (.iconst 1, 1) := by decide +kernel
theorem dX11_leak_93 : decode cX11_leak 93 = .ok (.if_icmp .ne 13, 3) := by decide +kernel
theorem dX11_leak_96 : decode cX11_leak 96 = .ok (.aload_n 0, 1) := by decide +kernel
theorem dX11_leak_97 : decode cX11_leak 97 = .ok (.iload 4, 2) := by decide +kernel
theorem dX11_leak_99 : decode cX11_leak 99 = .ok (.iconst 1, 1) := by decide +kernel
theorem dX11_leak_100 : decode cX11_leak 100 = .ok (.invokevirtual 332, 3) := by decide +kernel
theorem dX11_leak_103 : decode cX11_leak 103 = .ok (.goto 5, 3) := by decide +kernel
theorem dX11_leak_106 : decode cX11_leak 106 = .ok (.iload 5, 2) := by decide +kernel
theorem dX11_leak_108 : decode cX11_leak 108 = .ok (.ireturn, 1) := by decide +kernel
theorem dX11_leak_109 : decode cX11_leak 109 = .ok (.iinc 4 1, 3) := by decide +kernel
theorem dX11_leak_112 : decode cX11_leak 112 = .ok (.goto (-70), 3) := by decide +kernel
theorem dX11_leak_115 : decode cX11_leak 115 = .ok (.bipush (-4), 2) := by decide +kernel
theorem dX11_leak_117 : decode cX11_leak 117 = .ok (.ireturn, 1) := by decide +kernel
theorem dX11_without_0 : decode cX11_without 0 = .ok (.aload_n 0, 1) := by decide +kernel
theorem dX11_without_1 : decode cX11_without 1 = .ok (.iload_n 1, 1) := by decide +kernel
theorem dX11_without_2 : decode cX11_without 2 = .ok (.invokevirtual 350, 3) := by decide +kernel
theorem dX11_without_5 : decode cX11_without 5 = .ok (.ifCond .ne 5, 3) := by decide +kernel
theorem dX11_without_8 : decode cX11_without 8 = .ok (.iconst (-1), 1) := by decide +kernel
theorem dX11_without_9 : decode cX11_without 9 = .ok (.ireturn, 1) := by decide +kernel
theorem dX11_without_10 : decode cX11_without 10 = .ok (.aload_n 0, 1) := by decide +kernel
theorem dX11_without_11 : decode cX11_without 11 = .ok (.iload_n 1, 1) := by decide +kernel
theorem dX11_without_12 : decode cX11_without 12 = .ok (.iconst 2, 1) := by decide +kernel
theorem dX11_without_13 : decode cX11_without 13 = .ok (.invokevirtual 332, 3) := by decide +kernel
theorem dX11_without_16 : decode cX11_without 16 = .ok (.istore_n 2, 1) := by decide +kernel
theorem dX11_without_17 : decode cX11_without 17 = .ok (.aload_n 0, 1) := by decide +kernel
theorem dX11_without_18 : decode cX11_without 18 = .ok (.aload_n 0, 1) := by decide +kernel
theorem dX11_without_19 : decode cX11_without 19 = .ok (.getfield 7, 3) := by decide +kernel
theorem dX11_without_22 : decode cX11_without 22 = .ok (.bipush 88, 2) := by decide +kernel
theorem dX11_without_24 : decode cX11_without 24 = .ok (.iaload, 1) := by decide +kernel
theorem dX11_without_25 : decode cX11_without 25 = .ok (.bipush (-4), 2) := by decide +kernel
theorem dX11_without_27 : decode cX11_without 27 = .ok (.invokevirtual 353, 3) := by decide +kernel
theorem dX11_without_30 : decode cX11_without 30 = .ok (.pop, 1) := by decide +kernel
theorem dX11_without_31 : decode cX11_without 31 = .ok (.aload_n 0, 1) := by decide +kernel
theorem dX11_without_32 : decode cX11_without 32 = .ok (.getfield 53, 3) := by decide +kernel
theorem dX11_without_35 : decode cX11_without 35 = .ok (.iload_n 2, 1) := by decide +kernel
theorem dX11_without_36 : decode cX11_without 36 = .ok (.iaload, 1) := by decide +kernel
theorem dX11_without_37 : decode cX11_without 37 = .ok (.invokestatic 309, 3) := by decide +kernel
theorem dX11_without_40 : decode cX11_without 40 = .ok (.istore_n 3, 1) := by decide +kernel
theorem dX11_without_41 : decode cX11_without 41 = .ok (.aload_n 0, 1) := by decide +kernel
theorem dX11_without_42 : decode cX11_without 42 = .ok (.aload_n 0, 1) := by decide +kernel
theorem dX11_without_43 : decode cX11_without 43 = .ok (.getfield 7, 3) := by decide +kernel
theorem dX11_without_46 : decode cX11_without 46 = .ok (.bipush 88, 2) := by decide +kernel
theorem dX11_without_48 : decode cX11_without 48 = .ok (.iaload, 1) := by decide +kernel
theorem dX11_without_49 : decode cX11_without 49 = .ok (.iload_n 1, 1) := by decide +kernel
theorem dX11_without_50 : decode cX11_without 50 = .ok (.invokevirtual 353, 3) := by decide +kernel
theorem dX11_without_53 : decode cX11_without 53 = .ok (.pop, 1) := by decide +kernel
theorem dX11_without_54 : decode cX11_without 54 = .ok (.iload_n 3, 1) := by decide +kernel
theorem dX11_without_55 : decode cX11_without 55 = .ok (.aload_n 0, 1) := by decide +kernel
theorem dX11_without_56 : decode cX11_without 56 = .ok (.getfield 53, 3) := by decide +kernel
theorem dX11_without_59 : decode cX11_without 59 = .ok (.iload_n 2, 1) := by decide +kernel
theorem dX11_without_60 : decode cX11_without 60 = .ok (.iaload, 1) := by decide +kernel
theorem dX11_without_61 : decode cX11_without 61 = .ok (.invokestatic 309, 3) := by decide +kernel
theorem dX11_without_64 : decode cX11_without 64 = .ok (.isub, 1) := by decide +kernel
theorem dX11_without_65 : decode cX11_without 65 = .ok (.istore 4, 2) := by decide +kernel
theorem dX11_without_67 : decode cX11_without 67 = .ok (.iload 4, 2) := by decide +kernel
theorem dX11_without_69 : decode cX11_without 69 = .ok (.ifCond .ge 11, 3) := by decide +kernel
theorem dX11_without_72 : decode cX11_without 72 = .ok (.iload 4, 2) := by decide +kernel
theorem dX11_without_74 : decode cX11_without 74 = .ok (.bipush 100, 2) := by decide +kernel
theorem dX11_without_76 : decode cX11_without 76 = .ok (.isub, 1) := by decide +kernel
theorem dX11_without_77 : decode cX11_without 77 = .ok (.goto 5, 3) := by decide +kernel
theorem dX11_without_80 : decode cX11_without 80 = .ok (.iload 4, 2) := by decide +kernel
theorem dX11_without_82 : decode cX11_without 82 = .ok (.ireturn, 1) := by decide +kernel
theorem dX11_murmur_0 : decode cX11_murmur 0 = .ok (.iload_n 2, 1) := by decide +kernel
theorem dX11_murmur_1 : decode cX11_murmur 1 = .ok (.i2l, 1) := by decide +kernel
theorem dX11_murmur_2 : decode cX11_murmur 2 = .ok (.lconst 1, 1) := by decide +kernel
theorem dX11_murmur_3 : decode cX11_murmur 3 = .ok (.ldc2_w 356, 3) := by decide +kernel
theorem dX11_murmur_6 : decode cX11_murmur 6 = .ok (.invokestatic 120, 3) := by decide +kernel
theorem dX11_murmur_9 : decode cX11_murmur 9 = .ok (.ifCond .eq 10, 3) := by decide +kernel
theorem dX11_murmur_12 : decode cX11_murmur 12 = .ok (.iload_n 3, 1) := by decide +kernel
theorem dX11_murmur_13 : decode cX11_murmur 13 = .ok (.invokestatic 231, 3) := by decide +kernel
theorem dX11_murmur_16 : decode cX11_murmur 16 = .ok (.ifCond .ne 5, 3) := by decide +kernel
theorem dX11_murmur_19 : decode cX11_murmur 19 = .ok (.iconst (-1), 1) := by decide +kernel
theorem dX11_murmur_20 : decode cX11_murmur 20 = .ok (.ireturn, 1) := by decide +kernel
theorem dX11_murmur_21 : decode cX11_murmur 21 = .ok (.aload_n 0, 1) := by decide +kernel
theorem dX11_murmur_22 : decode cX11_murmur 22 = .ok (.getfield 109, 3) := by decide +kernel
theorem dX11_murmur_25 : decode cX11_murmur 25 = .ok (.ifCond .ne 6, 3) := by decide +kernel
theorem dX11_murmur_28 : decode cX11_murmur 28 = .ok (.bipush (-2), 2) := by decide +kernel
theorem dX11_murmur_30 : decode cX11_murmur 30 = .ok (.ireturn, 1) := by decide +kernel
theorem dX11_murmur_31 : decode cX11_murmur 31 = .ok (.iload_n 1, 1) := by decide +kernel
theorem dX11_murmur_32 : decode cX11_murmur 32 = .ok (.istore 4, 2) := by decide +kernel
theorem dX11_murmur_34 : decode cX11_murmur 34 = .ok (.iconst 0, 1) := by decide +kernel
theorem dX11_murmur_35 : decode cX11_murmur 35 = .ok (.istore 5, 2) := by decide +kernel
theorem dX11_murmur_37 : decode cX11_murmur 37 = .ok (.iload 5, 2) := by decide +kernel
theorem dX11_murmur_39 : decode cX11_murmur 39 = .ok (.iload_n 2, 1) := by decide +kernel
theorem dX11_murmur_40 : decode cX11_murmur 40 = .ok (.if_icmp .ge 94, 3) := by decide +kernel
theorem dX11_murmur_43 : decode cX11_murmur 43 = .ok (.bipush 89, 2) := by decide +kernel
theorem dX11_murmur_45 : decode cX11_murmur 45 = .ok (.iconst 3, 1) := by decide +kernel
theorem dX11_murmur_46 : decode cX11_murmur 46 = .ok (.iload 5, 2) := by decide +kernel
theorem dX11_murmur_48 : decode cX11_murmur 48 = .ok (.imul, 1) := by decide +kernel
theorem dX11_murmur_49 : decode cX11_murmur 49 = .ok (.iadd, 1) := by decide +kernel
theorem dX11_murmur_50 : decode cX11_murmur 50 = .ok (.istore 6, 2) := by decide +kernel
theorem dX11_murmur_52 : decode cX11_murmur 52 = .ok (.aload_n 0, 1) := by decide +kernel
theorem dX11_murmur_53 : decode cX11_murmur 53 = .ok (.getfield 7, 3) := by decide +kernel
theorem dX11_murmur_56 : decode cX11_murmur 56 = .ok (.iload 6, 2) := by decide +kernel
theorem dX11_murmur_58 : decode cX11_murmur 58 = .ok (.iload_n 3, 1) := by decide +kernel
theorem dX11_murmur_59 : decode cX11_murmur 59 = .ok (.iastore, 1) := by decide +kernel
theorem dX11_murmur_60 : decode cX11_murmur 60 = .ok (.iload 4, 2) := by decide +kernel
theorem dX11_murmur_62 : decode cX11_murmur 62 = .ok (.ldc_w 358, 3) := by decide +kernel
theorem dX11_murmur_65 : decode cX11_murmur 65 = .ok (.imul, 1) := by decide +kernel
theorem dX11_murmur_66 : decode cX11_murmur 66 = .ok (.sipush 12345, 3) := by decide +kernel
theorem dX11_murmur_69 : decode cX11_murmur 69 = .ok (.iadd, 1) := by decide +kernel
theorem dX11_murmur_70 : decode cX11_murmur 70 = .ok (.istore 4, 2) := by decide +kernel
theorem dX11_murmur_72 : decode cX11_murmur 72 = .ok (.aload_n 0, 1) := by decide +kernel
theorem dX11_murmur_73 : decode cX11_murmur 73 = .ok (.getfield 7, 3) := by decide +kernel
theorem dX11_murmur_76 : decode cX11_murmur 76 = .ok (.iload 6, 2) := by decide +kernel
theorem dX11_murmur_78 : decode cX11_murmur 78 = .ok (.iconst 1, 1) := by decide +kernel
theorem dX11_murmur_79 : decode cX11_murmur 79 = .ok (.iadd, 1) := by decide +kernel
theorem dX11_murmur_80 : decode cX11_murmur 80 = .ok (.iload 4, 2) := by decide +kernel
theorem dX11_murmur_82 : decode cX11_murmur 82 = .ok (.bipush 16, 2) := by decide +kernel
theorem dX11_murmur_84 : decode cX11_murmur 84 = .ok (.ishr, 1) := by decide +kernel
theorem dX11_murmur_85 : decode cX11_murmur 85 = .ok (.sipush 32767, 3) := by decide +kernel
theorem dX11_murmur_88 : decode cX11_murmur 88 = .ok (.iand, 1) := by decide +kernel
theorem dX11_murmur_89 : decode cX11_murmur 89 = .ok (.aload_n 0, 1) := by decide +kernel
theorem dX11_murmur_90 : decode cX11_murmur 90 = .ok (.getfield 109, 3) := by decide +kernel
theorem dX11_murmur_93 : decode cX11_murmur 93 = .ok (.irem, 1) := by decide +kernel
theorem dX11_murmur_94 : decode cX11_murmur 94 = .ok (.iastore, 1) := by decide +kernel
theorem dX11_murmur_95 : decode cX11_murmur 95 = .ok (.iload 4, 2) := by decide +kernel
theorem dX11_murmur_97 : decode cX11_murmur 97 = .ok (.ldc_w 358, 3) := by decide +kernel
theorem dX11_murmur_100 : decode cX11_murmur 100 = .ok (.imul, 1) := by decide +kernel
theorem dX11_murmur_101 : decode cX11_murmur 101 = .ok (.sipush 12345, 3) := by decide +kernel
theorem dX11_murmur_104 : decode cX11_murmur 104 = .ok (.iadd, 1) := by decide +kernel
theorem dX11_murmur_105 : decode cX11_murmur 105 = .ok (.istore 4, 2) := by decide +kernel
theorem dX11_murmur_107 : decode cX11_murmur 107 = .ok (.aload_n 0, 1) := by decide +kernel
theorem dX11_murmur_108 : decode cX11_murmur 108 = .ok (.getfield 7, 3) := by decide +kernel
theorem dX11_murmur_111 : decode cX11_murmur 111 = .ok (.iload 6, 2) := by decide +kernel
theorem dX11_murmur_113 : decode cX11_murmur 113 = .ok (.iconst 2, 1) := by decide +kernel
theorem dX11_murmur_114 : decode cX11_murmur 114 = .ok (.iadd, 1) := by decide +kernel
theorem dX11_murmur_115 : decode cX11_murmur 115 = .ok (.iload 4, 2) := by decide +kernel
theorem dX11_murmur_117 : decode cX11_murmur 117 = .ok (.bipush 16, 2) := by decide +kernel
theorem dX11_murmur_119 : decode cX11_murmur 119 = .ok (.ishr, 1) := by decide +kernel
theorem dX11_murmur_120 : decode cX11_murmur 120 = .ok (.sipush 32767, 3) := by decide +kernel
theorem dX11_murmur_123 : decode cX11_murmur 123 = .ok (.iand, 1) := by decide +kernel
theorem dX11_murmur_124 : decode cX11_murmur 124 = .ok (.bipush 8, 2) := by decide +kernel
theorem dX11_murmur_126 : decode cX11_murmur 126 = .ok (.irem, 1) := by decide +kernel
theorem dX11_murmur_127 : decode cX11_murmur 127 = .ok (.iastore, 1) := by decide +kernel
theorem dX11_murmur_128 : decode cX11_murmur 128 = .ok (.iinc 5 1, 3) := by decide +kernel
theorem dX11_murmur_131 : decode cX11_murmur 131 = .ok (.goto (-94), 3) := by decide +kernel
theorem dX11_murmur_134 : decode cX11_murmur 134 = .ok (.aload_n 0, 1) := by decide +kernel
theorem dX11_murmur_135 : decode cX11_murmur 135 = .ok (.getfield 7, 3) := by decide +kernel
theorem dX11_murmur_138 : decode cX11_murmur 138 = .ok (.bipush 88, 2) := by decide +kernel
theorem dX11_murmur_140 : decode cX11_murmur 140 = .ok (.iload_n 2, 1) := by decide +kernel
theorem dX11_murmur_141 : decode cX11_murmur 141 = .ok (.iastore, 1) := by decide +kernel
theorem dX11_murmur_142 : decode cX11_murmur 142 = .ok (.aload_n 0, 1) := by decide +kernel
theorem dX11_murmur_143 : decode cX11_murmur 143 = .ok (.iload_n 2, 1) := by decide +kernel
theorem dX11_murmur_144 : decode cX11_murmur 144 = .ok (.bipush (-4), 2) := by decide +kernel
theorem dX11_murmur_146 : decode cX11_murmur 146 = .ok (.invokevirtual 353, 3) := by decide +kernel
theorem dX11_murmur_149 : decode cX11_murmur 149 = .ok (.ireturn, 1) := by decide +kernel
theorem dX11_areBenches_0 : decode cX11_areBenches 0 = .ok (.iload_n 1, 1) := by decide +kernel
theorem dX11_areBenches_1 : decode cX11_areBenches 1 = .ok (.i2l, 1) := by decide +kernel
theorem dX11_areBenches_2 : decode cX11_areBenches 2 = .ok (.lconst 0, 1) := by decide +kernel
theorem dX11_areBenches_3 : decode cX11_areBenches 3 = .ok (.iconst 1, 1) := by decide +kernel
theorem dX11_areBenches_4 : decode cX11_areBenches 4 = .ok (.aload_n 0, 1) := by decide +kernel
theorem dX11_areBenches_5 : decode cX11_areBenches 5 = .ok (.getfield 102, 3) := by decide +kernel
theorem dX11_areBenches_8 : decode cX11_areBenches 8 = .ok (.ishl, 1) := by decide +kernel
theorem dX11_areBenches_9 : decode cX11_areBenches 9 = .ok (.iconst 1, 1) := by decide +kernel
theorem dX11_areBenches_10 : decode cX11_areBenches 10 = .ok (.isub, 1) := by decide +kernel
theorem dX11_areBenches_11 : decode cX11_areBenches 11 = .ok (.i2l, 1) := by decide +kernel
theorem dX11_areBenches_12 : decode cX11_areBenches 12 = .ok (.invokestatic 120, 3) := by decide +kernel
theorem dX11_areBenches_15 : decode cX11_areBenches 15 = .ok (.ireturn, 1) := by decide +kernel
theorem dX11_from_0 : decode cX11_from 0 = .ok (.aload_n 0, 1) := by decide +kernel
theorem dX11_from_1 : decode cX11_from 1 = .ok (.iload_n 1, 1) := by decide +kernel
theorem dX11_from_2 : decode cX11_from 2 = .ok (.invokevirtual 359, 3) := by decide +kernel
theorem dX11_from_5 : decode cX11_from 5 = .ok (.ifCond .eq 10, 3) := by decide +kernel
theorem dX11_from_8 : decode cX11_from 8 = .ok (.iload_n 2, 1) := by decide +kernel
theorem dX11_from_9 : decode cX11_from 9 = .ok (.invokestatic 231, 3) := by decide +kernel
theorem dX11_from_12 : decode cX11_from 12 = .ok (.ifCond .ne 5, 3) := by decide +kernel
theorem dX11_from_15 : decode cX11_from 15 = .ok (.iconst (-1), 1) := by decide +kernel
theorem dX11_from_16 : decode cX11_from 16 = .ok (.ireturn, 1) := by decide +kernel
theorem dX11_from_17 : decode cX11_from 17 = .ok (.iconst 0, 1) := by decide +kernel
theorem dX11_from_18 : decode cX11_from 18 = .ok (.istore_n 3, 1) := by decide +kernel
theorem dX11_from_19 : decode cX11_from 19 = .ok (.iconst 0, 1) := by decide +kernel
theorem dX11_from_20 : decode cX11_from 20 = .ok (.istore 4, 2) := by decide +kernel
theorem dX11_from_22 : decode cX11_from 22 = .ok (.iload 4, 2) := by decide +kernel
theorem dX11_from_24 : decode cX11_from 24 = .ok (.aload_n 0, 1) := by decide +kernel
theorem dX11_from_25 : decode cX11_from 25 = .ok (.getfield 102, 3) := by decide +kernel
theorem dX11_from_28 : decode cX11_from 28 = .ok (.if_icmp .ge 34, 3) := by decide +kernel
theorem dX11_from_31 : decode cX11_from 31 = .ok (.iload_n 3, 1) := by decide +kernel
theorem dX11_from_32 : decode cX11_from 32 = .ok (.aload_n 0, 1) := by decide +kernel
theorem dX11_from_33 : decode cX11_from 33 = .ok (.iload 4, 2) := by decide +kernel
theorem dX11_from_35 : decode cX11_from 35 = .ok (.iload_n 2, 1) := by decide +kernel
theorem dX11_from_36 : decode cX11_from 36 = .ok (.invokevirtual 285, 3) := by decide +kernel
theorem dX11_from_39 : decode cX11_from 39 = .ok (.iload_n 1, 1) := by decide +kernel
theorem dX11_from_40 : decode cX11_from 40 = .ok (.if_icmp .ne 7, 3) := by decide +kernel
theorem dX11_from_43 : decode cX11_from 43 = .ok (.iconst 1, 1) := by decide +kernel
theorem dX11_from_44 : decode cX11_from 44 = .ok (.goto 4, 3) := by decide +kernel
theorem dX11_from_47 : decode cX11_from 47 = .ok (.iconst 0, 1) := by decide +kernel
theorem dX11_from_48 : decode cX11_from 48 = .ok (.invokestatic 195, 3) := by decide +kernel
theorem dX11_from_51 : decode cX11_from 51 = .ok (.iload 4, 2) := by decide +kernel
theorem dX11_from_53 : decode cX11_from 53 = .ok (.ishl, 1) := by decide +kernel
theorem dX11_from_54 : decode cX11_from 54 = .ok (.ior, 1) := by decide +kernel
theorem dX11_from_55 : decode cX11_from 55 = .ok (.istore_n 3, 1) := by decide +kernel
theorem dX11_from_56 : decode cX11_from 56 = .ok (.iinc 4 1, 3) := by decide +kernel
theorem dX11_from_59 : decode cX11_from 59 = .ok (.goto (-37), 3) := by decide +kernel
theorem dX11_from_62 : decode cX11_from 62 = .ok (.iload_n 3, 1) := by decide +kernel
theorem dX11_from_63 : decode cX11_from 63 = .ok (.ireturn, 1) := by decide +kernel
theorem dX11_where_0 : decode cX11_where 0 = .ok (.aload_n 0, 1) := by decide +kernel
theorem dX11_where_1 : decode cX11_where 1 = .ok (.iload_n 1, 1) := by decide +kernel
theorem dX11_where_2 : decode cX11_where 2 = .ok (.invokevirtual 359, 3) := by decide +kernel
theorem dX11_where_5 : decode cX11_where 5 = .ok (.ifCond .eq 26, 3) := by decide +kernel
theorem dX11_where_8 : decode cX11_where 8 = .ok (.iload_n 1, 1) := by decide +kernel
theorem dX11_where_9 : decode cX11_where 9 = .ok (.ifCond .eq 22, 3) := by decide +kernel
theorem dX11_where_12 : decode cX11_where 12 = .ok (.iload_n 2, 1) := by decide +kernel
theorem dX11_where_13 : decode cX11_where 13 = .ok (.invokestatic 231, 3) := by decide +kernel
theorem dX11_where_16 : decode cX11_where 16 = .ok (.ifCond .eq 15, 3) := by decide +kernel
theorem dX11_where_19 : decode cX11_where 19 = .ok (.iload_n 3, 1) := by decide +kernel
theorem dX11_where_20 : decode cX11_where 20 = .ok (.i2l, 1) := by decide +kernel
theorem dX11_where_21 : decode cX11_where 21 = .ok (.lconst 0, 1) := by decide +kernel
theorem dX11_where_22 : decode cX11_where 22 = .ok (.ldc2_w 226, 3) := by decide +kernel
theorem dX11_where_25 : decode cX11_where 25 = .ok (.invokestatic 120, 3) := by decide +kernel
theorem dX11_where_28 : decode cX11_where 28 = .ok (.ifCond .ne 5, 3) := by decide +kernel
theorem dX11_where_31 : decode cX11_where 31 = .ok (.iconst (-1), 1) := by decide +kernel
theorem dX11_where_32 : decode cX11_where 32 = .ok (.ireturn, 1) := by decide +kernel
theorem dX11_where_33 : decode cX11_where 33 = .ok (.iconst 0, 1) := by decide +kernel
theorem dX11_where_34 : decode cX11_where 34 = .ok (.istore 4, 2) := by decide +kernel
theorem dX11_where_36 : decode cX11_where 36 = .ok (.bipush (-4), 2) := by decide +kernel
theorem dX11_where_38 : decode cX11_where 38 = .ok (.istore 5, 2) := by decide +kernel
theorem dX11_where_40 : decode cX11_where 40 = .ok (.bipush (-4), 2) := by decide +kernel
theorem dX11_where_42 : decode cX11_where 42 = .ok (.istore 6, 2) := by decide +kernel
theorem dX11_where_44 : decode cX11_where 44 = .ok (.bipush 80, 2) := by decide +kernel
theorem dX11_where_46 : decode cX11_where 46 = .ok (.istore 7, 2) := by decide +kernel
theorem dX11_where_48 : decode cX11_where 48 = .ok (.iload 7, 2) := by decide +kernel
theorem dX11_where_50 : decode cX11_where 50 = .ok (.ifCond .lt 128, 3) := by decide +kernel
theorem dX11_where_53 : decode cX11_where 53 = .ok (.bipush (-4), 2) := by decide +kernel
theorem dX11_where_55 : decode cX11_where 55 = .ok (.istore 8, 2) := by decide +kernel
theorem dX11_where_57 : decode cX11_where 57 = .ok (.bipush 7, 2) := by decide +kernel
theorem dX11_where_59 : decode cX11_where 59 = .ok (.istore 9, 2) := by decide +kernel
theorem dX11_where_61 : decode cX11_where 61 = .ok (.iload 9, 2) := by decide +kernel
theorem dX11_where_63 : decode cX11_where 63 = .ok (.ifCond .lt 57, 3) := by decide +kernel
theorem dX11_where_66 : decode cX11_where 66 = .ok (.aload_n 0, 1) := by decide +kernel
theorem dX11_where_67 : decode cX11_where 67 = .ok (.iload 7, 2) := by decide +kernel
theorem dX11_where_69 : decode cX11_where 69 = .ok (.invokevirtual 219, 3) := by decide +kernel
theorem dX11_where_72 : decode cX11_where 72 = .ok (.ifCond .eq 48, 3) := by decide +kernel
theorem dX11_where_75 : decode cX11_where 75 = .ok (.aload_n 0, 1) := by decide +kernel
theorem dX11_where_76 : decode cX11_where 76 = .ok (.getfield 7, 3) := by decide +kernel
theorem dX11_where_79 : decode cX11_where 79 = .ok (.iload 7, 2) := by decide +kernel
theorem dX11_where_81 : decode cX11_where 81 = .ok (.iaload, 1) := by decide +kernel
theorem dX11_where_82 : decode cX11_where 82 = .ok (.ifCond .ne 38, 3) := by decide +kernel
theorem dX11_where_85 : decode cX11_where 85 = .ok (.aload_n 0, 1) := by decide +kernel
theorem dX11_where_86 : decode cX11_where 86 = .ok (.iload 7, 2) := by decide +kernel
theorem dX11_where_88 : decode cX11_where 88 = .ok (.iload 9, 2) := by decide +kernel
theorem dX11_where_90 : decode cX11_where 90 = .ok (.iconst 0, 1) := by decide +kernel
theorem dX11_where_91 : decode cX11_where 91 = .ok (.invokevirtual 266, 3) := by decide +kernel
theorem dX11_where_94 : decode cX11_where 94 = .ok (.aload_n 0, 1) := by decide +kernel
theorem dX11_where_95 : decode cX11_where 95 = .ok (.iload_n 2, 1) := by decide +kernel
theorem dX11_where_96 : decode cX11_where 96 = .ok (.bipush (-4), 2) := by decide +kernel
theorem dX11_where_98 : decode cX11_where 98 = .ok (.invokevirtual 282, 3) := by decide +kernel
theorem dX11_where_101 : decode cX11_where 101 = .ok (.iload_n 1, 1) := by decide +kernel
theorem dX11_where_102 : decode cX11_where 102 = .ok (.if_icmp .ne 8, 3) := by decide +kernel
theorem dX11_where_105 : decode cX11_where 105 = .ok (.iload 9, 2) := by decide +kernel
theorem dX11_where_107 : decode cX11_where 107 = .ok (.goto 5, 3) := by decide +kernel
theorem dX11_where_110 : decode cX11_where 110 = .ok (.iload 8, 2) := by decide +kernel
theorem dX11_where_112 : decode cX11_where 112 = .ok (.istore 8, 2) := by decide +kernel
theorem dX11_where_114 : decode cX11_where 114 = .ok (.iinc 9 (-1), 3) := by decide +kernel
theorem dX11_where_117 : decode cX11_where 117 = .ok (.goto (-56), 3) := by decide +kernel
theorem dX11_where_120 : decode cX11_where 120 = .ok (.iload 4, 2) := by decide +kernel
theorem dX11_where_122 : decode cX11_where 122 = .ok (.iload 8, 2) := by decide +kernel
theorem dX11_where_124 : decode cX11_where 124 = .ok (.bipush (-4), 2) := by decide +kernel
theorem dX11_where_126 : decode cX11_where 126 = .ok (.if_icmp .eq 7, 3) := by decide +kernel
theorem dX11_where_129 : decode cX11_where 129 = .ok (.iconst 1, 1) := by decide +kernel
theorem dX11_where_130 : decode cX11_where 130 = .ok (.goto 4, 3) := by decide +kernel
theorem dX11_where_133 : decode cX11_where 133 = .ok (.iconst 0, 1) := by decide +kernel
theorem dX11_where_134 : decode cX11_where 134 = .ok (.invokestatic 195, 3) := by decide +kernel
theorem dX11_where_137 : decode cX11_where 137 = .ok (.iadd, 1) := by decide +kernel
theorem dX11_where_138 : decode cX11_where 138 = .ok (.istore 4, 2) := by decide +kernel
theorem dX11_where_140 : decode cX11_where 140 = .ok (.iload 8, 2) := by decide +kernel
theorem dX11_where_142 : decode cX11_where 142 = .ok (.bipush (-4), 2) := by decide +kernel
theorem dX11_where_144 : decode cX11_where 144 = .ok (.if_icmp .eq 8, 3) := by decide +kernel
theorem dX11_where_147 : decode cX11_where 147 = .ok (.iload 7, 2) := by decide +kernel
theorem dX11_where_149 : decode cX11_where 149 = .ok (.goto 5, 3) := by decide +kernel
theorem dX11_where_152 : decode cX11_where 152 = .ok (.iload 5, 2) := by decide +kernel
theorem dX11_where_154 : decode cX11_where 154 = .ok (.istore 5, 2) := by decide +kernel
theorem dX11_where_156 : decode cX11_where 156 = .ok (.iload 8, 2) := by decide +kernel
theorem dX11_where_158 : decode cX11_where 158 = .ok (.bipush (-4), 2) := by decide +kernel
theorem dX11_where_160 : decode cX11_where 160 = .ok (.if_icmp .eq 8, 3) := by decide +kernel
theorem dX11_where_163 : decode cX11_where 163 = .ok (.iload 8, 2) := by decide +kernel
theorem dX11_where_165 : decode cX11_where 165 = .ok (.goto 5, 3) := by decide +kernel
theorem dX11_where_168 : decode cX11_where 168 = .ok (.iload 6, 2) := by decide +kernel
theorem dX11_where_170 : decode cX11_where 170 = .ok (.istore 6, 2) := by decide +kernel
theorem dX11_where_172 : decode cX11_where 172 = .ok (.iinc 7 (-1), 3) := by decide +kernel
theorem dX11_where_175 : decode cX11_where 175 = .ok (.goto (-127), 3) := by decide +kernel
theorem dX11_where_178 : decode cX11_where 178 = .ok (.iload_n 3, 1) := by decide +kernel
theorem dX11_where_179 : decode cX11_where 179 = .ok (.ifCond .ne 8, 3) := by decide +kernel
theorem dX11_where_182 : decode cX11_where 182 = .ok (.iload 4, 2) := by decide +kernel
theorem dX11_where_184 : decode cX11_where 184 = .ok (.goto 15, 3) := by decide +kernel
theorem dX11_where_187 : decode cX11_where 187 = .ok (.iload_n 3, 1) := by decide +kernel
theorem dX11_where_188 : decode cX11_where 188 = .ok (.iconst 1, 1) := by decide +kernel
theorem dX11_where_189 : decode cX11_where 189 = .ok (.if_icmp .ne 8, 3) := by decide +kernel
theorem dX11_where_192 : decode cX11_where 192 = .ok (.iload 5, 2) := by decide +kernel
theorem dX11_where_194 : decode cX11_where 194 = .ok (.goto 5, 3) := by decide +kernel
theorem dX11_where_197 : decode cX11_where 197 = .ok (.iload 6, 2) := by decide +kernel
theorem dX11_where_199 : decode cX11_where 199 = .ok (.ireturn, 1) := by decide +kernel
theorem dX11_copies_0 : decode cX11_copies 0 = .ok (.iconst 0, 1) := by decide +kernel
theorem dX11_copies_1 : decode cX11_copies 1 = .ok (.istore_n 3, 1) := by decide +kernel
theorem dX11_copies_2 : decode cX11_copies 2 = .ok (.iload_n 3, 1) := by decide +kernel
theorem dX11_copies_3 : decode cX11_copies 3 = .ok (.bipush 125, 2) := by decide +kernel
theorem dX11_copies_5 : decode cX11_copies 5 = .ok (.if_icmp .ge 25, 3) := by decide +kernel
theorem dX11_copies_8 : decode cX11_copies 8 = .ok (.aload_n 0, 1) := by decide +kernel
theorem dX11_copies_9 : decode cX11_copies 9 = .ok (.getfield 7, 3) := by decide +kernel
theorem dX11_copies_12 : decode cX11_copies 12 = .ok (.iload_n 1, 1) := by decide +kernel
theorem dX11_copies_13 : decode cX11_copies 13 = .ok (.iload_n 3, 1) := by decide +kernel
theorem dX11_copies_14 : decode cX11_copies 14 = .ok (.iadd, 1) := by decide +kernel
theorem dX11_copies_15 : decode cX11_copies 15 = .ok (.aload_n 0, 1) := by decide +kernel
theorem dX11_copies_16 : decode cX11_copies 16 = .ok (.getfield 7, 3) := by decide +kernel
theorem dX11_copies_19 : decode cX11_copies 19 = .ok (.iload_n 2, 1) := by decide +kernel
theorem dX11_copies_20 : decode cX11_copies 20 = .ok (.iload_n 3, 1) := by decide +kernel
theorem dX11_copies_21 : decode cX11_copies 21 = .ok (.iadd, 1) := by decide +kernel
theorem dX11_copies_22 : decode cX11_copies 22 = .ok (.iaload, 1) := by decide +kernel
theorem dX11_copies_23 : decode cX11_copies 23 = .ok (.iastore, 1) := by decide +kernel
theorem dX11_copies_24 : decode cX11_copies 24 = .ok (.iinc 3 1, 3) := by decide +kernel
theorem dX11_copies_27 : decode cX11_copies 27 = .ok (.goto (-25), 3) := by decide +kernel
theorem dX11_copies_30 : decode cX11_copies 30 = .ok (.return_, 1) := by decide +kernel
theorem dX11_keep_0 : decode cX11_keep 0 = .ok (.iload_n 1, 1) := by decide +kernel
theorem dX11_keep_1 : decode cX11_keep 1 = .ok (.i2l, 1) := by decide +kernel
theorem dX11_keep_2 : decode cX11_keep 2 = .ok (.lconst 0, 1) := by decide +kernel
theorem dX11_keep_3 : decode cX11_keep 3 = .ok (.lconst 1, 1) := by decide +kernel
theorem dX11_keep_4 : decode cX11_keep 4 = .ok (.invokestatic 120, 3) := by decide +kernel
theorem dX11_keep_7 : decode cX11_keep 7 = .ok (.ifCond .ne 5, 3) := by decide +kernel
theorem dX11_keep_10 : decode cX11_keep 10 = .ok (.iconst (-1), 1) := by decide +kernel
theorem dX11_keep_11 : decode cX11_keep 11 = .ok (.ireturn, 1) := by decide +kernel
theorem dX11_keep_12 : decode cX11_keep 12 = .ok (.aload_n 0, 1) := by decide +kernel
theorem dX11_keep_13 : decode cX11_keep 13 = .ok (.getfield 13, 3) := by decide +kernel
theorem dX11_keep_16 : decode cX11_keep 16 = .ok (.iload_n 1, 1) := by decide +kernel
theorem dX11_keep_17 : decode cX11_keep 17 = .ok (.baload, 1) := by decide +kernel
theorem dX11_keep_18 : decode cX11_keep 18 = .ok (.invokestatic 195, 3) := by decide +kernel
theorem dX11_keep_21 : decode cX11_keep 21 = .ok (.istore_n 2, 1) := by decide +kernel
theorem dX11_keep_22 : decode cX11_keep 22 = .ok (.aload_n 0, 1) := by decide +kernel
theorem dX11_keep_23 : decode cX11_keep 23 = .ok (.getfield 13, 3) := by decide +kernel
theorem dX11_keep_26 : decode cX11_keep 26 = .ok (.iload_n 1, 1) := by decide +kernel
theorem dX11_keep_27 : decode cX11_keep 27 = .ok (.iconst 1, 1) := by decide +kernel
theorem dX11_keep_28 : decode cX11_keep 28 = .ok (.bastore, 1) := by decide +kernel
theorem dX11_keep_29 : decode cX11_keep 29 = .ok (.aload_n 0, 1) := by decide +kernel
theorem dX11_keep_30 : decode cX11_keep 30 = .ok (.bipush 125, 2) := by decide +kernel
theorem dX11_keep_32 : decode cX11_keep 32 = .ok (.iload_n 1, 1) := by decide +kernel
theorem dX11_keep_33 : decode cX11_keep 33 = .ok (.iconst 1, 1) := by decide +kernel
theorem dX11_keep_34 : decode cX11_keep 34 = .ok (.iadd, 1) := by decide +kernel
theorem dX11_keep_35 : decode cX11_keep 35 = .ok (.imul, 1) := by decide +kernel
theorem dX11_keep_36 : decode cX11_keep 36 = .ok (.iconst 0, 1) := by decide +kernel
theorem dX11_keep_37 : decode cX11_keep 37 = .ok (.invokevirtual 362, 3) := by decide +kernel
theorem dX11_keep_40 : decode cX11_keep 40 = .ok (.iload_n 2, 1) := by decide +kernel
theorem dX11_keep_41 : decode cX11_keep 41 = .ok (.ireturn, 1) := by decide +kernel
theorem dX11_back_0 : decode cX11_back 0 = .ok (.iload_n 1, 1) := by decide +kernel
theorem dX11_back_1 : decode cX11_back 1 = .ok (.i2l, 1) := by decide +kernel
theorem dX11_back_2 : decode cX11_back 2 = .ok (.lconst 0, 1) := by decide +kernel
theorem dX11_back_3 : decode cX11_back 3 = .ok (.lconst 1, 1) := by decide +kernel
theorem dX11_back_4 : decode cX11_back 4 = .ok (.invokestatic 120, 3) := by decide +kernel
theorem dX11_back_7 : decode cX11_back 7 = .ok (.ifCond .ne 5, 3) := by decide +kernel
theorem dX11_back_10 : decode cX11_back 10 = .ok (.iconst (-1), 1) := by decide +kernel
theorem dX11_back_11 : decode cX11_back 11 = .ok (.ireturn, 1) := by decide +kernel
theorem dX11_back_12 : decode cX11_back 12 = .ok (.aload_n 0, 1) := by decide +kernel
theorem dX11_back_13 : decode cX11_back 13 = .ok (.getfield 13, 3) := by decide +kernel
theorem dX11_back_16 : decode cX11_back 16 = .ok (.iload_n 1, 1) := by decide +kernel
theorem dX11_back_17 : decode cX11_back 17 = .ok (.baload, 1) := by decide +kernel
theorem dX11_back_18 : decode cX11_back 18 = .ok (.ifCond .ne 6, 3) := by decide +kernel
theorem dX11_back_21 : decode cX11_back 21 = .ok (.bipush (-2), 2) := by decide +kernel
theorem dX11_back_23 : decode cX11_back 23 = .ok (.ireturn, 1) := by decide +kernel
theorem dX11_back_24 : decode cX11_back 24 = .ok (.aload_n 0, 1) := by decide +kernel
theorem dX11_back_25 : decode cX11_back 25 = .ok (.iconst 0, 1) := by decide +kernel
theorem dX11_back_26 : decode cX11_back 26 = .ok (.bipush 125, 2) := by decide +kernel
theorem dX11_back_28 : decode cX11_back 28 = .ok (.iload_n 1, 1) := by decide +kernel
theorem dX11_back_29 : decode cX11_back 29 = .ok (.iconst 1, 1) := by decide +kernel
theorem dX11_back_30 : decode cX11_back 30 = .ok (.iadd, 1) := by decide +kernel
theorem dX11_back_31 : decode cX11_back 31 = .ok (.imul, 1) := by decide +kernel
theorem dX11_back_32 : decode cX11_back 32 = .ok (.invokevirtual 362, 3) := by decide +kernel
theorem dX11_back_35 : decode cX11_back 35 = .ok (.aload_n 0, 1) := by decide +kernel
theorem dX11_back_36 : decode cX11_back 36 = .ok (.getfield 7, 3) := by decide +kernel
theorem dX11_back_39 : decode cX11_back 39 = .ok (.bipush 88, 2) := by decide +kernel
theorem dX11_back_41 : decode cX11_back 41 = .ok (.iaload, 1) := by decide +kernel
theorem dX11_back_42 : decode cX11_back 42 = .ok (.ireturn, 1) := by decide +kernel
theorem dX11_isSheet_0 : decode cX11_isSheet 0 = .ok (.iload_n 0, 1) := by decide +kernel
theorem dX11_isSheet_1 : decode cX11_isSheet 1 = .ok (.i2l, 1) := by decide +kernel
theorem dX11_isSheet_2 : decode cX11_isSheet 2 = .ok (.lconst 0, 1) := by decide +kernel
theorem dX11_isSheet_3 : decode cX11_isSheet 3 = .ok (.ldc2_w 251, 3) := by decide +kernel
theorem dX11_isSheet_6 : decode cX11_isSheet 6 = .ok (.invokestatic 120, 3) := by decide +kernel
theorem dX11_isSheet_9 : decode cX11_isSheet 9 = .ok (.ifCond .eq 19, 3) := by decide +kernel
theorem dX11_isSheet_12 : decode cX11_isSheet 12 = .ok (.iload_n 1, 1) := by decide +kernel
theorem dX11_isSheet_13 : decode cX11_isSheet 13 = .ok (.i2l, 1) := by decide +kernel
theorem dX11_isSheet_14 : decode cX11_isSheet 14 = .ok (.lconst 0, 1) := by decide +kernel
theorem dX11_isSheet_15 : decode cX11_isSheet 15 = .ok (.ldc2_w 226, 3) := by decide +kernel
theorem dX11_isSheet_18 : decode cX11_isSheet 18 = .ok (.invokestatic 120, 3) := by decide +kernel
theorem dX11_isSheet_21 : decode cX11_isSheet 21 = .ok (.ifCond .eq 7, 3) := by decide +kernel
theorem dX11_isSheet_24 : decode cX11_isSheet 24 = .ok (.iconst 1, 1) := by decide +kernel
theorem dX11_isSheet_25 : decode cX11_isSheet 25 = .ok (.goto 4, 3) := by decide +kernel
theorem dX11_isSheet_28 : decode cX11_isSheet 28 = .ok (.iconst 0, 1) := by decide +kernel
theorem dX11_isSheet_29 : decode cX11_isSheet 29 = .ok (.ireturn, 1) := by decide +kernel
theorem dX11_sheet_0 : decode cX11_sheet 0 = .ok (.iload_n 1, 1) := by decide +kernel
theorem dX11_sheet_1 : decode cX11_sheet 1 = .ok (.iload_n 2, 1) := by decide +kernel
theorem dX11_sheet_2 : decode cX11_sheet 2 = .ok (.invokestatic 365, 3) := by decide +kernel
theorem dX11_sheet_5 : decode cX11_sheet 5 = .ok (.ifCond .eq 9, 3) := by decide +kernel
theorem dX11_sheet_8 : decode cX11_sheet 8 = .ok (.iload_n 3, 1) := by decide +kernel
theorem dX11_sheet_9 : decode cX11_sheet 9 = .ok (.bipush 40, 2) := by decide +kernel
theorem dX11_sheet_11 : decode cX11_sheet 11 = .ok (.if_icmp .le 5, 3) := by decide +kernel
theorem dX11_sheet_14 : decode cX11_sheet 14 = .ok (.iconst (-1), 1) := by decide +kernel
theorem dX11_sheet_15 : decode cX11_sheet 15 = .ok (.ireturn, 1) := by decide +kernel
theorem dX11_sheet_16 : decode cX11_sheet 16 = .ok (.iload_n 3, 1) := by decide +kernel
theorem dX11_sheet_17 : decode cX11_sheet 17 = .ok (.ifCond .ge 6, 3) := by decide +kernel
theorem dX11_sheet_20 : decode cX11_sheet 20 = .ok (.bipush (-14), 2) := by decide +kernel
theorem dX11_sheet_22 : decode cX11_sheet 22 = .ok (.ireturn, 1) := by decide +kernel
theorem dX11_sheet_23 : decode cX11_sheet 23 = .ok (.aload_n 0, 1) := by decide +kernel
theorem dX11_sheet_24 : decode cX11_sheet 24 = .ok (.getfield 56, 3) := by decide +kernel
theorem dX11_sheet_27 : decode cX11_sheet 27 = .ok (.iload_n 1, 1) := by decide +kernel
theorem dX11_sheet_28 : decode cX11_sheet 28 = .ok (.iload_n 2, 1) := by decide +kernel
theorem dX11_sheet_29 : decode cX11_sheet 29 = .ok (.iastore, 1) := by decide +kernel
theorem dX11_sheet_30 : decode cX11_sheet 30 = .ok (.aload_n 0, 1) := by decide +kernel
theorem dX11_sheet_31 : decode cX11_sheet 31 = .ok (.getfield 59, 3) := by decide +kernel
theorem dX11_sheet_34 : decode cX11_sheet 34 = .ok (.iload_n 1, 1) := by decide +kernel
theorem dX11_sheet_35 : decode cX11_sheet 35 = .ok (.iload_n 3, 1) := by decide +kernel
theorem dX11_sheet_36 : decode cX11_sheet 36 = .ok (.iastore, 1) := by decide +kernel
theorem dX11_sheet_37 : decode cX11_sheet 37 = .ok (.iconst 0, 1) := by decide +kernel
theorem dX11_sheet_38 : decode cX11_sheet 38 = .ok (.istore 4, 2) := by decide +kernel
theorem dX11_sheet_40 : decode cX11_sheet 40 = .ok (.iload 4, 2) := by decide +kernel
theorem dX11_sheet_42 : decode cX11_sheet 42 = .ok (.bipush 40, 2) := by decide +kernel
theorem dX11_sheet_44 : decode cX11_sheet 44 = .ok (.if_icmp .ge 22, 3) := by decide +kernel
theorem dX11_sheet_47 : decode cX11_sheet 47 = .ok (.aload_n 0, 1) := by decide +kernel
theorem dX11_sheet_48 : decode cX11_sheet 48 = .ok (.getfield 62, 3) := by decide +kernel
theorem dX11_sheet_51 : decode cX11_sheet 51 = .ok (.bipush 40, 2) := by decide +kernel
theorem dX11_sheet_53 : decode cX11_sheet 53 = .ok (.iload_n 1, 1) := by decide +kernel
theorem dX11_sheet_54 : decode cX11_sheet 54 = .ok (.imul, 1) := by decide +kernel
theorem dX11_sheet_55 : decode cX11_sheet 55 = .ok (.iload 4, 2) := by decide +kernel
theorem dX11_sheet_57 : decode cX11_sheet 57 = .ok (.iadd, 1) := by decide +kernel
theorem dX11_sheet_58 : decode cX11_sheet 58 = .ok (.iconst 0, 1) := by decide +kernel
theorem dX11_sheet_59 : decode cX11_sheet 59 = .ok (.iastore, 1) := by decide +kernel
theorem dX11_sheet_60 : decode cX11_sheet 60 = .ok (.iinc 4 1, 3) := by decide +kernel
theorem dX11_sheet_63 : decode cX11_sheet 63 = .ok (.goto (-23), 3) := by decide +kernel
theorem dX11_sheet_66 : decode cX11_sheet 66 = .ok (.iconst 1, 1) := by decide +kernel
theorem dX11_sheet_67 : decode cX11_sheet 67 = .ok (.ireturn, 1) := by decide +kernel
theorem dX11_lay_0 : decode cX11_lay 0 = .ok (.iload_n 1, 1) := by decide +kernel
theorem dX11_lay_1 : decode cX11_lay 1 = .ok (.iconst 0, 1) := by decide +kernel
theorem dX11_lay_2 : decode cX11_lay 2 = .ok (.invokestatic 365, 3) := by decide +kernel
theorem dX11_lay_5 : decode cX11_lay 5 = .ok (.ifCond .ne 5, 3) := by decide +kernel
theorem dX11_lay_8 : decode cX11_lay 8 = .ok (.iconst (-1), 1) := by decide +kernel
theorem dX11_lay_9 : decode cX11_lay 9 = .ok (.ireturn, 1) := by decide +kernel
theorem dX11_lay_10 : decode cX11_lay 10 = .ok (.aload_n 0, 1) := by decide +kernel
theorem dX11_lay_11 : decode cX11_lay 11 = .ok (.getfield 56, 3) := by decide +kernel
theorem dX11_lay_14 : decode cX11_lay 14 = .ok (.iload_n 1, 1) := by decide +kernel
theorem dX11_lay_15 : decode cX11_lay 15 = .ok (.iaload, 1) := by decide +kernel
theorem dX11_lay_16 : decode cX11_lay 16 = .ok (.bipush (-4), 2) := by decide +kernel
theorem dX11_lay_18 : decode cX11_lay 18 = .ok (.if_icmp .ne 6, 3) := by decide +kernel
theorem dX11_lay_21 : decode cX11_lay 21 = .ok (.bipush (-11), 2) := by decide +kernel
theorem dX11_lay_23 : decode cX11_lay 23 = .ok (.ireturn, 1) := by decide +kernel
theorem dX11_lay_24 : decode cX11_lay 24 = .ok (.iload_n 2, 1) := by decide +kernel
theorem dX11_lay_25 : decode cX11_lay 25 = .ok (.i2l, 1) := by decide +kernel
theorem dX11_lay_26 : decode cX11_lay 26 = .ok (.lconst 0, 1) := by decide +kernel
theorem dX11_lay_27 : decode cX11_lay 27 = .ok (.aload_n 0, 1) := by decide +kernel
theorem dX11_lay_28 : decode cX11_lay 28 = .ok (.getfield 59, 3) := by decide +kernel
theorem dX11_lay_31 : decode cX11_lay 31 = .ok (.iload_n 1, 1) := by decide +kernel
theorem dX11_lay_32 : decode cX11_lay 32 = .ok (.iaload, 1) := by decide +kernel
theorem dX11_lay_33 : decode cX11_lay 33 = .ok (.iconst 1, 1) := by decide +kernel
theorem dX11_lay_34 : decode cX11_lay 34 = .ok (.isub, 1) := by decide +kernel
theorem dX11_lay_35 : decode cX11_lay 35 = .ok (.i2l, 1) := by decide +kernel
theorem dX11_lay_36 : decode cX11_lay 36 = .ok (.invokestatic 120, 3) := by decide +kernel
theorem dX11_lay_39 : decode cX11_lay 39 = .ok (.ifCond .ne 6, 3) := by decide +kernel
theorem dX11_lay_42 : decode cX11_lay 42 = .ok (.bipush (-12), 2) := by decide +kernel
theorem dX11_lay_44 : decode cX11_lay 44 = .ok (.ireturn, 1) := by decide +kernel
theorem dX11_lay_45 : decode cX11_lay 45 = .ok (.aload_n 0, 1) := by decide +kernel
theorem dX11_lay_46 : decode cX11_lay 46 = .ok (.getfield 62, 3) := by decide +kernel
theorem dX11_lay_49 : decode cX11_lay 49 = .ok (.bipush 40, 2) := by decide +kernel
theorem dX11_lay_51 : decode cX11_lay 51 = .ok (.iload_n 1, 1) := by decide +kernel
theorem dX11_lay_52 : decode cX11_lay 52 = .ok (.imul, 1) := by decide +kernel
theorem dX11_lay_53 : decode cX11_lay 53 = .ok (.iload_n 2, 1) := by decide +kernel
theorem dX11_lay_54 : decode cX11_lay 54 = .ok (.iadd, 1) := by decide +kernel
theorem dX11_lay_55 : decode cX11_lay 55 = .ok (.aload_n 0, 1) := by decide +kernel
theorem dX11_lay_56 : decode cX11_lay 56 = .ok (.getfield 56, 3) := by decide +kernel
theorem dX11_lay_59 : decode cX11_lay 59 = .ok (.iload_n 1, 1) := by decide +kernel
theorem dX11_lay_60 : decode cX11_lay 60 = .ok (.iaload, 1) := by decide +kernel
theorem dX11_lay_61 : decode cX11_lay 61 = .ok (.ifCond .ne 8, 3) := by decide +kernel
theorem dX11_lay_64 : decode cX11_lay 64 = .ok (.iload_n 3, 1) := by decide +kernel
theorem dX11_lay_65 : decode cX11_lay 65 = .ok (.i2b, 1) := by decide +kernel
theorem dX11_lay_66 : decode cX11_lay 66 = .ok (.goto 19, 3) := by decide +kernel
theorem dX11_lay_69 : decode cX11_lay 69 = .ok (.aload_n 0, 1) := by decide +kernel
theorem dX11_lay_70 : decode cX11_lay 70 = .ok (.getfield 56, 3) := by decide +kernel
theorem dX11_lay_73 : decode cX11_lay 73 = .ok (.iload_n 1, 1) := by decide +kernel
theorem dX11_lay_74 : decode cX11_lay 74 = .ok (.iaload, 1) := by decide +kernel
theorem dX11_lay_75 : decode cX11_lay 75 = .ok (.iconst 1, 1) := by decide +kernel
theorem dX11_lay_76 : decode cX11_lay 76 = .ok (.if_icmp .ne 8, 3) := by decide +kernel
theorem dX11_lay_79 : decode cX11_lay 79 = .ok (.iload_n 3, 1) := by decide +kernel
theorem dX11_lay_80 : decode cX11_lay 80 = .ok (.i2s, 1) := by decide +kernel
theorem dX11_lay_81 : decode cX11_lay 81 = .ok (.goto 4, 3) := by decide +kernel
theorem dX11_lay_84 : decode cX11_lay 84 = .ok (.iload_n 3, 1) := by decide +kernel
theorem dX11_lay_85 : decode cX11_lay 85 = .ok (.iastore, 1) := by decide +kernel
theorem dX11_lay_86 : decode cX11_lay 86 = .ok (.iconst 1, 1) := by decide +kernel
theorem dX11_lay_87 : decode cX11_lay 87 = .ok (.ireturn, 1) := by decide +kernel
theorem dX11_read_0 : decode cX11_read 0 = .ok (.iload_n 1, 1) := by decide +kernel
theorem dX11_read_1 : decode cX11_read 1 = .ok (.iload_n 2, 1) := by decide +kernel
theorem dX11_read_2 : decode cX11_read 2 = .ok (.invokestatic 365, 3) := by decide +kernel
theorem dX11_read_5 : decode cX11_read 5 = .ok (.ifCond .eq 16, 3) := by decide +kernel
theorem dX11_read_8 : decode cX11_read 8 = .ok (.iload 4, 2) := by decide +kernel
theorem dX11_read_10 : decode cX11_read 10 = .ok (.i2l, 1) := by decide +kernel
theorem dX11_read_11 : decode cX11_read 11 = .ok (.lconst 0, 1) := by decide +kernel
theorem dX11_read_12 : decode cX11_read 12 = .ok (.ldc2_w 356, 3) := by decide +kernel
theorem dX11_read_15 : decode cX11_read 15 = .ok (.invokestatic 120, 3) := by decide +kernel
theorem dX11_read_18 : decode cX11_read 18 = .ok (.ifCond .ne 5, 3) := by decide +kernel
theorem dX11_read_21 : decode cX11_read 21 = .ok (.iconst (-1), 1) := by decide +kernel
theorem dX11_read_22 : decode cX11_read 22 = .ok (.ireturn, 1) := by decide +kernel
theorem dX11_read_23 : decode cX11_read 23 = .ok (.aload_n 0, 1) := by decide +kernel
theorem dX11_read_24 : decode cX11_read 24 = .ok (.getfield 7, 3) := by decide +kernel
theorem dX11_read_27 : decode cX11_read 27 = .ok (.bipush 88, 2) := by decide +kernel
theorem dX11_read_29 : decode cX11_read 29 = .ok (.iaload, 1) := by decide +kernel
theorem dX11_read_30 : decode cX11_read 30 = .ok (.istore 5, 2) := by decide +kernel
theorem dX11_read_32 : decode cX11_read 32 = .ok (.iconst 0, 1) := by decide +kernel
theorem dX11_read_33 : decode cX11_read 33 = .ok (.istore 6, 2) := by decide +kernel
theorem dX11_read_35 : decode cX11_read 35 = .ok (.iconst 0, 1) := by decide +kernel
theorem dX11_read_36 : decode cX11_read 36 = .ok (.istore 7, 2) := by decide +kernel
theorem dX11_read_38 : decode cX11_read 38 = .ok (.iconst 0, 1) := by decide +kernel
theorem dX11_read_39 : decode cX11_read 39 = .ok (.istore 8, 2) := by decide +kernel
theorem dX11_read_41 : decode cX11_read 41 = .ok (.iload 8, 2) := by decide +kernel
theorem dX11_read_43 : decode cX11_read 43 = .ok (.iload 4, 2) := by decide +kernel
theorem dX11_read_45 : decode cX11_read 45 = .ok (.if_icmp .ge 172, 3) := by decide +kernel
theorem dX11_read_48 : decode cX11_read 48 = .ok (.iload 6, 2) := by decide +kernel
theorem dX11_read_50 : decode cX11_read 50 = .ok (.ifCond .ne 167, 3) := by decide +kernel
theorem dX11_read_53 : decode cX11_read 53 = .ok (.iconst 0, 1) := by decide +kernel
theorem dX11_read_54 : decode cX11_read 54 = .ok (.istore 9, 2) := by decide +kernel
theorem dX11_read_56 : decode cX11_read 56 = .ok (.iload 9, 2) := by decide +kernel
theorem dX11_read_58 : decode cX11_read 58 = .ok (.iconst 3, 1) := by decide +kernel
theorem dX11_read_59 : decode cX11_read 59 = .ok (.if_icmp .ge 84, 3) := by decide +kernel
theorem dX11_read_62 : decode cX11_read 62 = .ok (.iload 6, 2) := by decide +kernel
theorem dX11_read_64 : decode cX11_read 64 = .ok (.ifCond .ne 79, 3) := by decide +kernel
theorem dX11_read_67 : decode cX11_read 67 = .ok (.iload_n 3, 1) := by decide +kernel
theorem dX11_read_68 : decode cX11_read 68 = .ok (.i2l, 1) := by decide +kernel
theorem dX11_read_69 : decode cX11_read 69 = .ok (.iconst 3, 1) := by decide +kernel
theorem dX11_read_70 : decode cX11_read 70 = .ok (.iload 8, 2) := by decide +kernel
theorem dX11_read_72 : decode cX11_read 72 = .ok (.imul, 1) := by decide +kernel
theorem dX11_read_73 : decode cX11_read 73 = .ok (.i2l, 1) := by decide +kernel
theorem dX11_read_74 : decode cX11_read 74 = .ok (.ladd, 1) := by decide +kernel
theorem dX11_read_75 : decode cX11_read 75 = .ok (.iload 9, 2) := by decide +kernel
theorem dX11_read_77 : decode cX11_read 77 = .ok (.i2l, 1) := by decide +kernel
theorem dX11_read_78 : decode cX11_read 78 = .ok (.ladd, 1) := by decide +kernel
theorem dX11_read_79 : decode cX11_read 79 = .ok (.lstore 10, 2) := by decide +kernel
theorem dX11_read_81 : decode cX11_read 81 = .ok (.aload_n 0, 1) := by decide +kernel
theorem dX11_read_82 : decode cX11_read 82 = .ok (.getfield 56, 3) := by decide +kernel
theorem dX11_read_85 : decode cX11_read 85 = .ok (.iload_n 1, 1) := by decide +kernel
theorem dX11_read_86 : decode cX11_read 86 = .ok (.iaload, 1) := by decide +kernel
theorem dX11_read_87 : decode cX11_read 87 = .ok (.bipush (-4), 2) := by decide +kernel
theorem dX11_read_89 : decode cX11_read 89 = .ok (.if_icmp .ne 7, 3) := by decide +kernel
theorem dX11_read_92 : decode cX11_read 92 = .ok (.iconst 1, 1) := by decide +kernel
theorem dX11_read_93 : decode cX11_read 93 = .ok (.goto 42, 3) := by decide +kernel
theorem dX11_read_96 : decode cX11_read 96 = .ok (.aload_n 0, 1) := by decide +kernel
theorem dX11_read_97 : decode cX11_read 97 = .ok (.getfield 56, 3) := by decide +kernel
theorem dX11_read_100 : decode cX11_read 100 = .ok (.iload_n 1, 1) := by decide +kernel
theorem dX11_read_101 : decode cX11_read 101 = .ok (.iaload, 1) := by decide +kernel
theorem dX11_read_102 : decode cX11_read 102 = .ok (.iload_n 2, 1) := by decide +kernel
theorem dX11_read_103 : decode cX11_read 103 = .ok (.if_icmp .eq 7, 3) := by decide +kernel
theorem dX11_read_106 : decode cX11_read 106 = .ok (.iconst 3, 1) := by decide +kernel
theorem dX11_read_107 : decode cX11_read 107 = .ok (.goto 28, 3) := by decide +kernel
theorem dX11_read_110 : decode cX11_read 110 = .ok (.lload 10, 2) := by decide +kernel
theorem dX11_read_112 : decode cX11_read 112 = .ok (.lconst 0, 1) := by decide +kernel
theorem dX11_read_113 : decode cX11_read 113 = .ok (.lcmp, 1) := by decide +kernel
theorem dX11_read_114 : decode cX11_read 114 = .ok (.ifCond .lt 16, 3) := by decide +kernel
theorem dX11_read_117 : decode cX11_read 117 = .ok (.lload 10, 2) := by decide +kernel
theorem dX11_read_119 : decode cX11_read 119 = .ok (.aload_n 0, 1) := by decide +kernel
theorem dX11_read_120 : decode cX11_read 120 = .ok (.getfield 59, 3) := by decide +kernel
theorem dX11_read_123 : decode cX11_read 123 = .ok (.iload_n 1, 1) := by decide +kernel
theorem dX11_read_124 : decode cX11_read 124 = .ok (.iaload, 1) := by decide +kernel
theorem dX11_read_125 : decode cX11_read 125 = .ok (.i2l, 1) := by decide +kernel
theorem dX11_read_126 : decode cX11_read 126 = .ok (.lcmp, 1) := by decide +kernel
theorem dX11_read_127 : decode cX11_read 127 = .ok (.ifCond .lt 7, 3) := by decide +kernel
theorem dX11_read_130 : decode cX11_read 130 = .ok (.iconst 2, 1) := by decide +kernel
theorem dX11_read_131 : decode cX11_read 131 = .ok (.goto 4, 3) := by decide +kernel
theorem dX11_read_134 : decode cX11_read 134 = .ok (.iconst 0, 1) := by decide +kernel
theorem dX11_read_135 : decode cX11_read 135 = .ok (.istore 6, 2) := by decide +kernel
theorem dX11_read_137 : decode cX11_read 137 = .ok (.iinc 9 1, 3) := by decide +kernel
theorem dX11_read_140 : decode cX11_read 140 = .ok (.goto (-84), 3) := by decide +kernel
theorem dX11_read_143 : decode cX11_read 143 = .ok (.iload 6, 2) := by decide +kernel
theorem dX11_read_145 : decode cX11_read 145 = .ok (.ifCond .ne 66, 3) := by decide +kernel
theorem dX11_read_148 : decode cX11_read 148 = .ok (.bipush 40, 2) := by decide +kernel
theorem dX11_read_150 : decode cX11_read 150 = .ok (.iload_n 1, 1) := by decide +kernel
theorem dX11_read_151 : decode cX11_read 151 = .ok (.imul, 1) := by decide +kernel
theorem dX11_read_152 : decode cX11_read 152 = .ok (.iload_n 3, 1) := by decide +kernel
theorem dX11_read_153 : decode cX11_read 153 = .ok (.iadd, 1) := by decide +kernel
theorem dX11_read_154 : decode cX11_read 154 = .ok (.iconst 3, 1) := by decide +kernel
theorem dX11_read_155 : decode cX11_read 155 = .ok (.iload 8, 2) := by decide +kernel
theorem dX11_read_157 : decode cX11_read 157 = .ok (.imul, 1) := by decide +kernel
theorem dX11_read_158 : decode cX11_read 158 = .ok (.iadd, 1) := by decide +kernel
theorem dX11_read_159 : decode cX11_read 159 = .ok (.istore 9, 2) := by decide +kernel
theorem dX11_read_161 : decode cX11_read 161 = .ok (.aload_n 0, 1) := by decide +kernel
theorem dX11_read_162 : decode cX11_read 162 = .ok (.aload_n 0, 1) := by decide +kernel
theorem dX11_read_163 : decode cX11_read 163 = .ok (.getfield 62, 3) := by decide +kernel
theorem dX11_read_166 : decode cX11_read 166 = .ok (.iload 9, 2) := by decide +kernel
theorem dX11_read_168 : decode cX11_read 168 = .ok (.iaload, 1) := by decide +kernel
theorem dX11_read_169 : decode cX11_read 169 = .ok (.aload_n 0, 1) := by decide +kernel
theorem dX11_read_170 : decode cX11_read 170 = .ok (.getfield 62, 3) := by decide +kernel
theorem dX11_read_173 : decode cX11_read 173 = .ok (.iload 9, 2) := by decide +kernel
theorem dX11_read_175 : decode cX11_read 175 = .ok (.iconst 1, 1) := by decide +kernel
theorem dX11_read_176 : decode cX11_read 176 = .ok (.iadd, 1) := by decide +kernel
theorem dX11_read_177 : decode cX11_read 177 = .ok (.iaload, 1) := by decide +kernel
theorem dX11_read_178 : decode cX11_read 178 = .ok (.aload_n 0, 1) := by decide +kernel
theorem dX11_read_179 : decode cX11_read 179 = .ok (.getfield 62, 3) := by decide +kernel
theorem dX11_read_182 : decode cX11_read 182 = .ok (.iload 9, 2) := by decide +kernel
theorem dX11_read_184 : decode cX11_read 184 = .ok (.iconst 2, 1) := by decide +kernel
theorem dX11_read_185 : decode cX11_read 185 = .ok (.iadd, 1) := by decide +kernel
theorem dX11_read_186 : decode cX11_read 186 = .ok (.iaload, 1) := by decide +kernel
theorem dX11_read_187 : decode cX11_read 187 = .ok (.invokevirtual 368, 3) := by decide +kernel
theorem dX11_read_190 : decode cX11_read 190 = .ok (.ifCond .ge 18, 3) := by decide +kernel
theorem dX11_read_193 : decode cX11_read 193 = .ok (.aload_n 0, 1) := by decide +kernel
theorem dX11_read_194 : decode cX11_read 194 = .ok (.getfield 7, 3) := by decide +kernel
theorem dX11_read_197 : decode cX11_read 197 = .ok (.bipush 88, 2) := by decide +kernel
theorem dX11_read_199 : decode cX11_read 199 = .ok (.iload 5, 2) := by decide +kernel
theorem dX11_read_201 : decode cX11_read 201 = .ok (.iastore, 1) := by decide +kernel
theorem dX11_read_202 : decode cX11_read 202 = .ok (.bipush (-20), 2) := by decide +kernel
theorem dX11_read_204 : decode cX11_read 204 = .ok (.iload 8, 2) := by decide +kernel
theorem dX11_read_206 : decode cX11_read 206 = .ok (.isub, 1) := by decide +kernel
theorem dX11_read_207 : decode cX11_read 207 = .ok (.ireturn, 1) := by decide +kernel
theorem dX11_read_208 : decode cX11_read 208 = .ok (.iinc 7 1, 3) := by decide +kernel
theorem dX11_read_211 : decode cX11_read 211 = .ok (.iinc 8 1, 3) := by decide +kernel
theorem dX11_read_214 : decode cX11_read 214 = .ok (.goto (-173), 3) := by decide +kernel
theorem dX11_read_217 : decode cX11_read 217 = .ok (.aload_n 0, 1) := by decide +kernel
theorem dX11_read_218 : decode cX11_read 218 = .ok (.iload 6, 2) := by decide +kernel
theorem dX11_read_220 : decode cX11_read 220 = .ok (.putfield 372, 3) := by decide +kernel
theorem dX11_read_223 : decode cX11_read 223 = .ok (.iload 7, 2) := by decide +kernel
theorem dX11_read_225 : decode cX11_read 225 = .ok (.ireturn, 1) := by decide +kernel
theorem dX11_torn_0 : decode cX11_torn 0 = .ok (.aload_n 0, 1) := by decide +kernel
theorem dX11_torn_1 : decode cX11_torn 1 = .ok (.getfield 372, 3) := by decide +kernel
theorem dX11_torn_4 : decode cX11_torn 4 = .ok (.ireturn, 1) := by decide +kernel
theorem dX11_count_0 : decode cX11_count 0 = .ok (.iconst 0, 1) := by decide +kernel
theorem dX11_count_1 : decode cX11_count 1 = .ok (.istore_n 2, 1) := by decide +kernel
theorem dX11_count_2 : decode cX11_count 2 = .ok (.iconst 0, 1) := by decide +kernel
theorem dX11_count_3 : decode cX11_count 3 = .ok (.istore_n 3, 1) := by decide +kernel
theorem dX11_count_4 : decode cX11_count 4 = .ok (.iload_n 3, 1) := by decide +kernel
theorem dX11_count_5 : decode cX11_count 5 = .ok (.bipush 81, 2) := by decide +kernel
theorem dX11_count_7 : decode cX11_count 7 = .ok (.if_icmp .ge 29, 3) := by decide +kernel
theorem dX11_count_10 : decode cX11_count 10 = .ok (.iload_n 2, 1) := by decide +kernel
theorem dX11_count_11 : decode cX11_count 11 = .ok (.aload_n 0, 1) := by decide +kernel
theorem dX11_count_12 : decode cX11_count 12 = .ok (.getfield 7, 3) := by decide +kernel
theorem dX11_count_15 : decode cX11_count 15 = .ok (.iload_n 3, 1) := by decide +kernel
theorem dX11_count_16 : decode cX11_count 16 = .ok (.iaload, 1) := by decide +kernel
theorem dX11_count_17 : decode cX11_count 17 = .ok (.ifCond .le 7, 3) := by decide +kernel
theorem dX11_count_20 : decode cX11_count 20 = .ok (.iconst 1, 1) := by decide +kernel
theorem dX11_count_21 : decode cX11_count 21 = .ok (.goto 4, 3) := by decide +kernel
theorem dX11_count_24 : decode cX11_count 24 = .ok (.iconst 0, 1) := by decide +kernel
theorem dX11_count_25 : decode cX11_count 25 = .ok (.invokestatic 195, 3) := by decide +kernel
theorem dX11_count_28 : decode cX11_count 28 = .ok (.iadd, 1) := by decide +kernel
theorem dX11_count_29 : decode cX11_count 29 = .ok (.istore_n 2, 1) := by decide +kernel
theorem dX11_count_30 : decode cX11_count 30 = .ok (.iinc 3 1, 3) := by decide +kernel
theorem dX11_count_33 : decode cX11_count 33 = .ok (.goto (-29), 3) := by decide +kernel
theorem dX11_count_36 : decode cX11_count 36 = .ok (.iload_n 1, 1) := by decide +kernel
theorem dX11_count_37 : decode cX11_count 37 = .ok (.tableswitch 120 0 7 #[47, 52, 57, 59, 64, 72, 92, 97], 47) := by decide +kernel
theorem dX11_count_84 : decode cX11_count 84 = .ok (.aload_n 0, 1) := by decide +kernel
theorem dX11_count_85 : decode cX11_count 85 = .ok (.getfield 102, 3) := by decide +kernel
theorem dX11_count_88 : decode cX11_count 88 = .ok (.ireturn, 1) := by decide +kernel
theorem dX11_count_89 : decode cX11_count 89 = .ok (.aload_n 0, 1) := by decide +kernel
theorem dX11_count_90 : decode cX11_count 90 = .ok (.getfield 109, 3) := by decide +kernel
theorem dX11_count_93 : decode cX11_count 93 = .ok (.ireturn, 1) := by decide +kernel
theorem dX11_count_94 : decode cX11_count 94 = .ok (.iload_n 2, 1) := by decide +kernel
theorem dX11_count_95 : decode cX11_count 95 = .ok (.ireturn, 1) := by decide +kernel
theorem dX11_count_96 : decode cX11_count 96 = .ok (.aload_n 0, 1) := by decide +kernel
theorem dX11_count_97 : decode cX11_count 97 = .ok (.getfield 112, 3) := by decide +kernel
theorem dX11_count_100 : decode cX11_count 100 = .ok (.ireturn, 1) := by decide +kernel
theorem dX11_count_101 : decode cX11_count 101 = .ok (.aload_n 0, 1) := by decide +kernel
theorem dX11_count_102 : decode cX11_count 102 = .ok (.getfield 7, 3) := by decide +kernel
theorem dX11_count_105 : decode cX11_count 105 = .ok (.bipush 88, 2) := by decide +kernel
theorem dX11_count_107 : decode cX11_count 107 = .ok (.iaload, 1) := by decide +kernel
theorem dX11_count_108 : decode cX11_count 108 = .ok (.ireturn, 1) := by decide +kernel
theorem dX11_count_109 : decode cX11_count 109 = .ok (.aload_n 0, 1) := by decide +kernel
theorem dX11_count_110 : decode cX11_count 110 = .ok (.getfield 13, 3) := by decide +kernel
theorem dX11_count_113 : decode cX11_count 113 = .ok (.iconst 0, 1) := by decide +kernel
theorem dX11_count_114 : decode cX11_count 114 = .ok (.baload, 1) := by decide +kernel
theorem dX11_count_115 : decode cX11_count 115 = .ok (.invokestatic 195, 3) := by decide +kernel
theorem dX11_count_118 : decode cX11_count 118 = .ok (.aload_n 0, 1) := by decide +kernel
theorem dX11_count_119 : decode cX11_count 119 = .ok (.getfield 13, 3) := by decide +kernel
theorem dX11_count_122 : decode cX11_count 122 = .ok (.iconst 1, 1) := by decide +kernel
theorem dX11_count_123 : decode cX11_count 123 = .ok (.baload, 1) := by decide +kernel
theorem dX11_count_124 : decode cX11_count 124 = .ok (.invokestatic 195, 3) := by decide +kernel
theorem dX11_count_127 : decode cX11_count 127 = .ok (.iadd, 1) := by decide +kernel
theorem dX11_count_128 : decode cX11_count 128 = .ok (.ireturn, 1) := by decide +kernel
theorem dX11_count_129 : decode cX11_count 129 = .ok (.aload_n 0, 1) := by decide +kernel
theorem dX11_count_130 : decode cX11_count 130 = .ok (.getfield 115, 3) := by decide +kernel
theorem dX11_count_133 : decode cX11_count 133 = .ok (.ireturn, 1) := by decide +kernel
theorem dX11_count_134 : decode cX11_count 134 = .ok (.aload_n 0, 1) := by decide +kernel
theorem dX11_count_135 : decode cX11_count 135 = .ok (.getfield 56, 3) := by decide +kernel
theorem dX11_count_138 : decode cX11_count 138 = .ok (.iconst 0, 1) := by decide +kernel
theorem dX11_count_139 : decode cX11_count 139 = .ok (.iaload, 1) := by decide +kernel
theorem dX11_count_140 : decode cX11_count 140 = .ok (.bipush (-4), 2) := by decide +kernel
theorem dX11_count_142 : decode cX11_count 142 = .ok (.if_icmp .ne 8, 3) := by decide +kernel
theorem dX11_count_145 : decode cX11_count 145 = .ok (.bipush (-4), 2) := by decide +kernel
theorem dX11_count_147 : decode cX11_count 147 = .ok (.goto 9, 3) := by decide +kernel
theorem dX11_count_150 : decode cX11_count 150 = .ok (.aload_n 0, 1) := by decide +kernel
theorem dX11_count_151 : decode cX11_count 151 = .ok (.getfield 59, 3) := by decide +kernel
theorem dX11_count_154 : decode cX11_count 154 = .ok (.iconst 0, 1) := by decide +kernel
theorem dX11_count_155 : decode cX11_count 155 = .ok (.iaload, 1) := by decide +kernel
theorem dX11_count_156 : decode cX11_count 156 = .ok (.ireturn, 1) := by decide +kernel
theorem dX11_count_157 : decode cX11_count 157 = .ok (.iconst (-1), 1) := by decide +kernel
theorem dX11_count_158 : decode cX11_count 158 = .ok (.ireturn, 1) := by decide +kernel
theorem dJ6_bitCount_0f7a4_0 : decode cJ6_bitCount_0f7a4 0 = .ok (.iload_n 0, 1) := by decide +kernel
theorem dJ6_bitCount_0f7a4_1 : decode cJ6_bitCount_0f7a4 1 = .ok (.iload_n 0, 1) := by decide +kernel
theorem dJ6_bitCount_0f7a4_2 : decode cJ6_bitCount_0f7a4 2 = .ok (.iconst 1, 1) := by decide +kernel
theorem dJ6_bitCount_0f7a4_3 : decode cJ6_bitCount_0f7a4 3 = .ok (.iushr, 1) := by decide +kernel
theorem dJ6_bitCount_0f7a4_4 : decode cJ6_bitCount_0f7a4 4 = .ok (.ldc_w 265, 3) := by decide +kernel
theorem dJ6_bitCount_0f7a4_7 : decode cJ6_bitCount_0f7a4 7 = .ok (.iand, 1) := by decide +kernel
theorem dJ6_bitCount_0f7a4_8 : decode cJ6_bitCount_0f7a4 8 = .ok (.isub, 1) := by decide +kernel
theorem dJ6_bitCount_0f7a4_9 : decode cJ6_bitCount_0f7a4 9 = .ok (.istore_n 0, 1) := by decide +kernel
theorem dJ6_bitCount_0f7a4_10 : decode cJ6_bitCount_0f7a4 10 = .ok (.iload_n 0, 1) := by decide +kernel
theorem dJ6_bitCount_0f7a4_11 : decode cJ6_bitCount_0f7a4 11 = .ok (.ldc_w 266, 3) := by decide +kernel
theorem dJ6_bitCount_0f7a4_14 : decode cJ6_bitCount_0f7a4 14 = .ok (.iand, 1) := by decide +kernel
theorem dJ6_bitCount_0f7a4_15 : decode cJ6_bitCount_0f7a4 15 = .ok (.iload_n 0, 1) := by decide +kernel
theorem dJ6_bitCount_0f7a4_16 : decode cJ6_bitCount_0f7a4 16 = .ok (.iconst 2, 1) := by decide +kernel
theorem dJ6_bitCount_0f7a4_17 : decode cJ6_bitCount_0f7a4 17 = .ok (.iushr, 1) := by decide +kernel
theorem dJ6_bitCount_0f7a4_18 : decode cJ6_bitCount_0f7a4 18 = .ok (.ldc_w 266, 3) := by decide +kernel
theorem dJ6_bitCount_0f7a4_21 : decode cJ6_bitCount_0f7a4 21 = .ok (.iand, 1) := by decide +kernel
theorem dJ6_bitCount_0f7a4_22 : decode cJ6_bitCount_0f7a4 22 = .ok (.iadd, 1) := by decide +kernel
theorem dJ6_bitCount_0f7a4_23 : decode cJ6_bitCount_0f7a4 23 = .ok (.istore_n 0, 1) := by decide +kernel
theorem dJ6_bitCount_0f7a4_24 : decode cJ6_bitCount_0f7a4 24 = .ok (.iload_n 0, 1) := by decide +kernel
theorem dJ6_bitCount_0f7a4_25 : decode cJ6_bitCount_0f7a4 25 = .ok (.iload_n 0, 1) := by decide +kernel
theorem dJ6_bitCount_0f7a4_26 : decode cJ6_bitCount_0f7a4 26 = .ok (.iconst 4, 1) := by decide +kernel
theorem dJ6_bitCount_0f7a4_27 : decode cJ6_bitCount_0f7a4 27 = .ok (.iushr, 1) := by decide +kernel
theorem dJ6_bitCount_0f7a4_28 : decode cJ6_bitCount_0f7a4 28 = .ok (.iadd, 1) := by decide +kernel
theorem dJ6_bitCount_0f7a4_29 : decode cJ6_bitCount_0f7a4 29 = .ok (.ldc_w 267, 3) := by decide +kernel
theorem dJ6_bitCount_0f7a4_32 : decode cJ6_bitCount_0f7a4 32 = .ok (.iand, 1) := by decide +kernel
theorem dJ6_bitCount_0f7a4_33 : decode cJ6_bitCount_0f7a4 33 = .ok (.istore_n 0, 1) := by decide +kernel
theorem dJ6_bitCount_0f7a4_34 : decode cJ6_bitCount_0f7a4 34 = .ok (.iload_n 0, 1) := by decide +kernel
theorem dJ6_bitCount_0f7a4_35 : decode cJ6_bitCount_0f7a4 35 = .ok (.iload_n 0, 1) := by decide +kernel
theorem dJ6_bitCount_0f7a4_36 : decode cJ6_bitCount_0f7a4 36 = .ok (.bipush 8, 2) := by decide +kernel
theorem dJ6_bitCount_0f7a4_38 : decode cJ6_bitCount_0f7a4 38 = .ok (.iushr, 1) := by decide +kernel
theorem dJ6_bitCount_0f7a4_39 : decode cJ6_bitCount_0f7a4 39 = .ok (.iadd, 1) := by decide +kernel
theorem dJ6_bitCount_0f7a4_40 : decode cJ6_bitCount_0f7a4 40 = .ok (.istore_n 0, 1) := by decide +kernel
theorem dJ6_bitCount_0f7a4_41 : decode cJ6_bitCount_0f7a4 41 = .ok (.iload_n 0, 1) := by decide +kernel
theorem dJ6_bitCount_0f7a4_42 : decode cJ6_bitCount_0f7a4 42 = .ok (.iload_n 0, 1) := by decide +kernel
theorem dJ6_bitCount_0f7a4_43 : decode cJ6_bitCount_0f7a4 43 = .ok (.bipush 16, 2) := by decide +kernel
theorem dJ6_bitCount_0f7a4_45 : decode cJ6_bitCount_0f7a4 45 = .ok (.iushr, 1) := by decide +kernel
theorem dJ6_bitCount_0f7a4_46 : decode cJ6_bitCount_0f7a4 46 = .ok (.iadd, 1) := by decide +kernel
theorem dJ6_bitCount_0f7a4_47 : decode cJ6_bitCount_0f7a4 47 = .ok (.istore_n 0, 1) := by decide +kernel
theorem dJ6_bitCount_0f7a4_48 : decode cJ6_bitCount_0f7a4 48 = .ok (.iload_n 0, 1) := by decide +kernel
theorem dJ6_bitCount_0f7a4_49 : decode cJ6_bitCount_0f7a4 49 = .ok (.bipush 63, 2) := by decide +kernel
theorem dJ6_bitCount_0f7a4_51 : decode cJ6_bitCount_0f7a4 51 = .ok (.iand, 1) := by decide +kernel
theorem dJ6_bitCount_0f7a4_52 : decode cJ6_bitCount_0f7a4 52 = .ok (.ireturn, 1) := by decide +kernel
theorem dJ9_max_7cf53_0 : decode cJ9_max_7cf53 0 = .ok (.iload_n 0, 1) := by decide +kernel
theorem dJ9_max_7cf53_1 : decode cJ9_max_7cf53 1 = .ok (.iload_n 1, 1) := by decide +kernel
theorem dJ9_max_7cf53_2 : decode cJ9_max_7cf53 2 = .ok (.if_icmp .lt 7, 3) := by decide +kernel
theorem dJ9_max_7cf53_5 : decode cJ9_max_7cf53 5 = .ok (.iload_n 0, 1) := by decide +kernel
theorem dJ9_max_7cf53_6 : decode cJ9_max_7cf53 6 = .ok (.goto 4, 3) := by decide +kernel
theorem dJ9_max_7cf53_9 : decode cJ9_max_7cf53 9 = .ok (.iload_n 1, 1) := by decide +kernel
theorem dJ9_max_7cf53_10 : decode cJ9_max_7cf53 10 = .ok (.ireturn, 1) := by decide +kernel
theorem dJ9_min_7cf53_0 : decode cJ9_min_7cf53 0 = .ok (.iload_n 0, 1) := by decide +kernel
theorem dJ9_min_7cf53_1 : decode cJ9_min_7cf53 1 = .ok (.iload_n 1, 1) := by decide +kernel
theorem dJ9_min_7cf53_2 : decode cJ9_min_7cf53 2 = .ok (.if_icmp .gt 7, 3) := by decide +kernel
theorem dJ9_min_7cf53_5 : decode cJ9_min_7cf53 5 = .ok (.iload_n 0, 1) := by decide +kernel
theorem dJ9_min_7cf53_6 : decode cJ9_min_7cf53 6 = .ok (.goto 4, 3) := by decide +kernel
theorem dJ9_min_7cf53_9 : decode cJ9_min_7cf53 9 = .ok (.iload_n 1, 1) := by decide +kernel
theorem dJ9_min_7cf53_10 : decode cJ9_min_7cf53 10 = .ok (.ireturn, 1) := by decide +kernel
theorem dJ0_length_8abf5_0 : decode cJ0_length_8abf5 0 = .ok (.aload_n 0, 1) := by decide +kernel
theorem dJ0_length_8abf5_1 : decode cJ0_length_8abf5 1 = .ok (.getfield 9, 3) := by decide +kernel
theorem dJ0_length_8abf5_4 : decode cJ0_length_8abf5 4 = .ok (.arraylength, 1) := by decide +kernel
theorem dJ0_length_8abf5_5 : decode cJ0_length_8abf5 5 = .ok (.aload_n 0, 1) := by decide +kernel
theorem dJ0_length_8abf5_6 : decode cJ0_length_8abf5 6 = .ok (.invokevirtual 335, 3) := by decide +kernel
theorem dJ0_length_8abf5_9 : decode cJ0_length_8abf5 9 = .ok (.ishr, 1) := by decide +kernel
theorem dJ0_length_8abf5_10 : decode cJ0_length_8abf5 10 = .ok (.ireturn, 1) := by decide +kernel
theorem dJ0_charAt_5068e_0 : decode cJ0_charAt_5068e 0 = .ok (.aload_n 0, 1) := by decide +kernel
theorem dJ0_charAt_5068e_1 : decode cJ0_charAt_5068e 1 = .ok (.invokevirtual 492, 3) := by decide +kernel
theorem dJ0_charAt_5068e_4 : decode cJ0_charAt_5068e 4 = .ok (.ifCond .eq 12, 3) := by decide +kernel
theorem dJ0_charAt_5068e_7 : decode cJ0_charAt_5068e 7 = .ok (.aload_n 0, 1) := by decide +kernel
theorem dJ0_charAt_5068e_8 : decode cJ0_charAt_5068e 8 = .ok (.getfield 9, 3) := by decide +kernel
theorem dJ0_charAt_5068e_11 : decode cJ0_charAt_5068e 11 = .ok (.iload_n 1, 1) := by decide +kernel
theorem dJ0_charAt_5068e_12 : decode cJ0_charAt_5068e 12 = .ok (.invokestatic 495, 3) := by decide +kernel
theorem dJ0_charAt_5068e_15 : decode cJ0_charAt_5068e 15 = .ok (.ireturn, 1) := by decide +kernel
theorem dJ0_charAt_5068e_16 : decode cJ0_charAt_5068e 16 = .ok (.aload_n 0, 1) := by decide +kernel
theorem dJ0_charAt_5068e_17 : decode cJ0_charAt_5068e 17 = .ok (.getfield 9, 3) := by decide +kernel
theorem dJ0_charAt_5068e_20 : decode cJ0_charAt_5068e 20 = .ok (.iload_n 1, 1) := by decide +kernel
theorem dJ0_charAt_5068e_21 : decode cJ0_charAt_5068e 21 = .ok (.invokestatic 498, 3) := by decide +kernel
theorem dJ0_charAt_5068e_24 : decode cJ0_charAt_5068e 24 = .ok (.ireturn, 1) := by decide +kernel
theorem dJ0_coder_7d493_0 : decode cJ0_coder_7d493 0 = .ok (.getstatic 38, 3) := by decide +kernel
theorem dJ0_coder_7d493_3 : decode cJ0_coder_7d493 3 = .ok (.ifCond .eq 10, 3) := by decide +kernel
theorem dJ0_coder_7d493_6 : decode cJ0_coder_7d493 6 = .ok (.aload_n 0, 1) := by decide +kernel
theorem dJ0_coder_7d493_7 : decode cJ0_coder_7d493 7 = .ok (.getfield 15, 3) := by decide +kernel
theorem dJ0_coder_7d493_10 : decode cJ0_coder_7d493 10 = .ok (.goto 4, 3) := by decide +kernel
theorem dJ0_coder_7d493_13 : decode cJ0_coder_7d493 13 = .ok (.iconst 1, 1) := by decide +kernel
theorem dJ0_coder_7d493_14 : decode cJ0_coder_7d493 14 = .ok (.ireturn, 1) := by decide +kernel
theorem dJ0_isLatin1_aae02_0 : decode cJ0_isLatin1_aae02 0 = .ok (.getstatic 38, 3) := by decide +kernel
theorem dJ0_isLatin1_aae02_3 : decode cJ0_isLatin1_aae02 3 = .ok (.ifCond .eq 14, 3) := by decide +kernel
theorem dJ0_isLatin1_aae02_6 : decode cJ0_isLatin1_aae02 6 = .ok (.aload_n 0, 1) := by decide +kernel
theorem dJ0_isLatin1_aae02_7 : decode cJ0_isLatin1_aae02 7 = .ok (.getfield 15, 3) := by decide +kernel
theorem dJ0_isLatin1_aae02_10 : decode cJ0_isLatin1_aae02 10 = .ok (.ifCond .ne 7, 3) := by decide +kernel
theorem dJ0_isLatin1_aae02_13 : decode cJ0_isLatin1_aae02 13 = .ok (.iconst 1, 1) := by decide +kernel
theorem dJ0_isLatin1_aae02_14 : decode cJ0_isLatin1_aae02 14 = .ok (.goto 4, 3) := by decide +kernel
theorem dJ0_isLatin1_aae02_17 : decode cJ0_isLatin1_aae02 17 = .ok (.iconst 0, 1) := by decide +kernel
theorem dJ0_isLatin1_aae02_18 : decode cJ0_isLatin1_aae02 18 = .ok (.ireturn, 1) := by decide +kernel
theorem dJ0_checkIndex_df160_0 : decode cJ0_checkIndex_df160 0 = .ok (.iload_n 0, 1) := by decide +kernel
theorem dJ0_checkIndex_df160_1 : decode cJ0_checkIndex_df160 1 = .ok (.iload_n 1, 1) := by decide +kernel
theorem dJ0_checkIndex_df160_2 : decode cJ0_checkIndex_df160 2 = .ok (.getstatic 1053, 3) := by decide +kernel
theorem dJ0_checkIndex_df160_5 : decode cJ0_checkIndex_df160 5 = .ok (.invokestatic 1059, 3) := by decide +kernel
theorem dJ0_checkIndex_df160_8 : decode cJ0_checkIndex_df160 8 = .ok (.pop, 1) := by decide +kernel
theorem dJ0_checkIndex_df160_9 : decode cJ0_checkIndex_df160 9 = .ok (.return_, 1) := by decide +kernel
theorem dJ1_charAt_3b067_0 : decode cJ1_charAt_3b067 0 = .ok (.iload_n 1, 1) := by decide +kernel
theorem dJ1_charAt_3b067_1 : decode cJ1_charAt_3b067 1 = .ok (.aload_n 0, 1) := by decide +kernel
theorem dJ1_charAt_3b067_2 : decode cJ1_charAt_3b067 2 = .ok (.arraylength, 1) := by decide +kernel
theorem dJ1_charAt_3b067_3 : decode cJ1_charAt_3b067 3 = .ok (.invokestatic 9, 3) := by decide +kernel
theorem dJ1_charAt_3b067_6 : decode cJ1_charAt_3b067 6 = .ok (.aload_n 0, 1) := by decide +kernel
theorem dJ1_charAt_3b067_7 : decode cJ1_charAt_3b067 7 = .ok (.iload_n 1, 1) := by decide +kernel
theorem dJ1_charAt_3b067_8 : decode cJ1_charAt_3b067 8 = .ok (.baload, 1) := by decide +kernel
theorem dJ1_charAt_3b067_9 : decode cJ1_charAt_3b067 9 = .ok (.sipush 255, 3) := by decide +kernel
theorem dJ1_charAt_3b067_12 : decode cJ1_charAt_3b067 12 = .ok (.iand, 1) := by decide +kernel
theorem dJ1_charAt_3b067_13 : decode cJ1_charAt_3b067 13 = .ok (.i2c, 1) := by decide +kernel
theorem dJ1_charAt_3b067_14 : decode cJ1_charAt_3b067 14 = .ok (.ireturn, 1) := by decide +kernel
theorem dJ2_getChar_3b067_0 : decode cJ2_getChar_3b067 0 = .ok (.getstatic 44, 3) := by decide +kernel
theorem dJ2_getChar_3b067_3 : decode cJ2_getChar_3b067 3 = .ok (.ifCond .ne 25, 3) := by decide +kernel
theorem dJ2_getChar_3b067_6 : decode cJ2_getChar_3b067 6 = .ok (.iload_n 1, 1) := by decide +kernel
theorem dJ2_getChar_3b067_7 : decode cJ2_getChar_3b067 7 = .ok (.ifCond .lt 11, 3) := by decide +kernel
theorem dJ2_getChar_3b067_10 : decode cJ2_getChar_3b067 10 = .ok (.iload_n 1, 1) := by decide +kernel
theorem dJ2_getChar_3b067_11 : decode cJ2_getChar_3b067 11 = .ok (.aload_n 0, 1) := by decide +kernel
theorem dJ2_getChar_3b067_12 : decode cJ2_getChar_3b067 12 = .ok (.invokestatic 48, 3) := by decide +kernel
theorem dJ2_getChar_3b067_15 : decode cJ2_getChar_3b067 15 = .ok (.if_icmp .lt 13, 3) := by decide +kernel
theorem dJ2_getChar_3b067_18 : decode cJ2_getChar_3b067 18 = .ok (.new 52, 3) := by decide +kernel
theorem dJ2_getChar_3b067_21 : decode cJ2_getChar_3b067 21 = .ok (.dup, 1) := by decide +kernel
theorem dJ2_getChar_3b067_22 : decode cJ2_getChar_3b067 22 = .ok (.ldc 54, 2) := by decide +kernel
theorem dJ2_getChar_3b067_24 : decode cJ2_getChar_3b067 24 = .ok (.invokespecial 56, 3) := by decide +kernel
theorem dJ2_getChar_3b067_27 : decode cJ2_getChar_3b067 27 = .ok (.athrow, 1) := by decide +kernel
theorem dJ2_getChar_3b067_28 : decode cJ2_getChar_3b067 28 = .ok (.iload_n 1, 1) := by decide +kernel
theorem dJ2_getChar_3b067_29 : decode cJ2_getChar_3b067 29 = .ok (.iconst 1, 1) := by decide +kernel
theorem dJ2_getChar_3b067_30 : decode cJ2_getChar_3b067 30 = .ok (.ishl, 1) := by decide +kernel
theorem dJ2_getChar_3b067_31 : decode cJ2_getChar_3b067 31 = .ok (.istore_n 1, 1) := by decide +kernel
theorem dJ2_getChar_3b067_32 : decode cJ2_getChar_3b067 32 = .ok (.aload_n 0, 1) := by decide +kernel
theorem dJ2_getChar_3b067_33 : decode cJ2_getChar_3b067 33 = .ok (.iload_n 1, 1) := by decide +kernel
theorem dJ2_getChar_3b067_34 : decode cJ2_getChar_3b067 34 = .ok (.iinc 1 1, 3) := by decide +kernel
theorem dJ2_getChar_3b067_37 : decode cJ2_getChar_3b067 37 = .ok (.baload, 1) := by decide +kernel
theorem dJ2_getChar_3b067_38 : decode cJ2_getChar_3b067 38 = .ok (.sipush 255, 3) := by decide +kernel
theorem dJ2_getChar_3b067_41 : decode cJ2_getChar_3b067 41 = .ok (.iand, 1) := by decide +kernel
theorem dJ2_getChar_3b067_42 : decode cJ2_getChar_3b067 42 = .ok (.getstatic 59, 3) := by decide +kernel
theorem dJ2_getChar_3b067_45 : decode cJ2_getChar_3b067 45 = .ok (.ishl, 1) := by decide +kernel
theorem dJ2_getChar_3b067_46 : decode cJ2_getChar_3b067 46 = .ok (.aload_n 0, 1) := by decide +kernel
theorem dJ2_getChar_3b067_47 : decode cJ2_getChar_3b067 47 = .ok (.iload_n 1, 1) := by decide +kernel
theorem dJ2_getChar_3b067_48 : decode cJ2_getChar_3b067 48 = .ok (.baload, 1) := by decide +kernel
theorem dJ2_getChar_3b067_49 : decode cJ2_getChar_3b067 49 = .ok (.sipush 255, 3) := by decide +kernel
theorem dJ2_getChar_3b067_52 : decode cJ2_getChar_3b067 52 = .ok (.iand, 1) := by decide +kernel
theorem dJ2_getChar_3b067_53 : decode cJ2_getChar_3b067 53 = .ok (.getstatic 63, 3) := by decide +kernel
theorem dJ2_getChar_3b067_56 : decode cJ2_getChar_3b067 56 = .ok (.ishl, 1) := by decide +kernel
theorem dJ2_getChar_3b067_57 : decode cJ2_getChar_3b067 57 = .ok (.ior, 1) := by decide +kernel
theorem dJ2_getChar_3b067_58 : decode cJ2_getChar_3b067 58 = .ok (.i2c, 1) := by decide +kernel
theorem dJ2_getChar_3b067_59 : decode cJ2_getChar_3b067 59 = .ok (.ireturn, 1) := by decide +kernel
theorem dJ2_length_9d52b_0 : decode cJ2_length_9d52b 0 = .ok (.aload_n 0, 1) := by decide +kernel
theorem dJ2_length_9d52b_1 : decode cJ2_length_9d52b 1 = .ok (.arraylength, 1) := by decide +kernel
theorem dJ2_length_9d52b_2 : decode cJ2_length_9d52b 2 = .ok (.iconst 1, 1) := by decide +kernel
theorem dJ2_length_9d52b_3 : decode cJ2_length_9d52b 3 = .ok (.ishr, 1) := by decide +kernel
theorem dJ2_length_9d52b_4 : decode cJ2_length_9d52b 4 = .ok (.ireturn, 1) := by decide +kernel
theorem dJ2_charAt_3b067_0 : decode cJ2_charAt_3b067 0 = .ok (.iload_n 1, 1) := by decide +kernel
theorem dJ2_charAt_3b067_1 : decode cJ2_charAt_3b067 1 = .ok (.aload_n 0, 1) := by decide +kernel
theorem dJ2_charAt_3b067_2 : decode cJ2_charAt_3b067 2 = .ok (.invokestatic 67, 3) := by decide +kernel
theorem dJ2_charAt_3b067_5 : decode cJ2_charAt_3b067 5 = .ok (.aload_n 0, 1) := by decide +kernel
theorem dJ2_charAt_3b067_6 : decode cJ2_charAt_3b067 6 = .ok (.iload_n 1, 1) := by decide +kernel
theorem dJ2_charAt_3b067_7 : decode cJ2_charAt_3b067 7 = .ok (.invokestatic 71, 3) := by decide +kernel
theorem dJ2_charAt_3b067_10 : decode cJ2_charAt_3b067 10 = .ok (.ireturn, 1) := by decide +kernel
theorem dJ2_checkIndex_2214a_0 : decode cJ2_checkIndex_2214a 0 = .ok (.iload_n 0, 1) := by decide +kernel
theorem dJ2_checkIndex_2214a_1 : decode cJ2_checkIndex_2214a 1 = .ok (.aload_n 1, 1) := by decide +kernel
theorem dJ2_checkIndex_2214a_2 : decode cJ2_checkIndex_2214a 2 = .ok (.invokestatic 48, 3) := by decide +kernel
theorem dJ2_checkIndex_2214a_5 : decode cJ2_checkIndex_2214a 5 = .ok (.invokestatic 414, 3) := by decide +kernel
theorem dJ2_checkIndex_2214a_8 : decode cJ2_checkIndex_2214a 8 = .ok (.return_, 1) := by decide +kernel
theorem dJ7_fill_53178_0 : decode cJ7_fill_53178 0 = .ok (.iconst 0, 1) := by decide +kernel
theorem dJ7_fill_53178_1 : decode cJ7_fill_53178 1 = .ok (.istore_n 2, 1) := by decide +kernel
theorem dJ7_fill_53178_2 : decode cJ7_fill_53178 2 = .ok (.aload_n 0, 1) := by decide +kernel
theorem dJ7_fill_53178_3 : decode cJ7_fill_53178 3 = .ok (.arraylength, 1) := by decide +kernel
theorem dJ7_fill_53178_4 : decode cJ7_fill_53178 4 = .ok (.istore_n 3, 1) := by decide +kernel
theorem dJ7_fill_53178_5 : decode cJ7_fill_53178 5 = .ok (.iload_n 2, 1) := by decide +kernel
theorem dJ7_fill_53178_6 : decode cJ7_fill_53178 6 = .ok (.iload_n 3, 1) := by decide +kernel
theorem dJ7_fill_53178_7 : decode cJ7_fill_53178 7 = .ok (.if_icmp .ge 13, 3) := by decide +kernel
theorem dJ7_fill_53178_10 : decode cJ7_fill_53178 10 = .ok (.aload_n 0, 1) := by decide +kernel
theorem dJ7_fill_53178_11 : decode cJ7_fill_53178 11 = .ok (.iload_n 2, 1) := by decide +kernel
theorem dJ7_fill_53178_12 : decode cJ7_fill_53178 12 = .ok (.iload_n 1, 1) := by decide +kernel
theorem dJ7_fill_53178_13 : decode cJ7_fill_53178 13 = .ok (.iastore, 1) := by decide +kernel
theorem dJ7_fill_53178_14 : decode cJ7_fill_53178 14 = .ok (.iinc 2 1, 3) := by decide +kernel
theorem dJ7_fill_53178_17 : decode cJ7_fill_53178 17 = .ok (.goto (-12), 3) := by decide +kernel
theorem dJ7_fill_53178_20 : decode cJ7_fill_53178 20 = .ok (.return_, 1) := by decide +kernel
theorem dJ3_checkIndex_8e157_0 : decode cJ3_checkIndex_8e157 0 = .ok (.iload_n 0, 1) := by decide +kernel
theorem dJ3_checkIndex_8e157_1 : decode cJ3_checkIndex_8e157 1 = .ok (.ifCond .lt 8, 3) := by decide +kernel
theorem dJ3_checkIndex_8e157_4 : decode cJ3_checkIndex_8e157 4 = .ok (.iload_n 0, 1) := by decide +kernel
theorem dJ3_checkIndex_8e157_5 : decode cJ3_checkIndex_8e157 5 = .ok (.iload_n 1, 1) := by decide +kernel
theorem dJ3_checkIndex_8e157_6 : decode cJ3_checkIndex_8e157 6 = .ok (.if_icmp .lt 10, 3) := by decide +kernel
theorem dJ3_checkIndex_8e157_9 : decode cJ3_checkIndex_8e157 9 = .ok (.aload_n 2, 1) := by decide +kernel
theorem dJ3_checkIndex_8e157_10 : decode cJ3_checkIndex_8e157 10 = .ok (.iload_n 0, 1) := by decide +kernel
theorem dJ3_checkIndex_8e157_11 : decode cJ3_checkIndex_8e157 11 = .ok (.iload_n 1, 1) := by decide +kernel
theorem dJ3_checkIndex_8e157_12 : decode cJ3_checkIndex_8e157 12 = .ok (.invokestatic 95, 3) := by decide +kernel
theorem dJ3_checkIndex_8e157_15 : decode cJ3_checkIndex_8e157 15 = .ok (.athrow, 1) := by decide +kernel
theorem dJ3_checkIndex_8e157_16 : decode cJ3_checkIndex_8e157 16 = .ok (.iload_n 0, 1) := by decide +kernel
theorem dJ3_checkIndex_8e157_17 : decode cJ3_checkIndex_8e157 17 = .ok (.ireturn, 1) := by decide +kernel
theorem dL_law_0 : decode cL_law 0 = .ok (.new 7, 3) := by decide +kernel
theorem dL_law_3 : decode cL_law 3 = .ok (.dup, 1) := by decide +kernel
theorem dL_law_4 : decode cL_law 4 = .ok (.invokespecial 9, 3) := by decide +kernel
theorem dL_law_7 : decode cL_law 7 = .ok (.astore_n 1, 1) := by decide +kernel
theorem dL_law_8 : decode cL_law 8 = .ok (.new 10, 3) := by decide +kernel
theorem dL_law_11 : decode cL_law 11 = .ok (.dup, 1) := by decide +kernel
theorem dL_law_12 : decode cL_law 12 = .ok (.invokespecial 12, 3) := by decide +kernel
theorem dL_law_15 : decode cL_law 15 = .ok (.astore_n 2, 1) := by decide +kernel
theorem dL_law_16 : decode cL_law 16 = .ok (.iconst 0, 1) := by decide +kernel
theorem dL_law_17 : decode cL_law 17 = .ok (.istore_n 3, 1) := by decide +kernel
theorem dL_law_18 : decode cL_law 18 = .ok (.iload_n 3, 1) := by decide +kernel
theorem dL_law_19 : decode cL_law 19 = .ok (.aload_n 0, 1) := by decide +kernel
theorem dL_law_20 : decode cL_law 20 = .ok (.arraylength, 1) := by decide +kernel
theorem dL_law_21 : decode cL_law 21 = .ok (.iconst 5, 1) := by decide +kernel
theorem dL_law_22 : decode cL_law 22 = .ok (.isub, 1) := by decide +kernel
theorem dL_law_23 : decode cL_law 23 = .ok (.if_icmp .gt 1528, 3) := by decide +kernel
theorem dL_law_26 : decode cL_law 26 = .ok (.aload_n 0, 1) := by decide +kernel
theorem dL_law_27 : decode cL_law 27 = .ok (.iload_n 3, 1) := by decide +kernel
theorem dL_law_28 : decode cL_law 28 = .ok (.iaload, 1) := by decide +kernel
theorem dL_law_29 : decode cL_law 29 = .ok (.bipush 63, 2) := by decide +kernel
theorem dL_law_31 : decode cL_law 31 = .ok (.iand, 1) := by decide +kernel
theorem dL_law_32 : decode cL_law 32 = .ok (.tableswitch 1513 0 40 #[180, 233, 256, 269, 282, 305, 328, 371, 404, 437, 460, 493, 536, 569, 622, 655, 688, 731, 754, 787, 820, 853, 866, 909, 942, 985, 1008, 1041, 1074, 1107, 1150, 1173, 1216, 1249, 1292, 1315, 1338, 1381, 1424, 1477, 1490], 180) := by decide +kernel
theorem dL_law_212 : decode cL_law 212 = .ok (.aload_n 1, 1) := by decide +kernel
theorem dL_law_213 : decode cL_law 213 = .ok (.aload_n 0, 1) := by decide +kernel
theorem dL_law_214 : decode cL_law 214 = .ok (.iload_n 3, 1) := by decide +kernel
theorem dL_law_215 : decode cL_law 215 = .ok (.iconst 1, 1) := by decide +kernel
theorem dL_law_216 : decode cL_law 216 = .ok (.iadd, 1) := by decide +kernel
theorem dL_law_217 : decode cL_law 217 = .ok (.iaload, 1) := by decide +kernel
theorem dL_law_218 : decode cL_law 218 = .ok (.i2l, 1) := by decide +kernel
theorem dL_law_219 : decode cL_law 219 = .ok (.bipush 32, 2) := by decide +kernel
theorem dL_law_221 : decode cL_law 221 = .ok (.lshl, 1) := by decide +kernel
theorem dL_law_222 : decode cL_law 222 = .ok (.aload_n 0, 1) := by decide +kernel
theorem dL_law_223 : decode cL_law 223 = .ok (.iload_n 3, 1) := by decide +kernel
theorem dL_law_224 : decode cL_law 224 = .ok (.iconst 2, 1) := by decide +kernel
theorem dL_law_225 : decode cL_law 225 = .ok (.iadd, 1) := by decide +kernel
theorem dL_law_226 : decode cL_law 226 = .ok (.iaload, 1) := by decide +kernel
theorem dL_law_227 : decode cL_law 227 = .ok (.i2l, 1) := by decide +kernel
theorem dL_law_228 : decode cL_law 228 = .ok (.ldc2_w 13, 3) := by decide +kernel
theorem dL_law_231 : decode cL_law 231 = .ok (.land, 1) := by decide +kernel
theorem dL_law_232 : decode cL_law 232 = .ok (.lor, 1) := by decide +kernel
theorem dL_law_233 : decode cL_law 233 = .ok (.invokevirtual 15, 3) := by decide +kernel
theorem dL_law_236 : decode cL_law 236 = .ok (.aload_n 2, 1) := by decide +kernel
theorem dL_law_237 : decode cL_law 237 = .ok (.aload_n 0, 1) := by decide +kernel
theorem dL_law_238 : decode cL_law 238 = .ok (.iload_n 3, 1) := by decide +kernel
theorem dL_law_239 : decode cL_law 239 = .ok (.iconst 1, 1) := by decide +kernel
theorem dL_law_240 : decode cL_law 240 = .ok (.iadd, 1) := by decide +kernel
theorem dL_law_241 : decode cL_law 241 = .ok (.iaload, 1) := by decide +kernel
theorem dL_law_242 : decode cL_law 242 = .ok (.i2l, 1) := by decide +kernel
theorem dL_law_243 : decode cL_law 243 = .ok (.bipush 32, 2) := by decide +kernel
theorem dL_law_245 : decode cL_law 245 = .ok (.lshl, 1) := by decide +kernel
theorem dL_law_246 : decode cL_law 246 = .ok (.aload_n 0, 1) := by decide +kernel
theorem dL_law_247 : decode cL_law 247 = .ok (.iload_n 3, 1) := by decide +kernel
theorem dL_law_248 : decode cL_law 248 = .ok (.iconst 2, 1) := by decide +kernel
theorem dL_law_249 : decode cL_law 249 = .ok (.iadd, 1) := by decide +kernel
theorem dL_law_250 : decode cL_law 250 = .ok (.iaload, 1) := by decide +kernel
theorem dL_law_251 : decode cL_law 251 = .ok (.i2l, 1) := by decide +kernel
theorem dL_law_252 : decode cL_law 252 = .ok (.ldc2_w 13, 3) := by decide +kernel
theorem dL_law_255 : decode cL_law 255 = .ok (.land, 1) := by decide +kernel
theorem dL_law_256 : decode cL_law 256 = .ok (.lor, 1) := by decide +kernel
theorem dL_law_257 : decode cL_law 257 = .ok (.invokevirtual 19, 3) := by decide +kernel
theorem dL_law_260 : decode cL_law 260 = .ok (.if_icmp .eq 1285, 3) := by decide +kernel
theorem dL_law_263 : decode cL_law 263 = .ok (.iconst 0, 1) := by decide +kernel
theorem dL_law_264 : decode cL_law 264 = .ok (.ireturn, 1) := by decide +kernel
theorem dL_law_265 : decode cL_law 265 = .ok (.aload_n 1, 1) := by decide +kernel
theorem dL_law_266 : decode cL_law 266 = .ok (.aload_n 0, 1) := by decide +kernel
theorem dL_law_267 : decode cL_law 267 = .ok (.iload_n 3, 1) := by decide +kernel
theorem dL_law_268 : decode cL_law 268 = .ok (.iconst 1, 1) := by decide +kernel
theorem dL_law_269 : decode cL_law 269 = .ok (.iadd, 1) := by decide +kernel
theorem dL_law_270 : decode cL_law 270 = .ok (.iaload, 1) := by decide +kernel
theorem dL_law_271 : decode cL_law 271 = .ok (.invokevirtual 20, 3) := by decide +kernel
theorem dL_law_274 : decode cL_law 274 = .ok (.aload_n 2, 1) := by decide +kernel
theorem dL_law_275 : decode cL_law 275 = .ok (.aload_n 0, 1) := by decide +kernel
theorem dL_law_276 : decode cL_law 276 = .ok (.iload_n 3, 1) := by decide +kernel
theorem dL_law_277 : decode cL_law 277 = .ok (.iconst 1, 1) := by decide +kernel
theorem dL_law_278 : decode cL_law 278 = .ok (.iadd, 1) := by decide +kernel
theorem dL_law_279 : decode cL_law 279 = .ok (.iaload, 1) := by decide +kernel
theorem dL_law_280 : decode cL_law 280 = .ok (.invokevirtual 24, 3) := by decide +kernel
theorem dL_law_283 : decode cL_law 283 = .ok (.if_icmp .eq 1262, 3) := by decide +kernel
theorem dL_law_286 : decode cL_law 286 = .ok (.iconst 0, 1) := by decide +kernel
theorem dL_law_287 : decode cL_law 287 = .ok (.ireturn, 1) := by decide +kernel
theorem dL_law_288 : decode cL_law 288 = .ok (.aload_n 1, 1) := by decide +kernel
theorem dL_law_289 : decode cL_law 289 = .ok (.invokevirtual 25, 3) := by decide +kernel
theorem dL_law_292 : decode cL_law 292 = .ok (.aload_n 2, 1) := by decide +kernel
theorem dL_law_293 : decode cL_law 293 = .ok (.invokevirtual 29, 3) := by decide +kernel
theorem dL_law_296 : decode cL_law 296 = .ok (.if_icmp .eq 1249, 3) := by decide +kernel
theorem dL_law_299 : decode cL_law 299 = .ok (.iconst 0, 1) := by decide +kernel
theorem dL_law_300 : decode cL_law 300 = .ok (.ireturn, 1) := by decide +kernel
theorem dL_law_301 : decode cL_law 301 = .ok (.aload_n 1, 1) := by decide +kernel
theorem dL_law_302 : decode cL_law 302 = .ok (.invokevirtual 30, 3) := by decide +kernel
theorem dL_law_305 : decode cL_law 305 = .ok (.aload_n 2, 1) := by decide +kernel
theorem dL_law_306 : decode cL_law 306 = .ok (.invokevirtual 33, 3) := by decide +kernel
theorem dL_law_309 : decode cL_law 309 = .ok (.if_icmp .eq 1236, 3) := by decide +kernel
theorem dL_law_312 : decode cL_law 312 = .ok (.iconst 0, 1) := by decide +kernel
theorem dL_law_313 : decode cL_law 313 = .ok (.ireturn, 1) := by decide +kernel
theorem dL_law_314 : decode cL_law 314 = .ok (.aload_n 1, 1) := by decide +kernel
theorem dL_law_315 : decode cL_law 315 = .ok (.aload_n 0, 1) := by decide +kernel
theorem dL_law_316 : decode cL_law 316 = .ok (.iload_n 3, 1) := by decide +kernel
theorem dL_law_317 : decode cL_law 317 = .ok (.iconst 1, 1) := by decide +kernel
theorem dL_law_318 : decode cL_law 318 = .ok (.iadd, 1) := by decide +kernel
theorem dL_law_319 : decode cL_law 319 = .ok (.iaload, 1) := by decide +kernel
theorem dL_law_320 : decode cL_law 320 = .ok (.invokevirtual 34, 3) := by decide +kernel
theorem dL_law_323 : decode cL_law 323 = .ok (.aload_n 2, 1) := by decide +kernel
theorem dL_law_324 : decode cL_law 324 = .ok (.aload_n 0, 1) := by decide +kernel
theorem dL_law_325 : decode cL_law 325 = .ok (.iload_n 3, 1) := by decide +kernel
theorem dL_law_326 : decode cL_law 326 = .ok (.iconst 1, 1) := by decide +kernel
theorem dL_law_327 : decode cL_law 327 = .ok (.iadd, 1) := by decide +kernel
theorem dL_law_328 : decode cL_law 328 = .ok (.iaload, 1) := by decide +kernel
theorem dL_law_329 : decode cL_law 329 = .ok (.invokevirtual 37, 3) := by decide +kernel
theorem dL_law_332 : decode cL_law 332 = .ok (.if_icmp .eq 1213, 3) := by decide +kernel
theorem dL_law_335 : decode cL_law 335 = .ok (.iconst 0, 1) := by decide +kernel
theorem dL_law_336 : decode cL_law 336 = .ok (.ireturn, 1) := by decide +kernel
theorem dL_law_337 : decode cL_law 337 = .ok (.aload_n 1, 1) := by decide +kernel
theorem dL_law_338 : decode cL_law 338 = .ok (.aload_n 0, 1) := by decide +kernel
theorem dL_law_339 : decode cL_law 339 = .ok (.iload_n 3, 1) := by decide +kernel
theorem dL_law_340 : decode cL_law 340 = .ok (.iconst 1, 1) := by decide +kernel
theorem dL_law_341 : decode cL_law 341 = .ok (.iadd, 1) := by decide +kernel
theorem dL_law_342 : decode cL_law 342 = .ok (.iaload, 1) := by decide +kernel
theorem dL_law_343 : decode cL_law 343 = .ok (.invokevirtual 38, 3) := by decide +kernel
theorem dL_law_346 : decode cL_law 346 = .ok (.aload_n 2, 1) := by decide +kernel
theorem dL_law_347 : decode cL_law 347 = .ok (.aload_n 0, 1) := by decide +kernel
theorem dL_law_348 : decode cL_law 348 = .ok (.iload_n 3, 1) := by decide +kernel
theorem dL_law_349 : decode cL_law 349 = .ok (.iconst 1, 1) := by decide +kernel
theorem dL_law_350 : decode cL_law 350 = .ok (.iadd, 1) := by decide +kernel
theorem dL_law_351 : decode cL_law 351 = .ok (.iaload, 1) := by decide +kernel
theorem dL_law_352 : decode cL_law 352 = .ok (.invokevirtual 41, 3) := by decide +kernel
theorem dL_law_355 : decode cL_law 355 = .ok (.if_icmp .eq 1190, 3) := by decide +kernel
theorem dL_law_358 : decode cL_law 358 = .ok (.iconst 0, 1) := by decide +kernel
theorem dL_law_359 : decode cL_law 359 = .ok (.ireturn, 1) := by decide +kernel
theorem dL_law_360 : decode cL_law 360 = .ok (.aload_n 1, 1) := by decide +kernel
theorem dL_law_361 : decode cL_law 361 = .ok (.aload_n 0, 1) := by decide +kernel
theorem dL_law_362 : decode cL_law 362 = .ok (.iload_n 3, 1) := by decide +kernel
theorem dL_law_363 : decode cL_law 363 = .ok (.iconst 1, 1) := by decide +kernel
theorem dL_law_364 : decode cL_law 364 = .ok (.iadd, 1) := by decide +kernel
theorem dL_law_365 : decode cL_law 365 = .ok (.iaload, 1) := by decide +kernel
theorem dL_law_366 : decode cL_law 366 = .ok (.aload_n 0, 1) := by decide +kernel
theorem dL_law_367 : decode cL_law 367 = .ok (.iload_n 3, 1) := by decide +kernel
theorem dL_law_368 : decode cL_law 368 = .ok (.iconst 2, 1) := by decide +kernel
theorem dL_law_369 : decode cL_law 369 = .ok (.iadd, 1) := by decide +kernel
theorem dL_law_370 : decode cL_law 370 = .ok (.iaload, 1) := by decide +kernel
theorem dL_law_371 : decode cL_law 371 = .ok (.aload_n 0, 1) := by decide +kernel
theorem dL_law_372 : decode cL_law 372 = .ok (.iload_n 3, 1) := by decide +kernel
theorem dL_law_373 : decode cL_law 373 = .ok (.iconst 3, 1) := by decide +kernel
theorem dL_law_374 : decode cL_law 374 = .ok (.iadd, 1) := by decide +kernel
theorem dL_law_375 : decode cL_law 375 = .ok (.iaload, 1) := by decide +kernel
theorem dL_law_376 : decode cL_law 376 = .ok (.invokevirtual 42, 3) := by decide +kernel
theorem dL_law_379 : decode cL_law 379 = .ok (.aload_n 2, 1) := by decide +kernel
theorem dL_law_380 : decode cL_law 380 = .ok (.aload_n 0, 1) := by decide +kernel
theorem dL_law_381 : decode cL_law 381 = .ok (.iload_n 3, 1) := by decide +kernel
theorem dL_law_382 : decode cL_law 382 = .ok (.iconst 1, 1) := by decide +kernel
theorem dL_law_383 : decode cL_law 383 = .ok (.iadd, 1) := by decide +kernel
theorem dL_law_384 : decode cL_law 384 = .ok (.iaload, 1) := by decide +kernel
theorem dL_law_385 : decode cL_law 385 = .ok (.aload_n 0, 1) := by decide +kernel
theorem dL_law_386 : decode cL_law 386 = .ok (.iload_n 3, 1) := by decide +kernel
theorem dL_law_387 : decode cL_law 387 = .ok (.iconst 2, 1) := by decide +kernel
theorem dL_law_388 : decode cL_law 388 = .ok (.iadd, 1) := by decide +kernel
theorem dL_law_389 : decode cL_law 389 = .ok (.iaload, 1) := by decide +kernel
theorem dL_law_390 : decode cL_law 390 = .ok (.aload_n 0, 1) := by decide +kernel
theorem dL_law_391 : decode cL_law 391 = .ok (.iload_n 3, 1) := by decide +kernel
theorem dL_law_392 : decode cL_law 392 = .ok (.iconst 3, 1) := by decide +kernel
theorem dL_law_393 : decode cL_law 393 = .ok (.iadd, 1) := by decide +kernel
theorem dL_law_394 : decode cL_law 394 = .ok (.iaload, 1) := by decide +kernel
theorem dL_law_395 : decode cL_law 395 = .ok (.invokevirtual 46, 3) := by decide +kernel
theorem dL_law_398 : decode cL_law 398 = .ok (.if_icmp .eq 1147, 3) := by decide +kernel
theorem dL_law_401 : decode cL_law 401 = .ok (.iconst 0, 1) := by decide +kernel
theorem dL_law_402 : decode cL_law 402 = .ok (.ireturn, 1) := by decide +kernel
theorem dL_law_403 : decode cL_law 403 = .ok (.aload_n 1, 1) := by decide +kernel
theorem dL_law_404 : decode cL_law 404 = .ok (.aload_n 0, 1) := by decide +kernel
theorem dL_law_405 : decode cL_law 405 = .ok (.iload_n 3, 1) := by decide +kernel
theorem dL_law_406 : decode cL_law 406 = .ok (.iconst 1, 1) := by decide +kernel
theorem dL_law_407 : decode cL_law 407 = .ok (.iadd, 1) := by decide +kernel
theorem dL_law_408 : decode cL_law 408 = .ok (.iaload, 1) := by decide +kernel
theorem dL_law_409 : decode cL_law 409 = .ok (.aload_n 0, 1) := by decide +kernel
theorem dL_law_410 : decode cL_law 410 = .ok (.iload_n 3, 1) := by decide +kernel
theorem dL_law_411 : decode cL_law 411 = .ok (.iconst 2, 1) := by decide +kernel
theorem dL_law_412 : decode cL_law 412 = .ok (.iadd, 1) := by decide +kernel
theorem dL_law_413 : decode cL_law 413 = .ok (.iaload, 1) := by decide +kernel
theorem dL_law_414 : decode cL_law 414 = .ok (.invokevirtual 47, 3) := by decide +kernel
theorem dL_law_417 : decode cL_law 417 = .ok (.aload_n 2, 1) := by decide +kernel
theorem dL_law_418 : decode cL_law 418 = .ok (.aload_n 0, 1) := by decide +kernel
theorem dL_law_419 : decode cL_law 419 = .ok (.iload_n 3, 1) := by decide +kernel
theorem dL_law_420 : decode cL_law 420 = .ok (.iconst 1, 1) := by decide +kernel
theorem dL_law_421 : decode cL_law 421 = .ok (.iadd, 1) := by decide +kernel
theorem dL_law_422 : decode cL_law 422 = .ok (.iaload, 1) := by decide +kernel
theorem dL_law_423 : decode cL_law 423 = .ok (.aload_n 0, 1) := by decide +kernel
theorem dL_law_424 : decode cL_law 424 = .ok (.iload_n 3, 1) := by decide +kernel
theorem dL_law_425 : decode cL_law 425 = .ok (.iconst 2, 1) := by decide +kernel
theorem dL_law_426 : decode cL_law 426 = .ok (.iadd, 1) := by decide +kernel
theorem dL_law_427 : decode cL_law 427 = .ok (.iaload, 1) := by decide +kernel
theorem dL_law_428 : decode cL_law 428 = .ok (.invokevirtual 51, 3) := by decide +kernel
theorem dL_law_431 : decode cL_law 431 = .ok (.if_icmp .eq 1114, 3) := by decide +kernel
theorem dL_law_434 : decode cL_law 434 = .ok (.iconst 0, 1) := by decide +kernel
theorem dL_law_435 : decode cL_law 435 = .ok (.ireturn, 1) := by decide +kernel
theorem dL_law_436 : decode cL_law 436 = .ok (.aload_n 1, 1) := by decide +kernel
theorem dL_law_437 : decode cL_law 437 = .ok (.aload_n 0, 1) := by decide +kernel
theorem dL_law_438 : decode cL_law 438 = .ok (.iload_n 3, 1) := by decide +kernel
theorem dL_law_439 : decode cL_law 439 = .ok (.iconst 1, 1) := by decide +kernel
theorem dL_law_440 : decode cL_law 440 = .ok (.iadd, 1) := by decide +kernel
theorem dL_law_441 : decode cL_law 441 = .ok (.iaload, 1) := by decide +kernel
theorem dL_law_442 : decode cL_law 442 = .ok (.aload_n 0, 1) := by decide +kernel
theorem dL_law_443 : decode cL_law 443 = .ok (.iload_n 3, 1) := by decide +kernel
theorem dL_law_444 : decode cL_law 444 = .ok (.iconst 2, 1) := by decide +kernel
theorem dL_law_445 : decode cL_law 445 = .ok (.iadd, 1) := by decide +kernel
theorem dL_law_446 : decode cL_law 446 = .ok (.iaload, 1) := by decide +kernel
theorem dL_law_447 : decode cL_law 447 = .ok (.invokevirtual 52, 3) := by decide +kernel
theorem dL_law_450 : decode cL_law 450 = .ok (.aload_n 2, 1) := by decide +kernel
theorem dL_law_451 : decode cL_law 451 = .ok (.aload_n 0, 1) := by decide +kernel
theorem dL_law_452 : decode cL_law 452 = .ok (.iload_n 3, 1) := by decide +kernel
theorem dL_law_453 : decode cL_law 453 = .ok (.iconst 1, 1) := by decide +kernel
theorem dL_law_454 : decode cL_law 454 = .ok (.iadd, 1) := by decide +kernel
theorem dL_law_455 : decode cL_law 455 = .ok (.iaload, 1) := by decide +kernel
theorem dL_law_456 : decode cL_law 456 = .ok (.aload_n 0, 1) := by decide +kernel
theorem dL_law_457 : decode cL_law 457 = .ok (.iload_n 3, 1) := by decide +kernel
theorem dL_law_458 : decode cL_law 458 = .ok (.iconst 2, 1) := by decide +kernel
theorem dL_law_459 : decode cL_law 459 = .ok (.iadd, 1) := by decide +kernel
theorem dL_law_460 : decode cL_law 460 = .ok (.iaload, 1) := by decide +kernel
theorem dL_law_461 : decode cL_law 461 = .ok (.invokevirtual 55, 3) := by decide +kernel
theorem dL_law_464 : decode cL_law 464 = .ok (.if_icmp .eq 1081, 3) := by decide +kernel
theorem dL_law_467 : decode cL_law 467 = .ok (.iconst 0, 1) := by decide +kernel
theorem dL_law_468 : decode cL_law 468 = .ok (.ireturn, 1) := by decide +kernel
theorem dL_law_469 : decode cL_law 469 = .ok (.aload_n 1, 1) := by decide +kernel
theorem dL_law_470 : decode cL_law 470 = .ok (.aload_n 0, 1) := by decide +kernel
theorem dL_law_471 : decode cL_law 471 = .ok (.iload_n 3, 1) := by decide +kernel
theorem dL_law_472 : decode cL_law 472 = .ok (.iconst 1, 1) := by decide +kernel
theorem dL_law_473 : decode cL_law 473 = .ok (.iadd, 1) := by decide +kernel
theorem dL_law_474 : decode cL_law 474 = .ok (.iaload, 1) := by decide +kernel
theorem dL_law_475 : decode cL_law 475 = .ok (.invokevirtual 56, 3) := by decide +kernel
theorem dL_law_478 : decode cL_law 478 = .ok (.aload_n 2, 1) := by decide +kernel
theorem dL_law_479 : decode cL_law 479 = .ok (.aload_n 0, 1) := by decide +kernel
theorem dL_law_480 : decode cL_law 480 = .ok (.iload_n 3, 1) := by decide +kernel
theorem dL_law_481 : decode cL_law 481 = .ok (.iconst 1, 1) := by decide +kernel
theorem dL_law_482 : decode cL_law 482 = .ok (.iadd, 1) := by decide +kernel
theorem dL_law_483 : decode cL_law 483 = .ok (.iaload, 1) := by decide +kernel
theorem dL_law_484 : decode cL_law 484 = .ok (.invokevirtual 59, 3) := by decide +kernel
theorem dL_law_487 : decode cL_law 487 = .ok (.if_icmp .eq 1058, 3) := by decide +kernel
theorem dL_law_490 : decode cL_law 490 = .ok (.iconst 0, 1) := by decide +kernel
theorem dL_law_491 : decode cL_law 491 = .ok (.ireturn, 1) := by decide +kernel
theorem dL_law_492 : decode cL_law 492 = .ok (.aload_n 1, 1) := by decide +kernel
theorem dL_law_493 : decode cL_law 493 = .ok (.aload_n 0, 1) := by decide +kernel
theorem dL_law_494 : decode cL_law 494 = .ok (.iload_n 3, 1) := by decide +kernel
theorem dL_law_495 : decode cL_law 495 = .ok (.iconst 1, 1) := by decide +kernel
theorem dL_law_496 : decode cL_law 496 = .ok (.iadd, 1) := by decide +kernel
theorem dL_law_497 : decode cL_law 497 = .ok (.iaload, 1) := by decide +kernel
theorem dL_law_498 : decode cL_law 498 = .ok (.aload_n 0, 1) := by decide +kernel
theorem dL_law_499 : decode cL_law 499 = .ok (.iload_n 3, 1) := by decide +kernel
theorem dL_law_500 : decode cL_law 500 = .ok (.iconst 2, 1) := by decide +kernel
theorem dL_law_501 : decode cL_law 501 = .ok (.iadd, 1) := by decide +kernel
theorem dL_law_502 : decode cL_law 502 = .ok (.iaload, 1) := by decide +kernel
theorem dL_law_503 : decode cL_law 503 = .ok (.invokevirtual 60, 3) := by decide +kernel
theorem dL_law_506 : decode cL_law 506 = .ok (.aload_n 2, 1) := by decide +kernel
theorem dL_law_507 : decode cL_law 507 = .ok (.aload_n 0, 1) := by decide +kernel
theorem dL_law_508 : decode cL_law 508 = .ok (.iload_n 3, 1) := by decide +kernel
theorem dL_law_509 : decode cL_law 509 = .ok (.iconst 1, 1) := by decide +kernel
theorem dL_law_510 : decode cL_law 510 = .ok (.iadd, 1) := by decide +kernel
theorem dL_law_511 : decode cL_law 511 = .ok (.iaload, 1) := by decide +kernel
theorem dL_law_512 : decode cL_law 512 = .ok (.aload_n 0, 1) := by decide +kernel
theorem dL_law_513 : decode cL_law 513 = .ok (.iload_n 3, 1) := by decide +kernel
theorem dL_law_514 : decode cL_law 514 = .ok (.iconst 2, 1) := by decide +kernel
theorem dL_law_515 : decode cL_law 515 = .ok (.iadd, 1) := by decide +kernel
theorem dL_law_516 : decode cL_law 516 = .ok (.iaload, 1) := by decide +kernel
theorem dL_law_517 : decode cL_law 517 = .ok (.invokevirtual 63, 3) := by decide +kernel
theorem dL_law_520 : decode cL_law 520 = .ok (.if_icmp .eq 1025, 3) := by decide +kernel
theorem dL_law_523 : decode cL_law 523 = .ok (.iconst 0, 1) := by decide +kernel
theorem dL_law_524 : decode cL_law 524 = .ok (.ireturn, 1) := by decide +kernel
theorem dL_law_525 : decode cL_law 525 = .ok (.aload_n 1, 1) := by decide +kernel
theorem dL_law_526 : decode cL_law 526 = .ok (.aload_n 0, 1) := by decide +kernel
theorem dL_law_527 : decode cL_law 527 = .ok (.iload_n 3, 1) := by decide +kernel
theorem dL_law_528 : decode cL_law 528 = .ok (.iconst 1, 1) := by decide +kernel
theorem dL_law_529 : decode cL_law 529 = .ok (.iadd, 1) := by decide +kernel
theorem dL_law_530 : decode cL_law 530 = .ok (.iaload, 1) := by decide +kernel
theorem dL_law_531 : decode cL_law 531 = .ok (.aload_n 0, 1) := by decide +kernel
theorem dL_law_532 : decode cL_law 532 = .ok (.iload_n 3, 1) := by decide +kernel
theorem dL_law_533 : decode cL_law 533 = .ok (.iconst 2, 1) := by decide +kernel
theorem dL_law_534 : decode cL_law 534 = .ok (.iadd, 1) := by decide +kernel
theorem dL_law_535 : decode cL_law 535 = .ok (.iaload, 1) := by decide +kernel
theorem dL_law_536 : decode cL_law 536 = .ok (.aload_n 0, 1) := by decide +kernel
theorem dL_law_537 : decode cL_law 537 = .ok (.iload_n 3, 1) := by decide +kernel
theorem dL_law_538 : decode cL_law 538 = .ok (.iconst 3, 1) := by decide +kernel
theorem dL_law_539 : decode cL_law 539 = .ok (.iadd, 1) := by decide +kernel
theorem dL_law_540 : decode cL_law 540 = .ok (.iaload, 1) := by decide +kernel
theorem dL_law_541 : decode cL_law 541 = .ok (.invokevirtual 64, 3) := by decide +kernel
theorem dL_law_544 : decode cL_law 544 = .ok (.aload_n 2, 1) := by decide +kernel
theorem dL_law_545 : decode cL_law 545 = .ok (.aload_n 0, 1) := by decide +kernel
theorem dL_law_546 : decode cL_law 546 = .ok (.iload_n 3, 1) := by decide +kernel
theorem dL_law_547 : decode cL_law 547 = .ok (.iconst 1, 1) := by decide +kernel
theorem dL_law_548 : decode cL_law 548 = .ok (.iadd, 1) := by decide +kernel
theorem dL_law_549 : decode cL_law 549 = .ok (.iaload, 1) := by decide +kernel
theorem dL_law_550 : decode cL_law 550 = .ok (.aload_n 0, 1) := by decide +kernel
theorem dL_law_551 : decode cL_law 551 = .ok (.iload_n 3, 1) := by decide +kernel
theorem dL_law_552 : decode cL_law 552 = .ok (.iconst 2, 1) := by decide +kernel
theorem dL_law_553 : decode cL_law 553 = .ok (.iadd, 1) := by decide +kernel
theorem dL_law_554 : decode cL_law 554 = .ok (.iaload, 1) := by decide +kernel
theorem dL_law_555 : decode cL_law 555 = .ok (.aload_n 0, 1) := by decide +kernel
theorem dL_law_556 : decode cL_law 556 = .ok (.iload_n 3, 1) := by decide +kernel
theorem dL_law_557 : decode cL_law 557 = .ok (.iconst 3, 1) := by decide +kernel
theorem dL_law_558 : decode cL_law 558 = .ok (.iadd, 1) := by decide +kernel
theorem dL_law_559 : decode cL_law 559 = .ok (.iaload, 1) := by decide +kernel
theorem dL_law_560 : decode cL_law 560 = .ok (.invokevirtual 67, 3) := by decide +kernel
theorem dL_law_563 : decode cL_law 563 = .ok (.if_icmp .eq 982, 3) := by decide +kernel
theorem dL_law_566 : decode cL_law 566 = .ok (.iconst 0, 1) := by decide +kernel
theorem dL_law_567 : decode cL_law 567 = .ok (.ireturn, 1) := by decide +kernel
theorem dL_law_568 : decode cL_law 568 = .ok (.aload_n 1, 1) := by decide +kernel
theorem dL_law_569 : decode cL_law 569 = .ok (.aload_n 0, 1) := by decide +kernel
theorem dL_law_570 : decode cL_law 570 = .ok (.iload_n 3, 1) := by decide +kernel
theorem dL_law_571 : decode cL_law 571 = .ok (.iconst 1, 1) := by decide +kernel
theorem dL_law_572 : decode cL_law 572 = .ok (.iadd, 1) := by decide +kernel
theorem dL_law_573 : decode cL_law 573 = .ok (.iaload, 1) := by decide +kernel
theorem dL_law_574 : decode cL_law 574 = .ok (.aload_n 0, 1) := by decide +kernel
theorem dL_law_575 : decode cL_law 575 = .ok (.iload_n 3, 1) := by decide +kernel
theorem dL_law_576 : decode cL_law 576 = .ok (.iconst 2, 1) := by decide +kernel
theorem dL_law_577 : decode cL_law 577 = .ok (.iadd, 1) := by decide +kernel
theorem dL_law_578 : decode cL_law 578 = .ok (.iaload, 1) := by decide +kernel
theorem dL_law_579 : decode cL_law 579 = .ok (.invokevirtual 68, 3) := by decide +kernel
theorem dL_law_582 : decode cL_law 582 = .ok (.aload_n 2, 1) := by decide +kernel
theorem dL_law_583 : decode cL_law 583 = .ok (.aload_n 0, 1) := by decide +kernel
theorem dL_law_584 : decode cL_law 584 = .ok (.iload_n 3, 1) := by decide +kernel
theorem dL_law_585 : decode cL_law 585 = .ok (.iconst 1, 1) := by decide +kernel
theorem dL_law_586 : decode cL_law 586 = .ok (.iadd, 1) := by decide +kernel
theorem dL_law_587 : decode cL_law 587 = .ok (.iaload, 1) := by decide +kernel
theorem dL_law_588 : decode cL_law 588 = .ok (.aload_n 0, 1) := by decide +kernel
theorem dL_law_589 : decode cL_law 589 = .ok (.iload_n 3, 1) := by decide +kernel
theorem dL_law_590 : decode cL_law 590 = .ok (.iconst 2, 1) := by decide +kernel
theorem dL_law_591 : decode cL_law 591 = .ok (.iadd, 1) := by decide +kernel
theorem dL_law_592 : decode cL_law 592 = .ok (.iaload, 1) := by decide +kernel
theorem dL_law_593 : decode cL_law 593 = .ok (.invokevirtual 71, 3) := by decide +kernel
theorem dL_law_596 : decode cL_law 596 = .ok (.if_icmp .eq 949, 3) := by decide +kernel
theorem dL_law_599 : decode cL_law 599 = .ok (.iconst 0, 1) := by decide +kernel
theorem dL_law_600 : decode cL_law 600 = .ok (.ireturn, 1) := by decide +kernel
theorem dL_law_601 : decode cL_law 601 = .ok (.aload_n 1, 1) := by decide +kernel
theorem dL_law_602 : decode cL_law 602 = .ok (.aload_n 0, 1) := by decide +kernel
theorem dL_law_603 : decode cL_law 603 = .ok (.iload_n 3, 1) := by decide +kernel
theorem dL_law_604 : decode cL_law 604 = .ok (.iconst 1, 1) := by decide +kernel
theorem dL_law_605 : decode cL_law 605 = .ok (.iadd, 1) := by decide +kernel
theorem dL_law_606 : decode cL_law 606 = .ok (.iaload, 1) := by decide +kernel
theorem dL_law_607 : decode cL_law 607 = .ok (.aload_n 0, 1) := by decide +kernel
theorem dL_law_608 : decode cL_law 608 = .ok (.iload_n 3, 1) := by decide +kernel
theorem dL_law_609 : decode cL_law 609 = .ok (.iconst 2, 1) := by decide +kernel
theorem dL_law_610 : decode cL_law 610 = .ok (.iadd, 1) := by decide +kernel
theorem dL_law_611 : decode cL_law 611 = .ok (.iaload, 1) := by decide +kernel
theorem dL_law_612 : decode cL_law 612 = .ok (.aload_n 0, 1) := by decide +kernel
theorem dL_law_613 : decode cL_law 613 = .ok (.iload_n 3, 1) := by decide +kernel
theorem dL_law_614 : decode cL_law 614 = .ok (.iconst 3, 1) := by decide +kernel
theorem dL_law_615 : decode cL_law 615 = .ok (.iadd, 1) := by decide +kernel
theorem dL_law_616 : decode cL_law 616 = .ok (.iaload, 1) := by decide +kernel
theorem dL_law_617 : decode cL_law 617 = .ok (.aload_n 0, 1) := by decide +kernel
theorem dL_law_618 : decode cL_law 618 = .ok (.iload_n 3, 1) := by decide +kernel
theorem dL_law_619 : decode cL_law 619 = .ok (.iconst 4, 1) := by decide +kernel
theorem dL_law_620 : decode cL_law 620 = .ok (.iadd, 1) := by decide +kernel
theorem dL_law_621 : decode cL_law 621 = .ok (.iaload, 1) := by decide +kernel
theorem dL_law_622 : decode cL_law 622 = .ok (.invokevirtual 72, 3) := by decide +kernel
theorem dL_law_625 : decode cL_law 625 = .ok (.aload_n 2, 1) := by decide +kernel
theorem dL_law_626 : decode cL_law 626 = .ok (.aload_n 0, 1) := by decide +kernel
theorem dL_law_627 : decode cL_law 627 = .ok (.iload_n 3, 1) := by decide +kernel
theorem dL_law_628 : decode cL_law 628 = .ok (.iconst 1, 1) := by decide +kernel
theorem dL_law_629 : decode cL_law 629 = .ok (.iadd, 1) := by decide +kernel
theorem dL_law_630 : decode cL_law 630 = .ok (.iaload, 1) := by decide +kernel
theorem dL_law_631 : decode cL_law 631 = .ok (.aload_n 0, 1) := by decide +kernel
theorem dL_law_632 : decode cL_law 632 = .ok (.iload_n 3, 1) := by decide +kernel
theorem dL_law_633 : decode cL_law 633 = .ok (.iconst 2, 1) := by decide +kernel
theorem dL_law_634 : decode cL_law 634 = .ok (.iadd, 1) := by decide +kernel
theorem dL_law_635 : decode cL_law 635 = .ok (.iaload, 1) := by decide +kernel
theorem dL_law_636 : decode cL_law 636 = .ok (.aload_n 0, 1) := by decide +kernel
theorem dL_law_637 : decode cL_law 637 = .ok (.iload_n 3, 1) := by decide +kernel
theorem dL_law_638 : decode cL_law 638 = .ok (.iconst 3, 1) := by decide +kernel
theorem dL_law_639 : decode cL_law 639 = .ok (.iadd, 1) := by decide +kernel
theorem dL_law_640 : decode cL_law 640 = .ok (.iaload, 1) := by decide +kernel
theorem dL_law_641 : decode cL_law 641 = .ok (.aload_n 0, 1) := by decide +kernel
theorem dL_law_642 : decode cL_law 642 = .ok (.iload_n 3, 1) := by decide +kernel
theorem dL_law_643 : decode cL_law 643 = .ok (.iconst 4, 1) := by decide +kernel
theorem dL_law_644 : decode cL_law 644 = .ok (.iadd, 1) := by decide +kernel
theorem dL_law_645 : decode cL_law 645 = .ok (.iaload, 1) := by decide +kernel
theorem dL_law_646 : decode cL_law 646 = .ok (.invokevirtual 76, 3) := by decide +kernel
theorem dL_law_649 : decode cL_law 649 = .ok (.if_icmp .eq 896, 3) := by decide +kernel
theorem dL_law_652 : decode cL_law 652 = .ok (.iconst 0, 1) := by decide +kernel
theorem dL_law_653 : decode cL_law 653 = .ok (.ireturn, 1) := by decide +kernel
theorem dL_law_654 : decode cL_law 654 = .ok (.aload_n 1, 1) := by decide +kernel
theorem dL_law_655 : decode cL_law 655 = .ok (.aload_n 0, 1) := by decide +kernel
theorem dL_law_656 : decode cL_law 656 = .ok (.iload_n 3, 1) := by decide +kernel
theorem dL_law_657 : decode cL_law 657 = .ok (.iconst 1, 1) := by decide +kernel
theorem dL_law_658 : decode cL_law 658 = .ok (.iadd, 1) := by decide +kernel
theorem dL_law_659 : decode cL_law 659 = .ok (.iaload, 1) := by decide +kernel
theorem dL_law_660 : decode cL_law 660 = .ok (.aload_n 0, 1) := by decide +kernel
theorem dL_law_661 : decode cL_law 661 = .ok (.iload_n 3, 1) := by decide +kernel
theorem dL_law_662 : decode cL_law 662 = .ok (.iconst 2, 1) := by decide +kernel
theorem dL_law_663 : decode cL_law 663 = .ok (.iadd, 1) := by decide +kernel
theorem dL_law_664 : decode cL_law 664 = .ok (.iaload, 1) := by decide +kernel
theorem dL_law_665 : decode cL_law 665 = .ok (.invokevirtual 77, 3) := by decide +kernel
theorem dL_law_668 : decode cL_law 668 = .ok (.aload_n 2, 1) := by decide +kernel
theorem dL_law_669 : decode cL_law 669 = .ok (.aload_n 0, 1) := by decide +kernel
theorem dL_law_670 : decode cL_law 670 = .ok (.iload_n 3, 1) := by decide +kernel
theorem dL_law_671 : decode cL_law 671 = .ok (.iconst 1, 1) := by decide +kernel
theorem dL_law_672 : decode cL_law 672 = .ok (.iadd, 1) := by decide +kernel
theorem dL_law_673 : decode cL_law 673 = .ok (.iaload, 1) := by decide +kernel
theorem dL_law_674 : decode cL_law 674 = .ok (.aload_n 0, 1) := by decide +kernel
theorem dL_law_675 : decode cL_law 675 = .ok (.iload_n 3, 1) := by decide +kernel
theorem dL_law_676 : decode cL_law 676 = .ok (.iconst 2, 1) := by decide +kernel
theorem dL_law_677 : decode cL_law 677 = .ok (.iadd, 1) := by decide +kernel
theorem dL_law_678 : decode cL_law 678 = .ok (.iaload, 1) := by decide +kernel
theorem dL_law_679 : decode cL_law 679 = .ok (.invokevirtual 80, 3) := by decide +kernel
theorem dL_law_682 : decode cL_law 682 = .ok (.if_icmp .eq 863, 3) := by decide +kernel
theorem dL_law_685 : decode cL_law 685 = .ok (.iconst 0, 1) := by decide +kernel
theorem dL_law_686 : decode cL_law 686 = .ok (.ireturn, 1) := by decide +kernel
theorem dL_law_687 : decode cL_law 687 = .ok (.aload_n 1, 1) := by decide +kernel
theorem dL_law_688 : decode cL_law 688 = .ok (.aload_n 0, 1) := by decide +kernel
theorem dL_law_689 : decode cL_law 689 = .ok (.iload_n 3, 1) := by decide +kernel
theorem dL_law_690 : decode cL_law 690 = .ok (.iconst 1, 1) := by decide +kernel
theorem dL_law_691 : decode cL_law 691 = .ok (.iadd, 1) := by decide +kernel
theorem dL_law_692 : decode cL_law 692 = .ok (.iaload, 1) := by decide +kernel
theorem dL_law_693 : decode cL_law 693 = .ok (.aload_n 0, 1) := by decide +kernel
theorem dL_law_694 : decode cL_law 694 = .ok (.iload_n 3, 1) := by decide +kernel
theorem dL_law_695 : decode cL_law 695 = .ok (.iconst 2, 1) := by decide +kernel
theorem dL_law_696 : decode cL_law 696 = .ok (.iadd, 1) := by decide +kernel
theorem dL_law_697 : decode cL_law 697 = .ok (.iaload, 1) := by decide +kernel
theorem dL_law_698 : decode cL_law 698 = .ok (.invokevirtual 81, 3) := by decide +kernel
theorem dL_law_701 : decode cL_law 701 = .ok (.aload_n 2, 1) := by decide +kernel
theorem dL_law_702 : decode cL_law 702 = .ok (.aload_n 0, 1) := by decide +kernel
theorem dL_law_703 : decode cL_law 703 = .ok (.iload_n 3, 1) := by decide +kernel
theorem dL_law_704 : decode cL_law 704 = .ok (.iconst 1, 1) := by decide +kernel
theorem dL_law_705 : decode cL_law 705 = .ok (.iadd, 1) := by decide +kernel
theorem dL_law_706 : decode cL_law 706 = .ok (.iaload, 1) := by decide +kernel
theorem dL_law_707 : decode cL_law 707 = .ok (.aload_n 0, 1) := by decide +kernel
theorem dL_law_708 : decode cL_law 708 = .ok (.iload_n 3, 1) := by decide +kernel
theorem dL_law_709 : decode cL_law 709 = .ok (.iconst 2, 1) := by decide +kernel
theorem dL_law_710 : decode cL_law 710 = .ok (.iadd, 1) := by decide +kernel
theorem dL_law_711 : decode cL_law 711 = .ok (.iaload, 1) := by decide +kernel
theorem dL_law_712 : decode cL_law 712 = .ok (.invokevirtual 84, 3) := by decide +kernel
theorem dL_law_715 : decode cL_law 715 = .ok (.if_icmp .eq 830, 3) := by decide +kernel
theorem dL_law_718 : decode cL_law 718 = .ok (.iconst 0, 1) := by decide +kernel
theorem dL_law_719 : decode cL_law 719 = .ok (.ireturn, 1) := by decide +kernel
theorem dL_law_720 : decode cL_law 720 = .ok (.aload_n 1, 1) := by decide +kernel
theorem dL_law_721 : decode cL_law 721 = .ok (.aload_n 0, 1) := by decide +kernel
theorem dL_law_722 : decode cL_law 722 = .ok (.iload_n 3, 1) := by decide +kernel
theorem dL_law_723 : decode cL_law 723 = .ok (.iconst 1, 1) := by decide +kernel
theorem dL_law_724 : decode cL_law 724 = .ok (.iadd, 1) := by decide +kernel
theorem dL_law_725 : decode cL_law 725 = .ok (.iaload, 1) := by decide +kernel
theorem dL_law_726 : decode cL_law 726 = .ok (.aload_n 0, 1) := by decide +kernel
theorem dL_law_727 : decode cL_law 727 = .ok (.iload_n 3, 1) := by decide +kernel
theorem dL_law_728 : decode cL_law 728 = .ok (.iconst 2, 1) := by decide +kernel
theorem dL_law_729 : decode cL_law 729 = .ok (.iadd, 1) := by decide +kernel
theorem dL_law_730 : decode cL_law 730 = .ok (.iaload, 1) := by decide +kernel
theorem dL_law_731 : decode cL_law 731 = .ok (.aload_n 0, 1) := by decide +kernel
theorem dL_law_732 : decode cL_law 732 = .ok (.iload_n 3, 1) := by decide +kernel
theorem dL_law_733 : decode cL_law 733 = .ok (.iconst 3, 1) := by decide +kernel
theorem dL_law_734 : decode cL_law 734 = .ok (.iadd, 1) := by decide +kernel
theorem dL_law_735 : decode cL_law 735 = .ok (.iaload, 1) := by decide +kernel
theorem dL_law_736 : decode cL_law 736 = .ok (.invokevirtual 85, 3) := by decide +kernel
theorem dL_law_739 : decode cL_law 739 = .ok (.aload_n 2, 1) := by decide +kernel
theorem dL_law_740 : decode cL_law 740 = .ok (.aload_n 0, 1) := by decide +kernel
theorem dL_law_741 : decode cL_law 741 = .ok (.iload_n 3, 1) := by decide +kernel
theorem dL_law_742 : decode cL_law 742 = .ok (.iconst 1, 1) := by decide +kernel
theorem dL_law_743 : decode cL_law 743 = .ok (.iadd, 1) := by decide +kernel
theorem dL_law_744 : decode cL_law 744 = .ok (.iaload, 1) := by decide +kernel
theorem dL_law_745 : decode cL_law 745 = .ok (.aload_n 0, 1) := by decide +kernel
theorem dL_law_746 : decode cL_law 746 = .ok (.iload_n 3, 1) := by decide +kernel
theorem dL_law_747 : decode cL_law 747 = .ok (.iconst 2, 1) := by decide +kernel
theorem dL_law_748 : decode cL_law 748 = .ok (.iadd, 1) := by decide +kernel
theorem dL_law_749 : decode cL_law 749 = .ok (.iaload, 1) := by decide +kernel
theorem dL_law_750 : decode cL_law 750 = .ok (.aload_n 0, 1) := by decide +kernel
theorem dL_law_751 : decode cL_law 751 = .ok (.iload_n 3, 1) := by decide +kernel
theorem dL_law_752 : decode cL_law 752 = .ok (.iconst 3, 1) := by decide +kernel
theorem dL_law_753 : decode cL_law 753 = .ok (.iadd, 1) := by decide +kernel
theorem dL_law_754 : decode cL_law 754 = .ok (.iaload, 1) := by decide +kernel
theorem dL_law_755 : decode cL_law 755 = .ok (.invokevirtual 88, 3) := by decide +kernel
theorem dL_law_758 : decode cL_law 758 = .ok (.if_icmp .eq 787, 3) := by decide +kernel
theorem dL_law_761 : decode cL_law 761 = .ok (.iconst 0, 1) := by decide +kernel
theorem dL_law_762 : decode cL_law 762 = .ok (.ireturn, 1) := by decide +kernel
theorem dL_law_763 : decode cL_law 763 = .ok (.aload_n 1, 1) := by decide +kernel
theorem dL_law_764 : decode cL_law 764 = .ok (.aload_n 0, 1) := by decide +kernel
theorem dL_law_765 : decode cL_law 765 = .ok (.iload_n 3, 1) := by decide +kernel
theorem dL_law_766 : decode cL_law 766 = .ok (.iconst 1, 1) := by decide +kernel
theorem dL_law_767 : decode cL_law 767 = .ok (.iadd, 1) := by decide +kernel
theorem dL_law_768 : decode cL_law 768 = .ok (.iaload, 1) := by decide +kernel
theorem dL_law_769 : decode cL_law 769 = .ok (.invokevirtual 89, 3) := by decide +kernel
theorem dL_law_772 : decode cL_law 772 = .ok (.aload_n 2, 1) := by decide +kernel
theorem dL_law_773 : decode cL_law 773 = .ok (.aload_n 0, 1) := by decide +kernel
theorem dL_law_774 : decode cL_law 774 = .ok (.iload_n 3, 1) := by decide +kernel
theorem dL_law_775 : decode cL_law 775 = .ok (.iconst 1, 1) := by decide +kernel
theorem dL_law_776 : decode cL_law 776 = .ok (.iadd, 1) := by decide +kernel
theorem dL_law_777 : decode cL_law 777 = .ok (.iaload, 1) := by decide +kernel
theorem dL_law_778 : decode cL_law 778 = .ok (.invokevirtual 92, 3) := by decide +kernel
theorem dL_law_781 : decode cL_law 781 = .ok (.if_icmp .eq 764, 3) := by decide +kernel
theorem dL_law_784 : decode cL_law 784 = .ok (.iconst 0, 1) := by decide +kernel
theorem dL_law_785 : decode cL_law 785 = .ok (.ireturn, 1) := by decide +kernel
theorem dL_law_786 : decode cL_law 786 = .ok (.aload_n 1, 1) := by decide +kernel
theorem dL_law_787 : decode cL_law 787 = .ok (.aload_n 0, 1) := by decide +kernel
theorem dL_law_788 : decode cL_law 788 = .ok (.iload_n 3, 1) := by decide +kernel
theorem dL_law_789 : decode cL_law 789 = .ok (.iconst 1, 1) := by decide +kernel
theorem dL_law_790 : decode cL_law 790 = .ok (.iadd, 1) := by decide +kernel
theorem dL_law_791 : decode cL_law 791 = .ok (.iaload, 1) := by decide +kernel
theorem dL_law_792 : decode cL_law 792 = .ok (.aload_n 0, 1) := by decide +kernel
theorem dL_law_793 : decode cL_law 793 = .ok (.iload_n 3, 1) := by decide +kernel
theorem dL_law_794 : decode cL_law 794 = .ok (.iconst 2, 1) := by decide +kernel
theorem dL_law_795 : decode cL_law 795 = .ok (.iadd, 1) := by decide +kernel
theorem dL_law_796 : decode cL_law 796 = .ok (.iaload, 1) := by decide +kernel
theorem dL_law_797 : decode cL_law 797 = .ok (.invokevirtual 93, 3) := by decide +kernel
theorem dL_law_800 : decode cL_law 800 = .ok (.aload_n 2, 1) := by decide +kernel
theorem dL_law_801 : decode cL_law 801 = .ok (.aload_n 0, 1) := by decide +kernel
theorem dL_law_802 : decode cL_law 802 = .ok (.iload_n 3, 1) := by decide +kernel
theorem dL_law_803 : decode cL_law 803 = .ok (.iconst 1, 1) := by decide +kernel
theorem dL_law_804 : decode cL_law 804 = .ok (.iadd, 1) := by decide +kernel
theorem dL_law_805 : decode cL_law 805 = .ok (.iaload, 1) := by decide +kernel
theorem dL_law_806 : decode cL_law 806 = .ok (.aload_n 0, 1) := by decide +kernel
theorem dL_law_807 : decode cL_law 807 = .ok (.iload_n 3, 1) := by decide +kernel
theorem dL_law_808 : decode cL_law 808 = .ok (.iconst 2, 1) := by decide +kernel
theorem dL_law_809 : decode cL_law 809 = .ok (.iadd, 1) := by decide +kernel
theorem dL_law_810 : decode cL_law 810 = .ok (.iaload, 1) := by decide +kernel
theorem dL_law_811 : decode cL_law 811 = .ok (.invokevirtual 96, 3) := by decide +kernel
theorem dL_law_814 : decode cL_law 814 = .ok (.if_icmp .eq 731, 3) := by decide +kernel
theorem dL_law_817 : decode cL_law 817 = .ok (.iconst 0, 1) := by decide +kernel
theorem dL_law_818 : decode cL_law 818 = .ok (.ireturn, 1) := by decide +kernel
theorem dL_law_819 : decode cL_law 819 = .ok (.aload_n 1, 1) := by decide +kernel
theorem dL_law_820 : decode cL_law 820 = .ok (.aload_n 0, 1) := by decide +kernel
theorem dL_law_821 : decode cL_law 821 = .ok (.iload_n 3, 1) := by decide +kernel
theorem dL_law_822 : decode cL_law 822 = .ok (.iconst 1, 1) := by decide +kernel
theorem dL_law_823 : decode cL_law 823 = .ok (.iadd, 1) := by decide +kernel
theorem dL_law_824 : decode cL_law 824 = .ok (.iaload, 1) := by decide +kernel
theorem dL_law_825 : decode cL_law 825 = .ok (.aload_n 0, 1) := by decide +kernel
theorem dL_law_826 : decode cL_law 826 = .ok (.iload_n 3, 1) := by decide +kernel
theorem dL_law_827 : decode cL_law 827 = .ok (.iconst 2, 1) := by decide +kernel
theorem dL_law_828 : decode cL_law 828 = .ok (.iadd, 1) := by decide +kernel
theorem dL_law_829 : decode cL_law 829 = .ok (.iaload, 1) := by decide +kernel
theorem dL_law_830 : decode cL_law 830 = .ok (.invokevirtual 97, 3) := by decide +kernel
theorem dL_law_833 : decode cL_law 833 = .ok (.aload_n 2, 1) := by decide +kernel
theorem dL_law_834 : decode cL_law 834 = .ok (.aload_n 0, 1) := by decide +kernel
theorem dL_law_835 : decode cL_law 835 = .ok (.iload_n 3, 1) := by decide +kernel
theorem dL_law_836 : decode cL_law 836 = .ok (.iconst 1, 1) := by decide +kernel
theorem dL_law_837 : decode cL_law 837 = .ok (.iadd, 1) := by decide +kernel
theorem dL_law_838 : decode cL_law 838 = .ok (.iaload, 1) := by decide +kernel
theorem dL_law_839 : decode cL_law 839 = .ok (.aload_n 0, 1) := by decide +kernel
theorem dL_law_840 : decode cL_law 840 = .ok (.iload_n 3, 1) := by decide +kernel
theorem dL_law_841 : decode cL_law 841 = .ok (.iconst 2, 1) := by decide +kernel
theorem dL_law_842 : decode cL_law 842 = .ok (.iadd, 1) := by decide +kernel
theorem dL_law_843 : decode cL_law 843 = .ok (.iaload, 1) := by decide +kernel
theorem dL_law_844 : decode cL_law 844 = .ok (.invokevirtual 100, 3) := by decide +kernel
theorem dL_law_847 : decode cL_law 847 = .ok (.if_icmp .eq 698, 3) := by decide +kernel
theorem dL_law_850 : decode cL_law 850 = .ok (.iconst 0, 1) := by decide +kernel
theorem dL_law_851 : decode cL_law 851 = .ok (.ireturn, 1) := by decide +kernel
theorem dL_law_852 : decode cL_law 852 = .ok (.aload_n 1, 1) := by decide +kernel
theorem dL_law_853 : decode cL_law 853 = .ok (.aload_n 0, 1) := by decide +kernel
theorem dL_law_854 : decode cL_law 854 = .ok (.iload_n 3, 1) := by decide +kernel
theorem dL_law_855 : decode cL_law 855 = .ok (.iconst 1, 1) := by decide +kernel
theorem dL_law_856 : decode cL_law 856 = .ok (.iadd, 1) := by decide +kernel
theorem dL_law_857 : decode cL_law 857 = .ok (.iaload, 1) := by decide +kernel
theorem dL_law_858 : decode cL_law 858 = .ok (.aload_n 0, 1) := by decide +kernel
theorem dL_law_859 : decode cL_law 859 = .ok (.iload_n 3, 1) := by decide +kernel
theorem dL_law_860 : decode cL_law 860 = .ok (.iconst 2, 1) := by decide +kernel
theorem dL_law_861 : decode cL_law 861 = .ok (.iadd, 1) := by decide +kernel
theorem dL_law_862 : decode cL_law 862 = .ok (.iaload, 1) := by decide +kernel
theorem dL_law_863 : decode cL_law 863 = .ok (.invokevirtual 101, 3) := by decide +kernel
theorem dL_law_866 : decode cL_law 866 = .ok (.aload_n 2, 1) := by decide +kernel
theorem dL_law_867 : decode cL_law 867 = .ok (.aload_n 0, 1) := by decide +kernel
theorem dL_law_868 : decode cL_law 868 = .ok (.iload_n 3, 1) := by decide +kernel
theorem dL_law_869 : decode cL_law 869 = .ok (.iconst 1, 1) := by decide +kernel
theorem dL_law_870 : decode cL_law 870 = .ok (.iadd, 1) := by decide +kernel
theorem dL_law_871 : decode cL_law 871 = .ok (.iaload, 1) := by decide +kernel
theorem dL_law_872 : decode cL_law 872 = .ok (.aload_n 0, 1) := by decide +kernel
theorem dL_law_873 : decode cL_law 873 = .ok (.iload_n 3, 1) := by decide +kernel
theorem dL_law_874 : decode cL_law 874 = .ok (.iconst 2, 1) := by decide +kernel
theorem dL_law_875 : decode cL_law 875 = .ok (.iadd, 1) := by decide +kernel
theorem dL_law_876 : decode cL_law 876 = .ok (.iaload, 1) := by decide +kernel
theorem dL_law_877 : decode cL_law 877 = .ok (.invokevirtual 104, 3) := by decide +kernel
theorem dL_law_880 : decode cL_law 880 = .ok (.if_icmp .eq 665, 3) := by decide +kernel
theorem dL_law_883 : decode cL_law 883 = .ok (.iconst 0, 1) := by decide +kernel
theorem dL_law_884 : decode cL_law 884 = .ok (.ireturn, 1) := by decide +kernel
theorem dL_law_885 : decode cL_law 885 = .ok (.aload_n 1, 1) := by decide +kernel
theorem dL_law_886 : decode cL_law 886 = .ok (.invokevirtual 105, 3) := by decide +kernel
theorem dL_law_889 : decode cL_law 889 = .ok (.aload_n 2, 1) := by decide +kernel
theorem dL_law_890 : decode cL_law 890 = .ok (.invokevirtual 108, 3) := by decide +kernel
theorem dL_law_893 : decode cL_law 893 = .ok (.if_icmp .eq 652, 3) := by decide +kernel
theorem dL_law_896 : decode cL_law 896 = .ok (.iconst 0, 1) := by decide +kernel
theorem dL_law_897 : decode cL_law 897 = .ok (.ireturn, 1) := by decide +kernel
theorem dL_law_898 : decode cL_law 898 = .ok (.aload_n 1, 1) := by decide +kernel
theorem dL_law_899 : decode cL_law 899 = .ok (.aload_n 0, 1) := by decide +kernel
theorem dL_law_900 : decode cL_law 900 = .ok (.iload_n 3, 1) := by decide +kernel
theorem dL_law_901 : decode cL_law 901 = .ok (.iconst 1, 1) := by decide +kernel
theorem dL_law_902 : decode cL_law 902 = .ok (.iadd, 1) := by decide +kernel
theorem dL_law_903 : decode cL_law 903 = .ok (.iaload, 1) := by decide +kernel
theorem dL_law_904 : decode cL_law 904 = .ok (.aload_n 0, 1) := by decide +kernel
theorem dL_law_905 : decode cL_law 905 = .ok (.iload_n 3, 1) := by decide +kernel
theorem dL_law_906 : decode cL_law 906 = .ok (.iconst 2, 1) := by decide +kernel
theorem dL_law_907 : decode cL_law 907 = .ok (.iadd, 1) := by decide +kernel
theorem dL_law_908 : decode cL_law 908 = .ok (.iaload, 1) := by decide +kernel
theorem dL_law_909 : decode cL_law 909 = .ok (.aload_n 0, 1) := by decide +kernel
theorem dL_law_910 : decode cL_law 910 = .ok (.iload_n 3, 1) := by decide +kernel
theorem dL_law_911 : decode cL_law 911 = .ok (.iconst 3, 1) := by decide +kernel
theorem dL_law_912 : decode cL_law 912 = .ok (.iadd, 1) := by decide +kernel
theorem dL_law_913 : decode cL_law 913 = .ok (.iaload, 1) := by decide +kernel
theorem dL_law_914 : decode cL_law 914 = .ok (.invokevirtual 109, 3) := by decide +kernel
theorem dL_law_917 : decode cL_law 917 = .ok (.aload_n 2, 1) := by decide +kernel
theorem dL_law_918 : decode cL_law 918 = .ok (.aload_n 0, 1) := by decide +kernel
theorem dL_law_919 : decode cL_law 919 = .ok (.iload_n 3, 1) := by decide +kernel
theorem dL_law_920 : decode cL_law 920 = .ok (.iconst 1, 1) := by decide +kernel
theorem dL_law_921 : decode cL_law 921 = .ok (.iadd, 1) := by decide +kernel
theorem dL_law_922 : decode cL_law 922 = .ok (.iaload, 1) := by decide +kernel
theorem dL_law_923 : decode cL_law 923 = .ok (.aload_n 0, 1) := by decide +kernel
theorem dL_law_924 : decode cL_law 924 = .ok (.iload_n 3, 1) := by decide +kernel
theorem dL_law_925 : decode cL_law 925 = .ok (.iconst 2, 1) := by decide +kernel
theorem dL_law_926 : decode cL_law 926 = .ok (.iadd, 1) := by decide +kernel
theorem dL_law_927 : decode cL_law 927 = .ok (.iaload, 1) := by decide +kernel
theorem dL_law_928 : decode cL_law 928 = .ok (.aload_n 0, 1) := by decide +kernel
theorem dL_law_929 : decode cL_law 929 = .ok (.iload_n 3, 1) := by decide +kernel
theorem dL_law_930 : decode cL_law 930 = .ok (.iconst 3, 1) := by decide +kernel
theorem dL_law_931 : decode cL_law 931 = .ok (.iadd, 1) := by decide +kernel
theorem dL_law_932 : decode cL_law 932 = .ok (.iaload, 1) := by decide +kernel
theorem dL_law_933 : decode cL_law 933 = .ok (.invokevirtual 112, 3) := by decide +kernel
theorem dL_law_936 : decode cL_law 936 = .ok (.if_icmp .eq 609, 3) := by decide +kernel
theorem dL_law_939 : decode cL_law 939 = .ok (.iconst 0, 1) := by decide +kernel
theorem dL_law_940 : decode cL_law 940 = .ok (.ireturn, 1) := by decide +kernel
theorem dL_law_941 : decode cL_law 941 = .ok (.aload_n 1, 1) := by decide +kernel
theorem dL_law_942 : decode cL_law 942 = .ok (.aload_n 0, 1) := by decide +kernel
theorem dL_law_943 : decode cL_law 943 = .ok (.iload_n 3, 1) := by decide +kernel
theorem dL_law_944 : decode cL_law 944 = .ok (.iconst 1, 1) := by decide +kernel
theorem dL_law_945 : decode cL_law 945 = .ok (.iadd, 1) := by decide +kernel
theorem dL_law_946 : decode cL_law 946 = .ok (.iaload, 1) := by decide +kernel
theorem dL_law_947 : decode cL_law 947 = .ok (.aload_n 0, 1) := by decide +kernel
theorem dL_law_948 : decode cL_law 948 = .ok (.iload_n 3, 1) := by decide +kernel
theorem dL_law_949 : decode cL_law 949 = .ok (.iconst 2, 1) := by decide +kernel
theorem dL_law_950 : decode cL_law 950 = .ok (.iadd, 1) := by decide +kernel
theorem dL_law_951 : decode cL_law 951 = .ok (.iaload, 1) := by decide +kernel
theorem dL_law_952 : decode cL_law 952 = .ok (.invokevirtual 113, 3) := by decide +kernel
theorem dL_law_955 : decode cL_law 955 = .ok (.aload_n 2, 1) := by decide +kernel
theorem dL_law_956 : decode cL_law 956 = .ok (.aload_n 0, 1) := by decide +kernel
theorem dL_law_957 : decode cL_law 957 = .ok (.iload_n 3, 1) := by decide +kernel
theorem dL_law_958 : decode cL_law 958 = .ok (.iconst 1, 1) := by decide +kernel
theorem dL_law_959 : decode cL_law 959 = .ok (.iadd, 1) := by decide +kernel
theorem dL_law_960 : decode cL_law 960 = .ok (.iaload, 1) := by decide +kernel
theorem dL_law_961 : decode cL_law 961 = .ok (.aload_n 0, 1) := by decide +kernel
theorem dL_law_962 : decode cL_law 962 = .ok (.iload_n 3, 1) := by decide +kernel
theorem dL_law_963 : decode cL_law 963 = .ok (.iconst 2, 1) := by decide +kernel
theorem dL_law_964 : decode cL_law 964 = .ok (.iadd, 1) := by decide +kernel
theorem dL_law_965 : decode cL_law 965 = .ok (.iaload, 1) := by decide +kernel
theorem dL_law_966 : decode cL_law 966 = .ok (.invokevirtual 116, 3) := by decide +kernel
theorem dL_law_969 : decode cL_law 969 = .ok (.if_icmp .eq 576, 3) := by decide +kernel
theorem dL_law_972 : decode cL_law 972 = .ok (.iconst 0, 1) := by decide +kernel
theorem dL_law_973 : decode cL_law 973 = .ok (.ireturn, 1) := by decide +kernel
theorem dL_law_974 : decode cL_law 974 = .ok (.aload_n 1, 1) := by decide +kernel
theorem dL_law_975 : decode cL_law 975 = .ok (.aload_n 0, 1) := by decide +kernel
theorem dL_law_976 : decode cL_law 976 = .ok (.iload_n 3, 1) := by decide +kernel
theorem dL_law_977 : decode cL_law 977 = .ok (.iconst 1, 1) := by decide +kernel
theorem dL_law_978 : decode cL_law 978 = .ok (.iadd, 1) := by decide +kernel
theorem dL_law_979 : decode cL_law 979 = .ok (.iaload, 1) := by decide +kernel
theorem dL_law_980 : decode cL_law 980 = .ok (.aload_n 0, 1) := by decide +kernel
theorem dL_law_981 : decode cL_law 981 = .ok (.iload_n 3, 1) := by decide +kernel
theorem dL_law_982 : decode cL_law 982 = .ok (.iconst 2, 1) := by decide +kernel
theorem dL_law_983 : decode cL_law 983 = .ok (.iadd, 1) := by decide +kernel
theorem dL_law_984 : decode cL_law 984 = .ok (.iaload, 1) := by decide +kernel
theorem dL_law_985 : decode cL_law 985 = .ok (.aload_n 0, 1) := by decide +kernel
theorem dL_law_986 : decode cL_law 986 = .ok (.iload_n 3, 1) := by decide +kernel
theorem dL_law_987 : decode cL_law 987 = .ok (.iconst 3, 1) := by decide +kernel
theorem dL_law_988 : decode cL_law 988 = .ok (.iadd, 1) := by decide +kernel
theorem dL_law_989 : decode cL_law 989 = .ok (.iaload, 1) := by decide +kernel
theorem dL_law_990 : decode cL_law 990 = .ok (.invokevirtual 117, 3) := by decide +kernel
theorem dL_law_993 : decode cL_law 993 = .ok (.aload_n 2, 1) := by decide +kernel
theorem dL_law_994 : decode cL_law 994 = .ok (.aload_n 0, 1) := by decide +kernel
theorem dL_law_995 : decode cL_law 995 = .ok (.iload_n 3, 1) := by decide +kernel
theorem dL_law_996 : decode cL_law 996 = .ok (.iconst 1, 1) := by decide +kernel
theorem dL_law_997 : decode cL_law 997 = .ok (.iadd, 1) := by decide +kernel
theorem dL_law_998 : decode cL_law 998 = .ok (.iaload, 1) := by decide +kernel
theorem dL_law_999 : decode cL_law 999 = .ok (.aload_n 0, 1) := by decide +kernel
theorem dL_law_1000 : decode cL_law 1000 = .ok (.iload_n 3, 1) := by decide +kernel
theorem dL_law_1001 : decode cL_law 1001 = .ok (.iconst 2, 1) := by decide +kernel
theorem dL_law_1002 : decode cL_law 1002 = .ok (.iadd, 1) := by decide +kernel
theorem dL_law_1003 : decode cL_law 1003 = .ok (.iaload, 1) := by decide +kernel
theorem dL_law_1004 : decode cL_law 1004 = .ok (.aload_n 0, 1) := by decide +kernel
theorem dL_law_1005 : decode cL_law 1005 = .ok (.iload_n 3, 1) := by decide +kernel
theorem dL_law_1006 : decode cL_law 1006 = .ok (.iconst 3, 1) := by decide +kernel
theorem dL_law_1007 : decode cL_law 1007 = .ok (.iadd, 1) := by decide +kernel
theorem dL_law_1008 : decode cL_law 1008 = .ok (.iaload, 1) := by decide +kernel
theorem dL_law_1009 : decode cL_law 1009 = .ok (.invokevirtual 120, 3) := by decide +kernel
theorem dL_law_1012 : decode cL_law 1012 = .ok (.if_icmp .eq 533, 3) := by decide +kernel
theorem dL_law_1015 : decode cL_law 1015 = .ok (.iconst 0, 1) := by decide +kernel
theorem dL_law_1016 : decode cL_law 1016 = .ok (.ireturn, 1) := by decide +kernel
theorem dL_law_1017 : decode cL_law 1017 = .ok (.aload_n 1, 1) := by decide +kernel
theorem dL_law_1018 : decode cL_law 1018 = .ok (.aload_n 0, 1) := by decide +kernel
theorem dL_law_1019 : decode cL_law 1019 = .ok (.iload_n 3, 1) := by decide +kernel
theorem dL_law_1020 : decode cL_law 1020 = .ok (.iconst 1, 1) := by decide +kernel
theorem dL_law_1021 : decode cL_law 1021 = .ok (.iadd, 1) := by decide +kernel
theorem dL_law_1022 : decode cL_law 1022 = .ok (.iaload, 1) := by decide +kernel
theorem dL_law_1023 : decode cL_law 1023 = .ok (.invokevirtual 121, 3) := by decide +kernel
theorem dL_law_1026 : decode cL_law 1026 = .ok (.aload_n 2, 1) := by decide +kernel
theorem dL_law_1027 : decode cL_law 1027 = .ok (.aload_n 0, 1) := by decide +kernel
theorem dL_law_1028 : decode cL_law 1028 = .ok (.iload_n 3, 1) := by decide +kernel
theorem dL_law_1029 : decode cL_law 1029 = .ok (.iconst 1, 1) := by decide +kernel
theorem dL_law_1030 : decode cL_law 1030 = .ok (.iadd, 1) := by decide +kernel
theorem dL_law_1031 : decode cL_law 1031 = .ok (.iaload, 1) := by decide +kernel
theorem dL_law_1032 : decode cL_law 1032 = .ok (.invokevirtual 124, 3) := by decide +kernel
theorem dL_law_1035 : decode cL_law 1035 = .ok (.if_icmp .eq 510, 3) := by decide +kernel
theorem dL_law_1038 : decode cL_law 1038 = .ok (.iconst 0, 1) := by decide +kernel
theorem dL_law_1039 : decode cL_law 1039 = .ok (.ireturn, 1) := by decide +kernel
theorem dL_law_1040 : decode cL_law 1040 = .ok (.aload_n 1, 1) := by decide +kernel
theorem dL_law_1041 : decode cL_law 1041 = .ok (.aload_n 0, 1) := by decide +kernel
theorem dL_law_1042 : decode cL_law 1042 = .ok (.iload_n 3, 1) := by decide +kernel
theorem dL_law_1043 : decode cL_law 1043 = .ok (.iconst 1, 1) := by decide +kernel
theorem dL_law_1044 : decode cL_law 1044 = .ok (.iadd, 1) := by decide +kernel
theorem dL_law_1045 : decode cL_law 1045 = .ok (.iaload, 1) := by decide +kernel
theorem dL_law_1046 : decode cL_law 1046 = .ok (.aload_n 0, 1) := by decide +kernel
theorem dL_law_1047 : decode cL_law 1047 = .ok (.iload_n 3, 1) := by decide +kernel
theorem dL_law_1048 : decode cL_law 1048 = .ok (.iconst 2, 1) := by decide +kernel
theorem dL_law_1049 : decode cL_law 1049 = .ok (.iadd, 1) := by decide +kernel
theorem dL_law_1050 : decode cL_law 1050 = .ok (.iaload, 1) := by decide +kernel
theorem dL_law_1051 : decode cL_law 1051 = .ok (.invokevirtual 125, 3) := by decide +kernel
theorem dL_law_1054 : decode cL_law 1054 = .ok (.aload_n 2, 1) := by decide +kernel
theorem dL_law_1055 : decode cL_law 1055 = .ok (.aload_n 0, 1) := by decide +kernel
theorem dL_law_1056 : decode cL_law 1056 = .ok (.iload_n 3, 1) := by decide +kernel
theorem dL_law_1057 : decode cL_law 1057 = .ok (.iconst 1, 1) := by decide +kernel
theorem dL_law_1058 : decode cL_law 1058 = .ok (.iadd, 1) := by decide +kernel
theorem dL_law_1059 : decode cL_law 1059 = .ok (.iaload, 1) := by decide +kernel
theorem dL_law_1060 : decode cL_law 1060 = .ok (.aload_n 0, 1) := by decide +kernel
theorem dL_law_1061 : decode cL_law 1061 = .ok (.iload_n 3, 1) := by decide +kernel
theorem dL_law_1062 : decode cL_law 1062 = .ok (.iconst 2, 1) := by decide +kernel
theorem dL_law_1063 : decode cL_law 1063 = .ok (.iadd, 1) := by decide +kernel
theorem dL_law_1064 : decode cL_law 1064 = .ok (.iaload, 1) := by decide +kernel
theorem dL_law_1065 : decode cL_law 1065 = .ok (.invokevirtual 128, 3) := by decide +kernel
theorem dL_law_1068 : decode cL_law 1068 = .ok (.if_icmp .eq 477, 3) := by decide +kernel
theorem dL_law_1071 : decode cL_law 1071 = .ok (.iconst 0, 1) := by decide +kernel
theorem dL_law_1072 : decode cL_law 1072 = .ok (.ireturn, 1) := by decide +kernel
theorem dL_law_1073 : decode cL_law 1073 = .ok (.aload_n 1, 1) := by decide +kernel
theorem dL_law_1074 : decode cL_law 1074 = .ok (.aload_n 0, 1) := by decide +kernel
theorem dL_law_1075 : decode cL_law 1075 = .ok (.iload_n 3, 1) := by decide +kernel
theorem dL_law_1076 : decode cL_law 1076 = .ok (.iconst 1, 1) := by decide +kernel
theorem dL_law_1077 : decode cL_law 1077 = .ok (.iadd, 1) := by decide +kernel
theorem dL_law_1078 : decode cL_law 1078 = .ok (.iaload, 1) := by decide +kernel
theorem dL_law_1079 : decode cL_law 1079 = .ok (.aload_n 0, 1) := by decide +kernel
theorem dL_law_1080 : decode cL_law 1080 = .ok (.iload_n 3, 1) := by decide +kernel
theorem dL_law_1081 : decode cL_law 1081 = .ok (.iconst 2, 1) := by decide +kernel
theorem dL_law_1082 : decode cL_law 1082 = .ok (.iadd, 1) := by decide +kernel
theorem dL_law_1083 : decode cL_law 1083 = .ok (.iaload, 1) := by decide +kernel
theorem dL_law_1084 : decode cL_law 1084 = .ok (.invokevirtual 129, 3) := by decide +kernel
theorem dL_law_1087 : decode cL_law 1087 = .ok (.aload_n 2, 1) := by decide +kernel
theorem dL_law_1088 : decode cL_law 1088 = .ok (.aload_n 0, 1) := by decide +kernel
theorem dL_law_1089 : decode cL_law 1089 = .ok (.iload_n 3, 1) := by decide +kernel
theorem dL_law_1090 : decode cL_law 1090 = .ok (.iconst 1, 1) := by decide +kernel
theorem dL_law_1091 : decode cL_law 1091 = .ok (.iadd, 1) := by decide +kernel
theorem dL_law_1092 : decode cL_law 1092 = .ok (.iaload, 1) := by decide +kernel
theorem dL_law_1093 : decode cL_law 1093 = .ok (.aload_n 0, 1) := by decide +kernel
theorem dL_law_1094 : decode cL_law 1094 = .ok (.iload_n 3, 1) := by decide +kernel
theorem dL_law_1095 : decode cL_law 1095 = .ok (.iconst 2, 1) := by decide +kernel
theorem dL_law_1096 : decode cL_law 1096 = .ok (.iadd, 1) := by decide +kernel
theorem dL_law_1097 : decode cL_law 1097 = .ok (.iaload, 1) := by decide +kernel
theorem dL_law_1098 : decode cL_law 1098 = .ok (.invokevirtual 132, 3) := by decide +kernel
theorem dL_law_1101 : decode cL_law 1101 = .ok (.if_icmp .eq 444, 3) := by decide +kernel
theorem dL_law_1104 : decode cL_law 1104 = .ok (.iconst 0, 1) := by decide +kernel
theorem dL_law_1105 : decode cL_law 1105 = .ok (.ireturn, 1) := by decide +kernel
theorem dL_law_1106 : decode cL_law 1106 = .ok (.aload_n 1, 1) := by decide +kernel
theorem dL_law_1107 : decode cL_law 1107 = .ok (.aload_n 0, 1) := by decide +kernel
theorem dL_law_1108 : decode cL_law 1108 = .ok (.iload_n 3, 1) := by decide +kernel
theorem dL_law_1109 : decode cL_law 1109 = .ok (.iconst 1, 1) := by decide +kernel
theorem dL_law_1110 : decode cL_law 1110 = .ok (.iadd, 1) := by decide +kernel
theorem dL_law_1111 : decode cL_law 1111 = .ok (.iaload, 1) := by decide +kernel
theorem dL_law_1112 : decode cL_law 1112 = .ok (.aload_n 0, 1) := by decide +kernel
theorem dL_law_1113 : decode cL_law 1113 = .ok (.iload_n 3, 1) := by decide +kernel
theorem dL_law_1114 : decode cL_law 1114 = .ok (.iconst 2, 1) := by decide +kernel
theorem dL_law_1115 : decode cL_law 1115 = .ok (.iadd, 1) := by decide +kernel
theorem dL_law_1116 : decode cL_law 1116 = .ok (.iaload, 1) := by decide +kernel
theorem dL_law_1117 : decode cL_law 1117 = .ok (.invokevirtual 133, 3) := by decide +kernel
theorem dL_law_1120 : decode cL_law 1120 = .ok (.aload_n 2, 1) := by decide +kernel
theorem dL_law_1121 : decode cL_law 1121 = .ok (.aload_n 0, 1) := by decide +kernel
theorem dL_law_1122 : decode cL_law 1122 = .ok (.iload_n 3, 1) := by decide +kernel
theorem dL_law_1123 : decode cL_law 1123 = .ok (.iconst 1, 1) := by decide +kernel
theorem dL_law_1124 : decode cL_law 1124 = .ok (.iadd, 1) := by decide +kernel
theorem dL_law_1125 : decode cL_law 1125 = .ok (.iaload, 1) := by decide +kernel
theorem dL_law_1126 : decode cL_law 1126 = .ok (.aload_n 0, 1) := by decide +kernel
theorem dL_law_1127 : decode cL_law 1127 = .ok (.iload_n 3, 1) := by decide +kernel
theorem dL_law_1128 : decode cL_law 1128 = .ok (.iconst 2, 1) := by decide +kernel
theorem dL_law_1129 : decode cL_law 1129 = .ok (.iadd, 1) := by decide +kernel
theorem dL_law_1130 : decode cL_law 1130 = .ok (.iaload, 1) := by decide +kernel
theorem dL_law_1131 : decode cL_law 1131 = .ok (.invokevirtual 136, 3) := by decide +kernel
theorem dL_law_1134 : decode cL_law 1134 = .ok (.if_icmp .eq 411, 3) := by decide +kernel
theorem dL_law_1137 : decode cL_law 1137 = .ok (.iconst 0, 1) := by decide +kernel
theorem dL_law_1138 : decode cL_law 1138 = .ok (.ireturn, 1) := by decide +kernel
theorem dL_law_1139 : decode cL_law 1139 = .ok (.aload_n 1, 1) := by decide +kernel
theorem dL_law_1140 : decode cL_law 1140 = .ok (.aload_n 0, 1) := by decide +kernel
theorem dL_law_1141 : decode cL_law 1141 = .ok (.iload_n 3, 1) := by decide +kernel
theorem dL_law_1142 : decode cL_law 1142 = .ok (.iconst 1, 1) := by decide +kernel
theorem dL_law_1143 : decode cL_law 1143 = .ok (.iadd, 1) := by decide +kernel
theorem dL_law_1144 : decode cL_law 1144 = .ok (.iaload, 1) := by decide +kernel
theorem dL_law_1145 : decode cL_law 1145 = .ok (.aload_n 0, 1) := by decide +kernel
theorem dL_law_1146 : decode cL_law 1146 = .ok (.iload_n 3, 1) := by decide +kernel
theorem dL_law_1147 : decode cL_law 1147 = .ok (.iconst 2, 1) := by decide +kernel
theorem dL_law_1148 : decode cL_law 1148 = .ok (.iadd, 1) := by decide +kernel
theorem dL_law_1149 : decode cL_law 1149 = .ok (.iaload, 1) := by decide +kernel
theorem dL_law_1150 : decode cL_law 1150 = .ok (.aload_n 0, 1) := by decide +kernel
theorem dL_law_1151 : decode cL_law 1151 = .ok (.iload_n 3, 1) := by decide +kernel
theorem dL_law_1152 : decode cL_law 1152 = .ok (.iconst 3, 1) := by decide +kernel
theorem dL_law_1153 : decode cL_law 1153 = .ok (.iadd, 1) := by decide +kernel
theorem dL_law_1154 : decode cL_law 1154 = .ok (.iaload, 1) := by decide +kernel
theorem dL_law_1155 : decode cL_law 1155 = .ok (.invokevirtual 137, 3) := by decide +kernel
theorem dL_law_1158 : decode cL_law 1158 = .ok (.aload_n 2, 1) := by decide +kernel
theorem dL_law_1159 : decode cL_law 1159 = .ok (.aload_n 0, 1) := by decide +kernel
theorem dL_law_1160 : decode cL_law 1160 = .ok (.iload_n 3, 1) := by decide +kernel
theorem dL_law_1161 : decode cL_law 1161 = .ok (.iconst 1, 1) := by decide +kernel
theorem dL_law_1162 : decode cL_law 1162 = .ok (.iadd, 1) := by decide +kernel
theorem dL_law_1163 : decode cL_law 1163 = .ok (.iaload, 1) := by decide +kernel
theorem dL_law_1164 : decode cL_law 1164 = .ok (.aload_n 0, 1) := by decide +kernel
theorem dL_law_1165 : decode cL_law 1165 = .ok (.iload_n 3, 1) := by decide +kernel
theorem dL_law_1166 : decode cL_law 1166 = .ok (.iconst 2, 1) := by decide +kernel
theorem dL_law_1167 : decode cL_law 1167 = .ok (.iadd, 1) := by decide +kernel
theorem dL_law_1168 : decode cL_law 1168 = .ok (.iaload, 1) := by decide +kernel
theorem dL_law_1169 : decode cL_law 1169 = .ok (.aload_n 0, 1) := by decide +kernel
theorem dL_law_1170 : decode cL_law 1170 = .ok (.iload_n 3, 1) := by decide +kernel
theorem dL_law_1171 : decode cL_law 1171 = .ok (.iconst 3, 1) := by decide +kernel
theorem dL_law_1172 : decode cL_law 1172 = .ok (.iadd, 1) := by decide +kernel
theorem dL_law_1173 : decode cL_law 1173 = .ok (.iaload, 1) := by decide +kernel
theorem dL_law_1174 : decode cL_law 1174 = .ok (.invokevirtual 140, 3) := by decide +kernel
theorem dL_law_1177 : decode cL_law 1177 = .ok (.if_icmp .eq 368, 3) := by decide +kernel
theorem dL_law_1180 : decode cL_law 1180 = .ok (.iconst 0, 1) := by decide +kernel
theorem dL_law_1181 : decode cL_law 1181 = .ok (.ireturn, 1) := by decide +kernel
theorem dL_law_1182 : decode cL_law 1182 = .ok (.aload_n 1, 1) := by decide +kernel
theorem dL_law_1183 : decode cL_law 1183 = .ok (.aload_n 0, 1) := by decide +kernel
theorem dL_law_1184 : decode cL_law 1184 = .ok (.iload_n 3, 1) := by decide +kernel
theorem dL_law_1185 : decode cL_law 1185 = .ok (.iconst 1, 1) := by decide +kernel
theorem dL_law_1186 : decode cL_law 1186 = .ok (.iadd, 1) := by decide +kernel
theorem dL_law_1187 : decode cL_law 1187 = .ok (.iaload, 1) := by decide +kernel
theorem dL_law_1188 : decode cL_law 1188 = .ok (.invokevirtual 141, 3) := by decide +kernel
theorem dL_law_1191 : decode cL_law 1191 = .ok (.aload_n 2, 1) := by decide +kernel
theorem dL_law_1192 : decode cL_law 1192 = .ok (.aload_n 0, 1) := by decide +kernel
theorem dL_law_1193 : decode cL_law 1193 = .ok (.iload_n 3, 1) := by decide +kernel
theorem dL_law_1194 : decode cL_law 1194 = .ok (.iconst 1, 1) := by decide +kernel
theorem dL_law_1195 : decode cL_law 1195 = .ok (.iadd, 1) := by decide +kernel
theorem dL_law_1196 : decode cL_law 1196 = .ok (.iaload, 1) := by decide +kernel
theorem dL_law_1197 : decode cL_law 1197 = .ok (.invokevirtual 144, 3) := by decide +kernel
theorem dL_law_1200 : decode cL_law 1200 = .ok (.if_icmp .eq 345, 3) := by decide +kernel
theorem dL_law_1203 : decode cL_law 1203 = .ok (.iconst 0, 1) := by decide +kernel
theorem dL_law_1204 : decode cL_law 1204 = .ok (.ireturn, 1) := by decide +kernel
theorem dL_law_1205 : decode cL_law 1205 = .ok (.aload_n 1, 1) := by decide +kernel
theorem dL_law_1206 : decode cL_law 1206 = .ok (.aload_n 0, 1) := by decide +kernel
theorem dL_law_1207 : decode cL_law 1207 = .ok (.iload_n 3, 1) := by decide +kernel
theorem dL_law_1208 : decode cL_law 1208 = .ok (.iconst 1, 1) := by decide +kernel
theorem dL_law_1209 : decode cL_law 1209 = .ok (.iadd, 1) := by decide +kernel
theorem dL_law_1210 : decode cL_law 1210 = .ok (.iaload, 1) := by decide +kernel
theorem dL_law_1211 : decode cL_law 1211 = .ok (.aload_n 0, 1) := by decide +kernel
theorem dL_law_1212 : decode cL_law 1212 = .ok (.iload_n 3, 1) := by decide +kernel
theorem dL_law_1213 : decode cL_law 1213 = .ok (.iconst 2, 1) := by decide +kernel
theorem dL_law_1214 : decode cL_law 1214 = .ok (.iadd, 1) := by decide +kernel
theorem dL_law_1215 : decode cL_law 1215 = .ok (.iaload, 1) := by decide +kernel
theorem dL_law_1216 : decode cL_law 1216 = .ok (.aload_n 0, 1) := by decide +kernel
theorem dL_law_1217 : decode cL_law 1217 = .ok (.iload_n 3, 1) := by decide +kernel
theorem dL_law_1218 : decode cL_law 1218 = .ok (.iconst 3, 1) := by decide +kernel
theorem dL_law_1219 : decode cL_law 1219 = .ok (.iadd, 1) := by decide +kernel
theorem dL_law_1220 : decode cL_law 1220 = .ok (.iaload, 1) := by decide +kernel
theorem dL_law_1221 : decode cL_law 1221 = .ok (.invokevirtual 145, 3) := by decide +kernel
theorem dL_law_1224 : decode cL_law 1224 = .ok (.aload_n 2, 1) := by decide +kernel
theorem dL_law_1225 : decode cL_law 1225 = .ok (.aload_n 0, 1) := by decide +kernel
theorem dL_law_1226 : decode cL_law 1226 = .ok (.iload_n 3, 1) := by decide +kernel
theorem dL_law_1227 : decode cL_law 1227 = .ok (.iconst 1, 1) := by decide +kernel
theorem dL_law_1228 : decode cL_law 1228 = .ok (.iadd, 1) := by decide +kernel
theorem dL_law_1229 : decode cL_law 1229 = .ok (.iaload, 1) := by decide +kernel
theorem dL_law_1230 : decode cL_law 1230 = .ok (.aload_n 0, 1) := by decide +kernel
theorem dL_law_1231 : decode cL_law 1231 = .ok (.iload_n 3, 1) := by decide +kernel
theorem dL_law_1232 : decode cL_law 1232 = .ok (.iconst 2, 1) := by decide +kernel
theorem dL_law_1233 : decode cL_law 1233 = .ok (.iadd, 1) := by decide +kernel
theorem dL_law_1234 : decode cL_law 1234 = .ok (.iaload, 1) := by decide +kernel
theorem dL_law_1235 : decode cL_law 1235 = .ok (.aload_n 0, 1) := by decide +kernel
theorem dL_law_1236 : decode cL_law 1236 = .ok (.iload_n 3, 1) := by decide +kernel
theorem dL_law_1237 : decode cL_law 1237 = .ok (.iconst 3, 1) := by decide +kernel
theorem dL_law_1238 : decode cL_law 1238 = .ok (.iadd, 1) := by decide +kernel
theorem dL_law_1239 : decode cL_law 1239 = .ok (.iaload, 1) := by decide +kernel
theorem dL_law_1240 : decode cL_law 1240 = .ok (.invokevirtual 148, 3) := by decide +kernel
theorem dL_law_1243 : decode cL_law 1243 = .ok (.if_icmp .eq 302, 3) := by decide +kernel
theorem dL_law_1246 : decode cL_law 1246 = .ok (.iconst 0, 1) := by decide +kernel
theorem dL_law_1247 : decode cL_law 1247 = .ok (.ireturn, 1) := by decide +kernel
theorem dL_law_1248 : decode cL_law 1248 = .ok (.aload_n 1, 1) := by decide +kernel
theorem dL_law_1249 : decode cL_law 1249 = .ok (.aload_n 0, 1) := by decide +kernel
theorem dL_law_1250 : decode cL_law 1250 = .ok (.iload_n 3, 1) := by decide +kernel
theorem dL_law_1251 : decode cL_law 1251 = .ok (.iconst 1, 1) := by decide +kernel
theorem dL_law_1252 : decode cL_law 1252 = .ok (.iadd, 1) := by decide +kernel
theorem dL_law_1253 : decode cL_law 1253 = .ok (.iaload, 1) := by decide +kernel
theorem dL_law_1254 : decode cL_law 1254 = .ok (.aload_n 0, 1) := by decide +kernel
theorem dL_law_1255 : decode cL_law 1255 = .ok (.iload_n 3, 1) := by decide +kernel
theorem dL_law_1256 : decode cL_law 1256 = .ok (.iconst 2, 1) := by decide +kernel
theorem dL_law_1257 : decode cL_law 1257 = .ok (.iadd, 1) := by decide +kernel
theorem dL_law_1258 : decode cL_law 1258 = .ok (.iaload, 1) := by decide +kernel
theorem dL_law_1259 : decode cL_law 1259 = .ok (.invokevirtual 149, 3) := by decide +kernel
theorem dL_law_1262 : decode cL_law 1262 = .ok (.aload_n 2, 1) := by decide +kernel
theorem dL_law_1263 : decode cL_law 1263 = .ok (.aload_n 0, 1) := by decide +kernel
theorem dL_law_1264 : decode cL_law 1264 = .ok (.iload_n 3, 1) := by decide +kernel
theorem dL_law_1265 : decode cL_law 1265 = .ok (.iconst 1, 1) := by decide +kernel
theorem dL_law_1266 : decode cL_law 1266 = .ok (.iadd, 1) := by decide +kernel
theorem dL_law_1267 : decode cL_law 1267 = .ok (.iaload, 1) := by decide +kernel
theorem dL_law_1268 : decode cL_law 1268 = .ok (.aload_n 0, 1) := by decide +kernel
theorem dL_law_1269 : decode cL_law 1269 = .ok (.iload_n 3, 1) := by decide +kernel
theorem dL_law_1270 : decode cL_law 1270 = .ok (.iconst 2, 1) := by decide +kernel
theorem dL_law_1271 : decode cL_law 1271 = .ok (.iadd, 1) := by decide +kernel
theorem dL_law_1272 : decode cL_law 1272 = .ok (.iaload, 1) := by decide +kernel
theorem dL_law_1273 : decode cL_law 1273 = .ok (.invokevirtual 152, 3) := by decide +kernel
theorem dL_law_1276 : decode cL_law 1276 = .ok (.if_icmp .eq 269, 3) := by decide +kernel
theorem dL_law_1279 : decode cL_law 1279 = .ok (.iconst 0, 1) := by decide +kernel
theorem dL_law_1280 : decode cL_law 1280 = .ok (.ireturn, 1) := by decide +kernel
theorem dL_law_1281 : decode cL_law 1281 = .ok (.aload_n 1, 1) := by decide +kernel
theorem dL_law_1282 : decode cL_law 1282 = .ok (.aload_n 0, 1) := by decide +kernel
theorem dL_law_1283 : decode cL_law 1283 = .ok (.iload_n 3, 1) := by decide +kernel
theorem dL_law_1284 : decode cL_law 1284 = .ok (.iconst 1, 1) := by decide +kernel
theorem dL_law_1285 : decode cL_law 1285 = .ok (.iadd, 1) := by decide +kernel
theorem dL_law_1286 : decode cL_law 1286 = .ok (.iaload, 1) := by decide +kernel
theorem dL_law_1287 : decode cL_law 1287 = .ok (.aload_n 0, 1) := by decide +kernel
theorem dL_law_1288 : decode cL_law 1288 = .ok (.iload_n 3, 1) := by decide +kernel
theorem dL_law_1289 : decode cL_law 1289 = .ok (.iconst 2, 1) := by decide +kernel
theorem dL_law_1290 : decode cL_law 1290 = .ok (.iadd, 1) := by decide +kernel
theorem dL_law_1291 : decode cL_law 1291 = .ok (.iaload, 1) := by decide +kernel
theorem dL_law_1292 : decode cL_law 1292 = .ok (.aload_n 0, 1) := by decide +kernel
theorem dL_law_1293 : decode cL_law 1293 = .ok (.iload_n 3, 1) := by decide +kernel
theorem dL_law_1294 : decode cL_law 1294 = .ok (.iconst 3, 1) := by decide +kernel
theorem dL_law_1295 : decode cL_law 1295 = .ok (.iadd, 1) := by decide +kernel
theorem dL_law_1296 : decode cL_law 1296 = .ok (.iaload, 1) := by decide +kernel
theorem dL_law_1297 : decode cL_law 1297 = .ok (.invokevirtual 153, 3) := by decide +kernel
theorem dL_law_1300 : decode cL_law 1300 = .ok (.aload_n 2, 1) := by decide +kernel
theorem dL_law_1301 : decode cL_law 1301 = .ok (.aload_n 0, 1) := by decide +kernel
theorem dL_law_1302 : decode cL_law 1302 = .ok (.iload_n 3, 1) := by decide +kernel
theorem dL_law_1303 : decode cL_law 1303 = .ok (.iconst 1, 1) := by decide +kernel
theorem dL_law_1304 : decode cL_law 1304 = .ok (.iadd, 1) := by decide +kernel
theorem dL_law_1305 : decode cL_law 1305 = .ok (.iaload, 1) := by decide +kernel
theorem dL_law_1306 : decode cL_law 1306 = .ok (.aload_n 0, 1) := by decide +kernel
theorem dL_law_1307 : decode cL_law 1307 = .ok (.iload_n 3, 1) := by decide +kernel
theorem dL_law_1308 : decode cL_law 1308 = .ok (.iconst 2, 1) := by decide +kernel
theorem dL_law_1309 : decode cL_law 1309 = .ok (.iadd, 1) := by decide +kernel
theorem dL_law_1310 : decode cL_law 1310 = .ok (.iaload, 1) := by decide +kernel
theorem dL_law_1311 : decode cL_law 1311 = .ok (.aload_n 0, 1) := by decide +kernel
theorem dL_law_1312 : decode cL_law 1312 = .ok (.iload_n 3, 1) := by decide +kernel
theorem dL_law_1313 : decode cL_law 1313 = .ok (.iconst 3, 1) := by decide +kernel
theorem dL_law_1314 : decode cL_law 1314 = .ok (.iadd, 1) := by decide +kernel
theorem dL_law_1315 : decode cL_law 1315 = .ok (.iaload, 1) := by decide +kernel
theorem dL_law_1316 : decode cL_law 1316 = .ok (.invokevirtual 156, 3) := by decide +kernel
theorem dL_law_1319 : decode cL_law 1319 = .ok (.if_icmp .eq 226, 3) := by decide +kernel
theorem dL_law_1322 : decode cL_law 1322 = .ok (.iconst 0, 1) := by decide +kernel
theorem dL_law_1323 : decode cL_law 1323 = .ok (.ireturn, 1) := by decide +kernel
theorem dL_law_1324 : decode cL_law 1324 = .ok (.aload_n 1, 1) := by decide +kernel
theorem dL_law_1325 : decode cL_law 1325 = .ok (.aload_n 0, 1) := by decide +kernel
theorem dL_law_1326 : decode cL_law 1326 = .ok (.iload_n 3, 1) := by decide +kernel
theorem dL_law_1327 : decode cL_law 1327 = .ok (.iconst 1, 1) := by decide +kernel
theorem dL_law_1328 : decode cL_law 1328 = .ok (.iadd, 1) := by decide +kernel
theorem dL_law_1329 : decode cL_law 1329 = .ok (.iaload, 1) := by decide +kernel
theorem dL_law_1330 : decode cL_law 1330 = .ok (.invokevirtual 157, 3) := by decide +kernel
theorem dL_law_1333 : decode cL_law 1333 = .ok (.aload_n 2, 1) := by decide +kernel
theorem dL_law_1334 : decode cL_law 1334 = .ok (.aload_n 0, 1) := by decide +kernel
theorem dL_law_1335 : decode cL_law 1335 = .ok (.iload_n 3, 1) := by decide +kernel
theorem dL_law_1336 : decode cL_law 1336 = .ok (.iconst 1, 1) := by decide +kernel
theorem dL_law_1337 : decode cL_law 1337 = .ok (.iadd, 1) := by decide +kernel
theorem dL_law_1338 : decode cL_law 1338 = .ok (.iaload, 1) := by decide +kernel
theorem dL_law_1339 : decode cL_law 1339 = .ok (.invokevirtual 160, 3) := by decide +kernel
theorem dL_law_1342 : decode cL_law 1342 = .ok (.if_icmp .eq 203, 3) := by decide +kernel
theorem dL_law_1345 : decode cL_law 1345 = .ok (.iconst 0, 1) := by decide +kernel
theorem dL_law_1346 : decode cL_law 1346 = .ok (.ireturn, 1) := by decide +kernel
theorem dL_law_1347 : decode cL_law 1347 = .ok (.aload_n 1, 1) := by decide +kernel
theorem dL_law_1348 : decode cL_law 1348 = .ok (.aload_n 0, 1) := by decide +kernel
theorem dL_law_1349 : decode cL_law 1349 = .ok (.iload_n 3, 1) := by decide +kernel
theorem dL_law_1350 : decode cL_law 1350 = .ok (.iconst 1, 1) := by decide +kernel
theorem dL_law_1351 : decode cL_law 1351 = .ok (.iadd, 1) := by decide +kernel
theorem dL_law_1352 : decode cL_law 1352 = .ok (.iaload, 1) := by decide +kernel
theorem dL_law_1353 : decode cL_law 1353 = .ok (.invokevirtual 161, 3) := by decide +kernel
theorem dL_law_1356 : decode cL_law 1356 = .ok (.aload_n 2, 1) := by decide +kernel
theorem dL_law_1357 : decode cL_law 1357 = .ok (.aload_n 0, 1) := by decide +kernel
theorem dL_law_1358 : decode cL_law 1358 = .ok (.iload_n 3, 1) := by decide +kernel
theorem dL_law_1359 : decode cL_law 1359 = .ok (.iconst 1, 1) := by decide +kernel
theorem dL_law_1360 : decode cL_law 1360 = .ok (.iadd, 1) := by decide +kernel
theorem dL_law_1361 : decode cL_law 1361 = .ok (.iaload, 1) := by decide +kernel
theorem dL_law_1362 : decode cL_law 1362 = .ok (.invokevirtual 164, 3) := by decide +kernel
theorem dL_law_1365 : decode cL_law 1365 = .ok (.if_icmp .eq 180, 3) := by decide +kernel
theorem dL_law_1368 : decode cL_law 1368 = .ok (.iconst 0, 1) := by decide +kernel
theorem dL_law_1369 : decode cL_law 1369 = .ok (.ireturn, 1) := by decide +kernel
theorem dL_law_1370 : decode cL_law 1370 = .ok (.aload_n 1, 1) := by decide +kernel
theorem dL_law_1371 : decode cL_law 1371 = .ok (.aload_n 0, 1) := by decide +kernel
theorem dL_law_1372 : decode cL_law 1372 = .ok (.iload_n 3, 1) := by decide +kernel
theorem dL_law_1373 : decode cL_law 1373 = .ok (.iconst 1, 1) := by decide +kernel
theorem dL_law_1374 : decode cL_law 1374 = .ok (.iadd, 1) := by decide +kernel
theorem dL_law_1375 : decode cL_law 1375 = .ok (.iaload, 1) := by decide +kernel
theorem dL_law_1376 : decode cL_law 1376 = .ok (.aload_n 0, 1) := by decide +kernel
theorem dL_law_1377 : decode cL_law 1377 = .ok (.iload_n 3, 1) := by decide +kernel
theorem dL_law_1378 : decode cL_law 1378 = .ok (.iconst 2, 1) := by decide +kernel
theorem dL_law_1379 : decode cL_law 1379 = .ok (.iadd, 1) := by decide +kernel
theorem dL_law_1380 : decode cL_law 1380 = .ok (.iaload, 1) := by decide +kernel
theorem dL_law_1381 : decode cL_law 1381 = .ok (.aload_n 0, 1) := by decide +kernel
theorem dL_law_1382 : decode cL_law 1382 = .ok (.iload_n 3, 1) := by decide +kernel
theorem dL_law_1383 : decode cL_law 1383 = .ok (.iconst 3, 1) := by decide +kernel
theorem dL_law_1384 : decode cL_law 1384 = .ok (.iadd, 1) := by decide +kernel
theorem dL_law_1385 : decode cL_law 1385 = .ok (.iaload, 1) := by decide +kernel
theorem dL_law_1386 : decode cL_law 1386 = .ok (.invokevirtual 165, 3) := by decide +kernel
theorem dL_law_1389 : decode cL_law 1389 = .ok (.aload_n 2, 1) := by decide +kernel
theorem dL_law_1390 : decode cL_law 1390 = .ok (.aload_n 0, 1) := by decide +kernel
theorem dL_law_1391 : decode cL_law 1391 = .ok (.iload_n 3, 1) := by decide +kernel
theorem dL_law_1392 : decode cL_law 1392 = .ok (.iconst 1, 1) := by decide +kernel
theorem dL_law_1393 : decode cL_law 1393 = .ok (.iadd, 1) := by decide +kernel
theorem dL_law_1394 : decode cL_law 1394 = .ok (.iaload, 1) := by decide +kernel
theorem dL_law_1395 : decode cL_law 1395 = .ok (.aload_n 0, 1) := by decide +kernel
theorem dL_law_1396 : decode cL_law 1396 = .ok (.iload_n 3, 1) := by decide +kernel
theorem dL_law_1397 : decode cL_law 1397 = .ok (.iconst 2, 1) := by decide +kernel
theorem dL_law_1398 : decode cL_law 1398 = .ok (.iadd, 1) := by decide +kernel
theorem dL_law_1399 : decode cL_law 1399 = .ok (.iaload, 1) := by decide +kernel
theorem dL_law_1400 : decode cL_law 1400 = .ok (.aload_n 0, 1) := by decide +kernel
theorem dL_law_1401 : decode cL_law 1401 = .ok (.iload_n 3, 1) := by decide +kernel
theorem dL_law_1402 : decode cL_law 1402 = .ok (.iconst 3, 1) := by decide +kernel
theorem dL_law_1403 : decode cL_law 1403 = .ok (.iadd, 1) := by decide +kernel
theorem dL_law_1404 : decode cL_law 1404 = .ok (.iaload, 1) := by decide +kernel
theorem dL_law_1405 : decode cL_law 1405 = .ok (.invokevirtual 168, 3) := by decide +kernel
theorem dL_law_1408 : decode cL_law 1408 = .ok (.if_icmp .eq 137, 3) := by decide +kernel
theorem dL_law_1411 : decode cL_law 1411 = .ok (.iconst 0, 1) := by decide +kernel
theorem dL_law_1412 : decode cL_law 1412 = .ok (.ireturn, 1) := by decide +kernel
theorem dL_law_1413 : decode cL_law 1413 = .ok (.aload_n 1, 1) := by decide +kernel
theorem dL_law_1414 : decode cL_law 1414 = .ok (.aload_n 0, 1) := by decide +kernel
theorem dL_law_1415 : decode cL_law 1415 = .ok (.iload_n 3, 1) := by decide +kernel
theorem dL_law_1416 : decode cL_law 1416 = .ok (.iconst 1, 1) := by decide +kernel
theorem dL_law_1417 : decode cL_law 1417 = .ok (.iadd, 1) := by decide +kernel
theorem dL_law_1418 : decode cL_law 1418 = .ok (.iaload, 1) := by decide +kernel
theorem dL_law_1419 : decode cL_law 1419 = .ok (.aload_n 0, 1) := by decide +kernel
theorem dL_law_1420 : decode cL_law 1420 = .ok (.iload_n 3, 1) := by decide +kernel
theorem dL_law_1421 : decode cL_law 1421 = .ok (.iconst 2, 1) := by decide +kernel
theorem dL_law_1422 : decode cL_law 1422 = .ok (.iadd, 1) := by decide +kernel
theorem dL_law_1423 : decode cL_law 1423 = .ok (.iaload, 1) := by decide +kernel
theorem dL_law_1424 : decode cL_law 1424 = .ok (.aload_n 0, 1) := by decide +kernel
theorem dL_law_1425 : decode cL_law 1425 = .ok (.iload_n 3, 1) := by decide +kernel
theorem dL_law_1426 : decode cL_law 1426 = .ok (.iconst 3, 1) := by decide +kernel
theorem dL_law_1427 : decode cL_law 1427 = .ok (.iadd, 1) := by decide +kernel
theorem dL_law_1428 : decode cL_law 1428 = .ok (.iaload, 1) := by decide +kernel
theorem dL_law_1429 : decode cL_law 1429 = .ok (.invokevirtual 169, 3) := by decide +kernel
theorem dL_law_1432 : decode cL_law 1432 = .ok (.aload_n 2, 1) := by decide +kernel
theorem dL_law_1433 : decode cL_law 1433 = .ok (.aload_n 0, 1) := by decide +kernel
theorem dL_law_1434 : decode cL_law 1434 = .ok (.iload_n 3, 1) := by decide +kernel
theorem dL_law_1435 : decode cL_law 1435 = .ok (.iconst 1, 1) := by decide +kernel
theorem dL_law_1436 : decode cL_law 1436 = .ok (.iadd, 1) := by decide +kernel
theorem dL_law_1437 : decode cL_law 1437 = .ok (.iaload, 1) := by decide +kernel
theorem dL_law_1438 : decode cL_law 1438 = .ok (.aload_n 0, 1) := by decide +kernel
theorem dL_law_1439 : decode cL_law 1439 = .ok (.iload_n 3, 1) := by decide +kernel
theorem dL_law_1440 : decode cL_law 1440 = .ok (.iconst 2, 1) := by decide +kernel
theorem dL_law_1441 : decode cL_law 1441 = .ok (.iadd, 1) := by decide +kernel
theorem dL_law_1442 : decode cL_law 1442 = .ok (.iaload, 1) := by decide +kernel
theorem dL_law_1443 : decode cL_law 1443 = .ok (.aload_n 0, 1) := by decide +kernel
theorem dL_law_1444 : decode cL_law 1444 = .ok (.iload_n 3, 1) := by decide +kernel
theorem dL_law_1445 : decode cL_law 1445 = .ok (.iconst 3, 1) := by decide +kernel
theorem dL_law_1446 : decode cL_law 1446 = .ok (.iadd, 1) := by decide +kernel
theorem dL_law_1447 : decode cL_law 1447 = .ok (.iaload, 1) := by decide +kernel
theorem dL_law_1448 : decode cL_law 1448 = .ok (.invokevirtual 172, 3) := by decide +kernel
theorem dL_law_1451 : decode cL_law 1451 = .ok (.if_icmp .eq 94, 3) := by decide +kernel
theorem dL_law_1454 : decode cL_law 1454 = .ok (.iconst 0, 1) := by decide +kernel
theorem dL_law_1455 : decode cL_law 1455 = .ok (.ireturn, 1) := by decide +kernel
theorem dL_law_1456 : decode cL_law 1456 = .ok (.aload_n 1, 1) := by decide +kernel
theorem dL_law_1457 : decode cL_law 1457 = .ok (.aload_n 0, 1) := by decide +kernel
theorem dL_law_1458 : decode cL_law 1458 = .ok (.iload_n 3, 1) := by decide +kernel
theorem dL_law_1459 : decode cL_law 1459 = .ok (.iconst 1, 1) := by decide +kernel
theorem dL_law_1460 : decode cL_law 1460 = .ok (.iadd, 1) := by decide +kernel
theorem dL_law_1461 : decode cL_law 1461 = .ok (.iaload, 1) := by decide +kernel
theorem dL_law_1462 : decode cL_law 1462 = .ok (.aload_n 0, 1) := by decide +kernel
theorem dL_law_1463 : decode cL_law 1463 = .ok (.iload_n 3, 1) := by decide +kernel
theorem dL_law_1464 : decode cL_law 1464 = .ok (.iconst 2, 1) := by decide +kernel
theorem dL_law_1465 : decode cL_law 1465 = .ok (.iadd, 1) := by decide +kernel
theorem dL_law_1466 : decode cL_law 1466 = .ok (.iaload, 1) := by decide +kernel
theorem dL_law_1467 : decode cL_law 1467 = .ok (.aload_n 0, 1) := by decide +kernel
theorem dL_law_1468 : decode cL_law 1468 = .ok (.iload_n 3, 1) := by decide +kernel
theorem dL_law_1469 : decode cL_law 1469 = .ok (.iconst 3, 1) := by decide +kernel
theorem dL_law_1470 : decode cL_law 1470 = .ok (.iadd, 1) := by decide +kernel
theorem dL_law_1471 : decode cL_law 1471 = .ok (.iaload, 1) := by decide +kernel
theorem dL_law_1472 : decode cL_law 1472 = .ok (.aload_n 0, 1) := by decide +kernel
theorem dL_law_1473 : decode cL_law 1473 = .ok (.iload_n 3, 1) := by decide +kernel
theorem dL_law_1474 : decode cL_law 1474 = .ok (.iconst 4, 1) := by decide +kernel
theorem dL_law_1475 : decode cL_law 1475 = .ok (.iadd, 1) := by decide +kernel
theorem dL_law_1476 : decode cL_law 1476 = .ok (.iaload, 1) := by decide +kernel
theorem dL_law_1477 : decode cL_law 1477 = .ok (.invokevirtual 173, 3) := by decide +kernel
theorem dL_law_1480 : decode cL_law 1480 = .ok (.aload_n 2, 1) := by decide +kernel
theorem dL_law_1481 : decode cL_law 1481 = .ok (.aload_n 0, 1) := by decide +kernel
theorem dL_law_1482 : decode cL_law 1482 = .ok (.iload_n 3, 1) := by decide +kernel
theorem dL_law_1483 : decode cL_law 1483 = .ok (.iconst 1, 1) := by decide +kernel
theorem dL_law_1484 : decode cL_law 1484 = .ok (.iadd, 1) := by decide +kernel
theorem dL_law_1485 : decode cL_law 1485 = .ok (.iaload, 1) := by decide +kernel
theorem dL_law_1486 : decode cL_law 1486 = .ok (.aload_n 0, 1) := by decide +kernel
theorem dL_law_1487 : decode cL_law 1487 = .ok (.iload_n 3, 1) := by decide +kernel
theorem dL_law_1488 : decode cL_law 1488 = .ok (.iconst 2, 1) := by decide +kernel
theorem dL_law_1489 : decode cL_law 1489 = .ok (.iadd, 1) := by decide +kernel
theorem dL_law_1490 : decode cL_law 1490 = .ok (.iaload, 1) := by decide +kernel
theorem dL_law_1491 : decode cL_law 1491 = .ok (.aload_n 0, 1) := by decide +kernel
theorem dL_law_1492 : decode cL_law 1492 = .ok (.iload_n 3, 1) := by decide +kernel
theorem dL_law_1493 : decode cL_law 1493 = .ok (.iconst 3, 1) := by decide +kernel
theorem dL_law_1494 : decode cL_law 1494 = .ok (.iadd, 1) := by decide +kernel
theorem dL_law_1495 : decode cL_law 1495 = .ok (.iaload, 1) := by decide +kernel
theorem dL_law_1496 : decode cL_law 1496 = .ok (.aload_n 0, 1) := by decide +kernel
theorem dL_law_1497 : decode cL_law 1497 = .ok (.iload_n 3, 1) := by decide +kernel
theorem dL_law_1498 : decode cL_law 1498 = .ok (.iconst 4, 1) := by decide +kernel
theorem dL_law_1499 : decode cL_law 1499 = .ok (.iadd, 1) := by decide +kernel
theorem dL_law_1500 : decode cL_law 1500 = .ok (.iaload, 1) := by decide +kernel
theorem dL_law_1501 : decode cL_law 1501 = .ok (.invokevirtual 176, 3) := by decide +kernel
theorem dL_law_1504 : decode cL_law 1504 = .ok (.if_icmp .eq 41, 3) := by decide +kernel
theorem dL_law_1507 : decode cL_law 1507 = .ok (.iconst 0, 1) := by decide +kernel
theorem dL_law_1508 : decode cL_law 1508 = .ok (.ireturn, 1) := by decide +kernel
theorem dL_law_1509 : decode cL_law 1509 = .ok (.aload_n 1, 1) := by decide +kernel
theorem dL_law_1510 : decode cL_law 1510 = .ok (.invokevirtual 177, 3) := by decide +kernel
theorem dL_law_1513 : decode cL_law 1513 = .ok (.aload_n 2, 1) := by decide +kernel
theorem dL_law_1514 : decode cL_law 1514 = .ok (.invokevirtual 180, 3) := by decide +kernel
theorem dL_law_1517 : decode cL_law 1517 = .ok (.if_icmp .eq 28, 3) := by decide +kernel
theorem dL_law_1520 : decode cL_law 1520 = .ok (.iconst 0, 1) := by decide +kernel
theorem dL_law_1521 : decode cL_law 1521 = .ok (.ireturn, 1) := by decide +kernel
theorem dL_law_1522 : decode cL_law 1522 = .ok (.aload_n 1, 1) := by decide +kernel
theorem dL_law_1523 : decode cL_law 1523 = .ok (.aload_n 0, 1) := by decide +kernel
theorem dL_law_1524 : decode cL_law 1524 = .ok (.iload_n 3, 1) := by decide +kernel
theorem dL_law_1525 : decode cL_law 1525 = .ok (.iconst 1, 1) := by decide +kernel
theorem dL_law_1526 : decode cL_law 1526 = .ok (.iadd, 1) := by decide +kernel
theorem dL_law_1527 : decode cL_law 1527 = .ok (.iaload, 1) := by decide +kernel
theorem dL_law_1528 : decode cL_law 1528 = .ok (.invokevirtual 181, 3) := by decide +kernel
theorem dL_law_1531 : decode cL_law 1531 = .ok (.aload_n 2, 1) := by decide +kernel
theorem dL_law_1532 : decode cL_law 1532 = .ok (.aload_n 0, 1) := by decide +kernel
theorem dL_law_1533 : decode cL_law 1533 = .ok (.iload_n 3, 1) := by decide +kernel
theorem dL_law_1534 : decode cL_law 1534 = .ok (.iconst 1, 1) := by decide +kernel
theorem dL_law_1535 : decode cL_law 1535 = .ok (.iadd, 1) := by decide +kernel
theorem dL_law_1536 : decode cL_law 1536 = .ok (.iaload, 1) := by decide +kernel
theorem dL_law_1537 : decode cL_law 1537 = .ok (.invokevirtual 184, 3) := by decide +kernel
theorem dL_law_1540 : decode cL_law 1540 = .ok (.if_icmp .eq 5, 3) := by decide +kernel
theorem dL_law_1543 : decode cL_law 1543 = .ok (.iconst 0, 1) := by decide +kernel
theorem dL_law_1544 : decode cL_law 1544 = .ok (.ireturn, 1) := by decide +kernel
theorem dL_law_1545 : decode cL_law 1545 = .ok (.iinc 3 5, 3) := by decide +kernel
theorem dL_law_1548 : decode cL_law 1548 = .ok (.goto (-1530), 3) := by decide +kernel
theorem dL_law_1551 : decode cL_law 1551 = .ok (.iconst 1, 1) := by decide +kernel
theorem dL_law_1552 : decode cL_law 1552 = .ok (.ireturn, 1) := by decide +kernel
end
section
theorem zz_last : True := trivial
end
