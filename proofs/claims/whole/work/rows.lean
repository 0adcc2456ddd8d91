section
-- ===== PART A: goes FIRST, ahead of the names: the tables' words, and 'selects' of the private methods out of them =====
/-- a private method of a class that the tables say can be made, by its rows of tables_1 -/
def lw_okq (q : MethodName × Nat) : Prop := (q.1.cls ≠ "java/lang/invoke/MethodHandle" ∧ q.1.cls ≠ "java/lang/invoke/VarHandle") ∧ Cond.instantiable q.1.cls q.2 ∈ tables_1 ∧ Cond.privateMethod q.1 ∈ tables_1 ∧ Cond.instanceMethod q.1 ∈ tables_1
theorem lw_p0 : lw_okq (⟨"FlexTerms$Bodies", "spell", "(IIIII)V"⟩, 3) := ⟨⟨by decide +kernel, by decide +kernel⟩, List.mem_of_getElem? (i := 116) (by decide +kernel), List.mem_of_getElem? (i := 122) (by decide +kernel), List.mem_of_getElem? (i := 123) (by decide +kernel)⟩
theorem lw_p1 : lw_okq (⟨"FlexTerms$Bodies", "keep", "(I)V"⟩, 3) := ⟨⟨by decide +kernel, by decide +kernel⟩, List.mem_of_getElem? (i := 116) (by decide +kernel), List.mem_of_getElem? (i := 126) (by decide +kernel), List.mem_of_getElem? (i := 127) (by decide +kernel)⟩
theorem lw_p2 : lw_okq (⟨"FlexTerms", "refuse", "(I)I"⟩, 12) := ⟨⟨by decide +kernel, by decide +kernel⟩, List.mem_of_getElem? (i := 22) (by decide +kernel), List.mem_of_getElem? (i := 419) (by decide +kernel), List.mem_of_getElem? (i := 420) (by decide +kernel)⟩
theorem lw_p3 : lw_okq (⟨"FlexTerms$Text", "accepts", "(ILFlexTerms$Equations;)Z"⟩, 5) := ⟨⟨by decide +kernel, by decide +kernel⟩, List.mem_of_getElem? (i := 30) (by decide +kernel), List.mem_of_getElem? (i := 451) (by decide +kernel), List.mem_of_getElem? (i := 452) (by decide +kernel)⟩
theorem lw_p4 : lw_okq (⟨"FlexTerms$Text", "acceptsLetter", "(ILFlexTerms$Equations;)Z"⟩, 5) := ⟨⟨by decide +kernel, by decide +kernel⟩, List.mem_of_getElem? (i := 30) (by decide +kernel), List.mem_of_getElem? (i := 455) (by decide +kernel), List.mem_of_getElem? (i := 456) (by decide +kernel)⟩
theorem lw_p5 : lw_okq (⟨"FlexTerms$Text", "acceptsInside", "(I)Z"⟩, 5) := ⟨⟨by decide +kernel, by decide +kernel⟩, List.mem_of_getElem? (i := 30) (by decide +kernel), List.mem_of_getElem? (i := 465) (by decide +kernel), List.mem_of_getElem? (i := 466) (by decide +kernel)⟩
theorem lw_p6 : lw_okq (⟨"FlexTerms$Text", "acceptsOutside", "(ILFlexTerms$Equations;)Z"⟩, 5) := ⟨⟨by decide +kernel, by decide +kernel⟩, List.mem_of_getElem? (i := 30) (by decide +kernel), List.mem_of_getElem? (i := 469) (by decide +kernel), List.mem_of_getElem? (i := 470) (by decide +kernel)⟩
theorem lw_p7 : lw_okq (⟨"FlexTerms$Equations", "measure", "()V"⟩, 7) := ⟨⟨by decide +kernel, by decide +kernel⟩, List.mem_of_getElem? (i := 53) (by decide +kernel), List.mem_of_getElem? (i := 492) (by decide +kernel), List.mem_of_getElem? (i := 493) (by decide +kernel)⟩
theorem lw_p8 : lw_okq (⟨"FlexTerms", "arrange", "()V"⟩, 12) := ⟨⟨by decide +kernel, by decide +kernel⟩, List.mem_of_getElem? (i := 22) (by decide +kernel), List.mem_of_getElem? (i := 508) (by decide +kernel), List.mem_of_getElem? (i := 509) (by decide +kernel)⟩
theorem lw_p9 : lw_okq (⟨"FlexTerms$Pairs", "takeApart", "(II)V"⟩, 4) := ⟨⟨by decide +kernel, by decide +kernel⟩, List.mem_of_getElem? (i := 97) (by decide +kernel), List.mem_of_getElem? (i := 532) (by decide +kernel), List.mem_of_getElem? (i := 533) (by decide +kernel)⟩
theorem lw_p10 : lw_okq (⟨"FlexTerms$Pairs", "keep", "(II)V"⟩, 4) := ⟨⟨by decide +kernel, by decide +kernel⟩, List.mem_of_getElem? (i := 97) (by decide +kernel), List.mem_of_getElem? (i := 542) (by decide +kernel), List.mem_of_getElem? (i := 543) (by decide +kernel)⟩
theorem lw_p11 : lw_okq (⟨"FlexTerms", "sideFact", "(III)I"⟩, 12) := ⟨⟨by decide +kernel, by decide +kernel⟩, List.mem_of_getElem? (i := 22) (by decide +kernel), List.mem_of_getElem? (i := 603) (by decide +kernel), List.mem_of_getElem? (i := 604) (by decide +kernel)⟩
theorem lw_p12 : lw_okq (⟨"FlexTerms$Writing", "putLetter", "(I)V"⟩, 4) := ⟨⟨by decide +kernel, by decide +kernel⟩, List.mem_of_getElem? (i := 359) (by decide +kernel), List.mem_of_getElem? (i := 630) (by decide +kernel), List.mem_of_getElem? (i := 631) (by decide +kernel)⟩
theorem lw_p13 : lw_okq (⟨"FlexTerms$Writing", "endTerm", "()V"⟩, 4) := ⟨⟨by decide +kernel, by decide +kernel⟩, List.mem_of_getElem? (i := 359) (by decide +kernel), List.mem_of_getElem? (i := 639) (by decide +kernel), List.mem_of_getElem? (i := 640) (by decide +kernel)⟩
theorem lw_p14 : lw_okq (⟨"FlexTerms$Search", "prepare", "()V"⟩, 10) := ⟨⟨by decide +kernel, by decide +kernel⟩, List.mem_of_getElem? (i := 322) (by decide +kernel), List.mem_of_getElem? (i := 696) (by decide +kernel), List.mem_of_getElem? (i := 697) (by decide +kernel)⟩
theorem lw_p15 : lw_okq (⟨"FlexTerms$Search", "lookThrough", "(II)V"⟩, 10) := ⟨⟨by decide +kernel, by decide +kernel⟩, List.mem_of_getElem? (i := 322) (by decide +kernel), List.mem_of_getElem? (i := 717) (by decide +kernel), List.mem_of_getElem? (i := 718) (by decide +kernel)⟩
def lw_privs_1 : List (MethodName × Nat) := [(⟨"FlexTerms$Bodies", "spell", "(IIIII)V"⟩, 3), (⟨"FlexTerms$Bodies", "keep", "(I)V"⟩, 3), (⟨"FlexTerms", "refuse", "(I)I"⟩, 12), (⟨"FlexTerms$Text", "accepts", "(ILFlexTerms$Equations;)Z"⟩, 5), (⟨"FlexTerms$Text", "acceptsLetter", "(ILFlexTerms$Equations;)Z"⟩, 5), (⟨"FlexTerms$Text", "acceptsInside", "(I)Z"⟩, 5), (⟨"FlexTerms$Text", "acceptsOutside", "(ILFlexTerms$Equations;)Z"⟩, 5), (⟨"FlexTerms$Equations", "measure", "()V"⟩, 7), (⟨"FlexTerms", "arrange", "()V"⟩, 12), (⟨"FlexTerms$Pairs", "takeApart", "(II)V"⟩, 4), (⟨"FlexTerms$Pairs", "keep", "(II)V"⟩, 4), (⟨"FlexTerms", "sideFact", "(III)I"⟩, 12), (⟨"FlexTerms$Writing", "putLetter", "(I)V"⟩, 4), (⟨"FlexTerms$Writing", "endTerm", "()V"⟩, 4), (⟨"FlexTerms$Search", "prepare", "()V"⟩, 10), (⟨"FlexTerms$Search", "lookThrough", "(II)V"⟩, 10)]
theorem lw_r1 : ∀ q ∈ lw_privs_1, lw_okq q := List.forall_mem_cons.mpr ⟨lw_p0, List.forall_mem_cons.mpr ⟨lw_p1, List.forall_mem_cons.mpr ⟨lw_p2, List.forall_mem_cons.mpr ⟨lw_p3, List.forall_mem_cons.mpr ⟨lw_p4, List.forall_mem_cons.mpr ⟨lw_p5, List.forall_mem_cons.mpr ⟨lw_p6, List.forall_mem_cons.mpr ⟨lw_p7, List.forall_mem_cons.mpr ⟨lw_p8, List.forall_mem_cons.mpr ⟨lw_p9, List.forall_mem_cons.mpr ⟨lw_p10, List.forall_mem_cons.mpr ⟨lw_p11, List.forall_mem_cons.mpr ⟨lw_p12, List.forall_mem_cons.mpr ⟨lw_p13, List.forall_mem_cons.mpr ⟨lw_p14, List.forall_mem_cons.mpr ⟨lw_p15, fun _ h => absurd h List.not_mem_nil⟩⟩⟩⟩⟩⟩⟩⟩⟩⟩⟩⟩⟩⟩⟩⟩
theorem lw_p16 : lw_okq (⟨"FlexTerms$Search", "keepIfItFits", "()V"⟩, 10) := ⟨⟨by decide +kernel, by decide +kernel⟩, List.mem_of_getElem? (i := 322) (by decide +kernel), List.mem_of_getElem? (i := 721) (by decide +kernel), List.mem_of_getElem? (i := 722) (by decide +kernel)⟩
theorem lw_p17 : lw_okq (⟨"FlexTerms$Growth", "measure", "(I)V"⟩, 8) := ⟨⟨by decide +kernel, by decide +kernel⟩, List.mem_of_getElem? (i := 193) (by decide +kernel), List.mem_of_getElem? (i := 731) (by decide +kernel), List.mem_of_getElem? (i := 732) (by decide +kernel)⟩
theorem lw_p18 : lw_okq (⟨"FlexTerms$Bodies", "bound", "(I)I"⟩, 3) := ⟨⟨by decide +kernel, by decide +kernel⟩, List.mem_of_getElem? (i := 116) (by decide +kernel), List.mem_of_getElem? (i := 758) (by decide +kernel), List.mem_of_getElem? (i := 759) (by decide +kernel)⟩
theorem lw_p19 : lw_okq (⟨"FlexTerms$Search", "pairsAgree", "(I)Z"⟩, 10) := ⟨⟨by decide +kernel, by decide +kernel⟩, List.mem_of_getElem? (i := 322) (by decide +kernel), List.mem_of_getElem? (i := 770) (by decide +kernel), List.mem_of_getElem? (i := 771) (by decide +kernel)⟩
theorem lw_p20 : lw_okq (⟨"FlexTerms$Growth", "build", "(I)V"⟩, 8) := ⟨⟨by decide +kernel, by decide +kernel⟩, List.mem_of_getElem? (i := 193) (by decide +kernel), List.mem_of_getElem? (i := 780) (by decide +kernel), List.mem_of_getElem? (i := 781) (by decide +kernel)⟩
theorem lw_p21 : lw_okq (⟨"FlexTerms$Growth", "copyPart", "(I)V"⟩, 8) := ⟨⟨by decide +kernel, by decide +kernel⟩, List.mem_of_getElem? (i := 193) (by decide +kernel), List.mem_of_getElem? (i := 785) (by decide +kernel), List.mem_of_getElem? (i := 786) (by decide +kernel)⟩
theorem lw_p22 : lw_okq (⟨"FlexTerms", "fact", "(I)I"⟩, 12) := ⟨⟨by decide +kernel, by decide +kernel⟩, List.mem_of_getElem? (i := 22) (by decide +kernel), List.mem_of_getElem? (i := 859) (by decide +kernel), List.mem_of_getElem? (i := 860) (by decide +kernel)⟩
theorem lw_p23 : lw_okq (⟨"FlexTerms", "digestBodies", "(JI)J"⟩, 12) := ⟨⟨by decide +kernel, by decide +kernel⟩, List.mem_of_getElem? (i := 22) (by decide +kernel), List.mem_of_getElem? (i := 870) (by decide +kernel), List.mem_of_getElem? (i := 871) (by decide +kernel)⟩
theorem lw_p24 : lw_okq (⟨"FlexTermsModel", "no", "()I"⟩, 31) := ⟨⟨by decide +kernel, by decide +kernel⟩, List.mem_of_getElem? (i := 874) (by decide +kernel), List.mem_of_getElem? (i := 987) (by decide +kernel), List.mem_of_getElem? (i := 988) (by decide +kernel)⟩
theorem lw_p25 : lw_okq (⟨"FlexTermsModel", "bad", "()I"⟩, 31) := ⟨⟨by decide +kernel, by decide +kernel⟩, List.mem_of_getElem? (i := 874) (by decide +kernel), List.mem_of_getElem? (i := 998) (by decide +kernel), List.mem_of_getElem? (i := 999) (by decide +kernel)⟩
theorem lw_p26 : lw_okq (⟨"FlexTermsModel", "full", "()I"⟩, 31) := ⟨⟨by decide +kernel, by decide +kernel⟩, List.mem_of_getElem? (i := 874) (by decide +kernel), List.mem_of_getElem? (i := 1002) (by decide +kernel), List.mem_of_getElem? (i := 1003) (by decide +kernel)⟩
theorem lw_p27 : lw_okq (⟨"FlexTermsModel", "isRead", "()Z"⟩, 31) := ⟨⟨by decide +kernel, by decide +kernel⟩, List.mem_of_getElem? (i := 874) (by decide +kernel), List.mem_of_getElem? (i := 1014) (by decide +kernel), List.mem_of_getElem? (i := 1015) (by decide +kernel)⟩
theorem lw_p28 : lw_okq (⟨"FlexTermsModel", "blanks", "()V"⟩, 31) := ⟨⟨by decide +kernel, by decide +kernel⟩, List.mem_of_getElem? (i := 874) (by decide +kernel), List.mem_of_getElem? (i := 1018) (by decide +kernel), List.mem_of_getElem? (i := 1019) (by decide +kernel)⟩
theorem lw_p29 : lw_okq (⟨"FlexTermsModel", "readsEquation", "()Z"⟩, 31) := ⟨⟨by decide +kernel, by decide +kernel⟩, List.mem_of_getElem? (i := 874) (by decide +kernel), List.mem_of_getElem? (i := 1022) (by decide +kernel), List.mem_of_getElem? (i := 1023) (by decide +kernel)⟩
theorem lw_p30 : lw_okq (⟨"FlexTermsModel", "readsTerm", "()Z"⟩, 31) := ⟨⟨by decide +kernel, by decide +kernel⟩, List.mem_of_getElem? (i := 874) (by decide +kernel), List.mem_of_getElem? (i := 1026) (by decide +kernel), List.mem_of_getElem? (i := 1027) (by decide +kernel)⟩
theorem lw_p31 : lw_okq (⟨"FlexTermsModel", "letterPassed", "()I"⟩, 31) := ⟨⟨by decide +kernel, by decide +kernel⟩, List.mem_of_getElem? (i := 874) (by decide +kernel), List.mem_of_getElem? (i := 1030) (by decide +kernel), List.mem_of_getElem? (i := 1031) (by decide +kernel)⟩
def lw_privs_2 : List (MethodName × Nat) := [(⟨"FlexTerms$Search", "keepIfItFits", "()V"⟩, 10), (⟨"FlexTerms$Growth", "measure", "(I)V"⟩, 8), (⟨"FlexTerms$Bodies", "bound", "(I)I"⟩, 3), (⟨"FlexTerms$Search", "pairsAgree", "(I)Z"⟩, 10), (⟨"FlexTerms$Growth", "build", "(I)V"⟩, 8), (⟨"FlexTerms$Growth", "copyPart", "(I)V"⟩, 8), (⟨"FlexTerms", "fact", "(I)I"⟩, 12), (⟨"FlexTerms", "digestBodies", "(JI)J"⟩, 12), (⟨"FlexTermsModel", "no", "()I"⟩, 31), (⟨"FlexTermsModel", "bad", "()I"⟩, 31), (⟨"FlexTermsModel", "full", "()I"⟩, 31), (⟨"FlexTermsModel", "isRead", "()Z"⟩, 31), (⟨"FlexTermsModel", "blanks", "()V"⟩, 31), (⟨"FlexTermsModel", "readsEquation", "()Z"⟩, 31), (⟨"FlexTermsModel", "readsTerm", "()Z"⟩, 31), (⟨"FlexTermsModel", "letterPassed", "()I"⟩, 31)]
theorem lw_r2 : ∀ q ∈ lw_privs_2, lw_okq q := List.forall_mem_cons.mpr ⟨lw_p16, List.forall_mem_cons.mpr ⟨lw_p17, List.forall_mem_cons.mpr ⟨lw_p18, List.forall_mem_cons.mpr ⟨lw_p19, List.forall_mem_cons.mpr ⟨lw_p20, List.forall_mem_cons.mpr ⟨lw_p21, List.forall_mem_cons.mpr ⟨lw_p22, List.forall_mem_cons.mpr ⟨lw_p23, List.forall_mem_cons.mpr ⟨lw_p24, List.forall_mem_cons.mpr ⟨lw_p25, List.forall_mem_cons.mpr ⟨lw_p26, List.forall_mem_cons.mpr ⟨lw_p27, List.forall_mem_cons.mpr ⟨lw_p28, List.forall_mem_cons.mpr ⟨lw_p29, List.forall_mem_cons.mpr ⟨lw_p30, List.forall_mem_cons.mpr ⟨lw_p31, fun _ h => absurd h List.not_mem_nil⟩⟩⟩⟩⟩⟩⟩⟩⟩⟩⟩⟩⟩⟩⟩⟩
theorem lw_p32 : lw_okq (⟨"FlexTermsModel", "passes", "(I)Z"⟩, 31) := ⟨⟨by decide +kernel, by decide +kernel⟩, List.mem_of_getElem? (i := 874) (by decide +kernel), List.mem_of_getElem? (i := 1043) (by decide +kernel), List.mem_of_getElem? (i := 1044) (by decide +kernel)⟩
theorem lw_p33 : lw_okq (⟨"FlexTermsModel", "closes", "()Z"⟩, 31) := ⟨⟨by decide +kernel, by decide +kernel⟩, List.mem_of_getElem? (i := 874) (by decide +kernel), List.mem_of_getElem? (i := 1047) (by decide +kernel), List.mem_of_getElem? (i := 1048) (by decide +kernel)⟩
theorem lw_p34 : lw_okq (⟨"FlexTermsModel", "leaves", "()V"⟩, 31) := ⟨⟨by decide +kernel, by decide +kernel⟩, List.mem_of_getElem? (i := 874) (by decide +kernel), List.mem_of_getElem? (i := 1051) (by decide +kernel), List.mem_of_getElem? (i := 1052) (by decide +kernel)⟩
theorem lw_p35 : lw_okq (⟨"FlexTermsModel", "isEquation", "(I)Z"⟩, 31) := ⟨⟨by decide +kernel, by decide +kernel⟩, List.mem_of_getElem? (i := 874) (by decide +kernel), List.mem_of_getElem? (i := 1059) (by decide +kernel), List.mem_of_getElem? (i := 1060) (by decide +kernel)⟩
theorem lw_p36 : lw_okq (⟨"FlexTermsModel", "beginOf", "(II)I"⟩, 31) := ⟨⟨by decide +kernel, by decide +kernel⟩, List.mem_of_getElem? (i := 874) (by decide +kernel), List.mem_of_getElem? (i := 1063) (by decide +kernel), List.mem_of_getElem? (i := 1064) (by decide +kernel)⟩
theorem lw_p37 : lw_okq (⟨"FlexTermsModel", "nodesOf", "(II)I"⟩, 31) := ⟨⟨by decide +kernel, by decide +kernel⟩, List.mem_of_getElem? (i := 874) (by decide +kernel), List.mem_of_getElem? (i := 1067) (by decide +kernel), List.mem_of_getElem? (i := 1068) (by decide +kernel)⟩
theorem lw_p38 : lw_okq (⟨"FlexTermsModel", "ofSide", "(III)I"⟩, 31) := ⟨⟨by decide +kernel, by decide +kernel⟩, List.mem_of_getElem? (i := 874) (by decide +kernel), List.mem_of_getElem? (i := 1082) (by decide +kernel), List.mem_of_getElem? (i := 1083) (by decide +kernel)⟩
theorem lw_p39 : lw_okq (⟨"FlexTermsModel", "flexIn", "(II)I"⟩, 31) := ⟨⟨by decide +kernel, by decide +kernel⟩, List.mem_of_getElem? (i := 874) (by decide +kernel), List.mem_of_getElem? (i := 1086) (by decide +kernel), List.mem_of_getElem? (i := 1087) (by decide +kernel)⟩
theorem lw_p40 : lw_okq (⟨"FlexTermsModel", "deepOf", "(II)I"⟩, 31) := ⟨⟨by decide +kernel, by decide +kernel⟩, List.mem_of_getElem? (i := 874) (by decide +kernel), List.mem_of_getElem? (i := 1090) (by decide +kernel), List.mem_of_getElem? (i := 1091) (by decide +kernel)⟩
theorem lw_p41 : lw_okq (⟨"FlexTermsModel", "ends", "()V"⟩, 31) := ⟨⟨by decide +kernel, by decide +kernel⟩, List.mem_of_getElem? (i := 874) (by decide +kernel), List.mem_of_getElem? (i := 1094) (by decide +kernel), List.mem_of_getElem? (i := 1095) (by decide +kernel)⟩
theorem lw_p42 : lw_okq (⟨"FlexTermsModel", "writesSide", "(II)V"⟩, 31) := ⟨⟨by decide +kernel, by decide +kernel⟩, List.mem_of_getElem? (i := 874) (by decide +kernel), List.mem_of_getElem? (i := 1102) (by decide +kernel), List.mem_of_getElem? (i := 1103) (by decide +kernel)⟩
theorem lw_p43 : lw_okq (⟨"FlexTermsModel", "writesLetter", "(I)V"⟩, 31) := ⟨⟨by decide +kernel, by decide +kernel⟩, List.mem_of_getElem? (i := 874) (by decide +kernel), List.mem_of_getElem? (i := 1106) (by decide +kernel), List.mem_of_getElem? (i := 1107) (by decide +kernel)⟩
theorem lw_p44 : lw_okq (⟨"FlexTermsModel", "writes", "(I)V"⟩, 31) := ⟨⟨by decide +kernel, by decide +kernel⟩, List.mem_of_getElem? (i := 874) (by decide +kernel), List.mem_of_getElem? (i := 1110) (by decide +kernel), List.mem_of_getElem? (i := 1111) (by decide +kernel)⟩
theorem lw_p45 : lw_okq (⟨"FlexTermsModel", "writtenAt", "(I)I"⟩, 31) := ⟨⟨by decide +kernel, by decide +kernel⟩, List.mem_of_getElem? (i := 874) (by decide +kernel), List.mem_of_getElem? (i := 1114) (by decide +kernel), List.mem_of_getElem? (i := 1115) (by decide +kernel)⟩
theorem lw_p46 : lw_okq (⟨"FlexTermsModel", "tellPairs", "(I)I"⟩, 31) := ⟨⟨by decide +kernel, by decide +kernel⟩, List.mem_of_getElem? (i := 874) (by decide +kernel), List.mem_of_getElem? (i := 1122) (by decide +kernel), List.mem_of_getElem? (i := 1123) (by decide +kernel)⟩
theorem lw_p47 : lw_okq (⟨"FlexTermsModel", "laysPairs", "()V"⟩, 31) := ⟨⟨by decide +kernel, by decide +kernel⟩, List.mem_of_getElem? (i := 874) (by decide +kernel), List.mem_of_getElem? (i := 1126) (by decide +kernel), List.mem_of_getElem? (i := 1127) (by decide +kernel)⟩
def lw_privs_3 : List (MethodName × Nat) := [(⟨"FlexTermsModel", "passes", "(I)Z"⟩, 31), (⟨"FlexTermsModel", "closes", "()Z"⟩, 31), (⟨"FlexTermsModel", "leaves", "()V"⟩, 31), (⟨"FlexTermsModel", "isEquation", "(I)Z"⟩, 31), (⟨"FlexTermsModel", "beginOf", "(II)I"⟩, 31), (⟨"FlexTermsModel", "nodesOf", "(II)I"⟩, 31), (⟨"FlexTermsModel", "ofSide", "(III)I"⟩, 31), (⟨"FlexTermsModel", "flexIn", "(II)I"⟩, 31), (⟨"FlexTermsModel", "deepOf", "(II)I"⟩, 31), (⟨"FlexTermsModel", "ends", "()V"⟩, 31), (⟨"FlexTermsModel", "writesSide", "(II)V"⟩, 31), (⟨"FlexTermsModel", "writesLetter", "(I)V"⟩, 31), (⟨"FlexTermsModel", "writes", "(I)V"⟩, 31), (⟨"FlexTermsModel", "writtenAt", "(I)I"⟩, 31), (⟨"FlexTermsModel", "tellPairs", "(I)I"⟩, 31), (⟨"FlexTermsModel", "laysPairs", "()V"⟩, 31)]
theorem lw_r3 : ∀ q ∈ lw_privs_3, lw_okq q := List.forall_mem_cons.mpr ⟨lw_p32, List.forall_mem_cons.mpr ⟨lw_p33, List.forall_mem_cons.mpr ⟨lw_p34, List.forall_mem_cons.mpr ⟨lw_p35, List.forall_mem_cons.mpr ⟨lw_p36, List.forall_mem_cons.mpr ⟨lw_p37, List.forall_mem_cons.mpr ⟨lw_p38, List.forall_mem_cons.mpr ⟨lw_p39, List.forall_mem_cons.mpr ⟨lw_p40, List.forall_mem_cons.mpr ⟨lw_p41, List.forall_mem_cons.mpr ⟨lw_p42, List.forall_mem_cons.mpr ⟨lw_p43, List.forall_mem_cons.mpr ⟨lw_p44, List.forall_mem_cons.mpr ⟨lw_p45, List.forall_mem_cons.mpr ⟨lw_p46, List.forall_mem_cons.mpr ⟨lw_p47, fun _ h => absurd h List.not_mem_nil⟩⟩⟩⟩⟩⟩⟩⟩⟩⟩⟩⟩⟩⟩⟩⟩
theorem lw_p48 : lw_okq (⟨"FlexTermsModel", "comesIn", "(III)V"⟩, 31) := ⟨⟨by decide +kernel, by decide +kernel⟩, List.mem_of_getElem? (i := 874) (by decide +kernel), List.mem_of_getElem? (i := 1130) (by decide +kernel), List.mem_of_getElem? (i := 1131) (by decide +kernel)⟩
theorem lw_p49 : lw_okq (⟨"FlexTermsModel", "takesApart", "(I)V"⟩, 31) := ⟨⟨by decide +kernel, by decide +kernel⟩, List.mem_of_getElem? (i := 874) (by decide +kernel), List.mem_of_getElem? (i := 1134) (by decide +kernel), List.mem_of_getElem? (i := 1135) (by decide +kernel)⟩
theorem lw_p50 : lw_okq (⟨"FlexTermsModel", "goesOut", "(I)V"⟩, 31) := ⟨⟨by decide +kernel, by decide +kernel⟩, List.mem_of_getElem? (i := 874) (by decide +kernel), List.mem_of_getElem? (i := 1138) (by decide +kernel), List.mem_of_getElem? (i := 1139) (by decide +kernel)⟩
theorem lw_p51 : lw_okq (⟨"FlexTermsModel", "behind", "(I)I"⟩, 31) := ⟨⟨by decide +kernel, by decide +kernel⟩, List.mem_of_getElem? (i := 874) (by decide +kernel), List.mem_of_getElem? (i := 1142) (by decide +kernel), List.mem_of_getElem? (i := 1143) (by decide +kernel)⟩
theorem lw_p52 : lw_okq (⟨"FlexTermsModel", "kindOf", "(I)I"⟩, 31) := ⟨⟨by decide +kernel, by decide +kernel⟩, List.mem_of_getElem? (i := 874) (by decide +kernel), List.mem_of_getElem? (i := 1146) (by decide +kernel), List.mem_of_getElem? (i := 1147) (by decide +kernel)⟩
theorem lw_p53 : lw_okq (⟨"FlexTermsModel", "waysOf", "(I)I"⟩, 31) := ⟨⟨by decide +kernel, by decide +kernel⟩, List.mem_of_getElem? (i := 874) (by decide +kernel), List.mem_of_getElem? (i := 1154) (by decide +kernel), List.mem_of_getElem? (i := 1155) (by decide +kernel)⟩
theorem lw_p54 : lw_okq (⟨"FlexTermsModel", "solves", "()V"⟩, 31) := ⟨⟨by decide +kernel, by decide +kernel⟩, List.mem_of_getElem? (i := 874) (by decide +kernel), List.mem_of_getElem? (i := 1162) (by decide +kernel), List.mem_of_getElem? (i := 1163) (by decide +kernel)⟩
theorem lw_p55 : lw_okq (⟨"FlexTermsModel", "laysStanding", "()V"⟩, 31) := ⟨⟨by decide +kernel, by decide +kernel⟩, List.mem_of_getElem? (i := 874) (by decide +kernel), List.mem_of_getElem? (i := 1166) (by decide +kernel), List.mem_of_getElem? (i := 1167) (by decide +kernel)⟩
theorem lw_p56 : lw_okq (⟨"FlexTermsModel", "allLetters", "()I"⟩, 31) := ⟨⟨by decide +kernel, by decide +kernel⟩, List.mem_of_getElem? (i := 874) (by decide +kernel), List.mem_of_getElem? (i := 1170) (by decide +kernel), List.mem_of_getElem? (i := 1171) (by decide +kernel)⟩
theorem lw_p57 : lw_okq (⟨"FlexTermsModel", "meets", "(I)V"⟩, 31) := ⟨⟨by decide +kernel, by decide +kernel⟩, List.mem_of_getElem? (i := 874) (by decide +kernel), List.mem_of_getElem? (i := 1174) (by decide +kernel), List.mem_of_getElem? (i := 1175) (by decide +kernel)⟩
theorem lw_p58 : lw_okq (⟨"FlexTermsModel", "areSolved", "()Z"⟩, 31) := ⟨⟨by decide +kernel, by decide +kernel⟩, List.mem_of_getElem? (i := 874) (by decide +kernel), List.mem_of_getElem? (i := 1178) (by decide +kernel), List.mem_of_getElem? (i := 1179) (by decide +kernel)⟩
theorem lw_p59 : lw_okq (⟨"FlexTermsModel", "isSolved", "(I)Z"⟩, 31) := ⟨⟨by decide +kernel, by decide +kernel⟩, List.mem_of_getElem? (i := 874) (by decide +kernel), List.mem_of_getElem? (i := 1182) (by decide +kernel), List.mem_of_getElem? (i := 1183) (by decide +kernel)⟩
theorem lw_p60 : lw_okq (⟨"FlexTermsModel", "comesTo", "(II)I"⟩, 31) := ⟨⟨by decide +kernel, by decide +kernel⟩, List.mem_of_getElem? (i := 874) (by decide +kernel), List.mem_of_getElem? (i := 1186) (by decide +kernel), List.mem_of_getElem? (i := 1187) (by decide +kernel)⟩
theorem lw_p61 : lw_okq (⟨"FlexTermsModel", "grown", "(III)I"⟩, 31) := ⟨⟨by decide +kernel, by decide +kernel⟩, List.mem_of_getElem? (i := 874) (by decide +kernel), List.mem_of_getElem? (i := 1190) (by decide +kernel), List.mem_of_getElem? (i := 1191) (by decide +kernel)⟩
theorem lw_p62 : lw_okq (⟨"FlexTermsModel", "builds", "(III)I"⟩, 31) := ⟨⟨by decide +kernel, by decide +kernel⟩, List.mem_of_getElem? (i := 874) (by decide +kernel), List.mem_of_getElem? (i := 1194) (by decide +kernel), List.mem_of_getElem? (i := 1195) (by decide +kernel)⟩
theorem lw_p63 : lw_okq (⟨"FlexTermsModel", "waits", "(II)V"⟩, 31) := ⟨⟨by decide +kernel, by decide +kernel⟩, List.mem_of_getElem? (i := 874) (by decide +kernel), List.mem_of_getElem? (i := 1198) (by decide +kernel), List.mem_of_getElem? (i := 1199) (by decide +kernel)⟩
def lw_privs_4 : List (MethodName × Nat) := [(⟨"FlexTermsModel", "comesIn", "(III)V"⟩, 31), (⟨"FlexTermsModel", "takesApart", "(I)V"⟩, 31), (⟨"FlexTermsModel", "goesOut", "(I)V"⟩, 31), (⟨"FlexTermsModel", "behind", "(I)I"⟩, 31), (⟨"FlexTermsModel", "kindOf", "(I)I"⟩, 31), (⟨"FlexTermsModel", "waysOf", "(I)I"⟩, 31), (⟨"FlexTermsModel", "solves", "()V"⟩, 31), (⟨"FlexTermsModel", "laysStanding", "()V"⟩, 31), (⟨"FlexTermsModel", "allLetters", "()I"⟩, 31), (⟨"FlexTermsModel", "meets", "(I)V"⟩, 31), (⟨"FlexTermsModel", "areSolved", "()Z"⟩, 31), (⟨"FlexTermsModel", "isSolved", "(I)Z"⟩, 31), (⟨"FlexTermsModel", "comesTo", "(II)I"⟩, 31), (⟨"FlexTermsModel", "grown", "(III)I"⟩, 31), (⟨"FlexTermsModel", "builds", "(III)I"⟩, 31), (⟨"FlexTermsModel", "waits", "(II)V"⟩, 31)]
theorem lw_r4 : ∀ q ∈ lw_privs_4, lw_okq q := List.forall_mem_cons.mpr ⟨lw_p48, List.forall_mem_cons.mpr ⟨lw_p49, List.forall_mem_cons.mpr ⟨lw_p50, List.forall_mem_cons.mpr ⟨lw_p51, List.forall_mem_cons.mpr ⟨lw_p52, List.forall_mem_cons.mpr ⟨lw_p53, List.forall_mem_cons.mpr ⟨lw_p54, List.forall_mem_cons.mpr ⟨lw_p55, List.forall_mem_cons.mpr ⟨lw_p56, List.forall_mem_cons.mpr ⟨lw_p57, List.forall_mem_cons.mpr ⟨lw_p58, List.forall_mem_cons.mpr ⟨lw_p59, List.forall_mem_cons.mpr ⟨lw_p60, List.forall_mem_cons.mpr ⟨lw_p61, List.forall_mem_cons.mpr ⟨lw_p62, List.forall_mem_cons.mpr ⟨lw_p63, fun _ h => absurd h List.not_mem_nil⟩⟩⟩⟩⟩⟩⟩⟩⟩⟩⟩⟩⟩⟩⟩⟩
theorem lw_p64 : lw_okq (⟨"FlexTermsModel", "buildsLetter", "(II)V"⟩, 31) := ⟨⟨by decide +kernel, by decide +kernel⟩, List.mem_of_getElem? (i := 874) (by decide +kernel), List.mem_of_getElem? (i := 1202) (by decide +kernel), List.mem_of_getElem? (i := 1203) (by decide +kernel)⟩
theorem lw_p65 : lw_okq (⟨"FlexTermsModel", "goesThrough", "(I)V"⟩, 31) := ⟨⟨by decide +kernel, by decide +kernel⟩, List.mem_of_getElem? (i := 874) (by decide +kernel), List.mem_of_getElem? (i := 1212) (by decide +kernel), List.mem_of_getElem? (i := 1213) (by decide +kernel)⟩
theorem lw_p66 : lw_okq (⟨"FlexTermsModel", "picksNext", "(II)Z"⟩, 31) := ⟨⟨by decide +kernel, by decide +kernel⟩, List.mem_of_getElem? (i := 874) (by decide +kernel), List.mem_of_getElem? (i := 1216) (by decide +kernel), List.mem_of_getElem? (i := 1217) (by decide +kernel)⟩
theorem lw_p67 : lw_okq (⟨"FlexTermsModel", "writesBody", "(I)V"⟩, 31) := ⟨⟨by decide +kernel, by decide +kernel⟩, List.mem_of_getElem? (i := 874) (by decide +kernel), List.mem_of_getElem? (i := 1228) (by decide +kernel), List.mem_of_getElem? (i := 1229) (by decide +kernel)⟩
theorem lw_p68 : lw_okq (⟨"FlexTermsModel", "toldOf", "(I)I"⟩, 31) := ⟨⟨by decide +kernel, by decide +kernel⟩, List.mem_of_getElem? (i := 874) (by decide +kernel), List.mem_of_getElem? (i := 1244) (by decide +kernel), List.mem_of_getElem? (i := 1245) (by decide +kernel)⟩
theorem lw_p69 : lw_okq (⟨"FlexTermsModel", "mix", "(I)V"⟩, 31) := ⟨⟨by decide +kernel, by decide +kernel⟩, List.mem_of_getElem? (i := 874) (by decide +kernel), List.mem_of_getElem? (i := 1253) (by decide +kernel), List.mem_of_getElem? (i := 1254) (by decide +kernel)⟩
theorem lw_p70 : lw_okq (⟨"FlexTermsModel", "mixSolution", "(I)V"⟩, 31) := ⟨⟨by decide +kernel, by decide +kernel⟩, List.mem_of_getElem? (i := 874) (by decide +kernel), List.mem_of_getElem? (i := 1258) (by decide +kernel), List.mem_of_getElem? (i := 1259) (by decide +kernel)⟩
def lw_privs_5 : List (MethodName × Nat) := [(⟨"FlexTermsModel", "buildsLetter", "(II)V"⟩, 31), (⟨"FlexTermsModel", "goesThrough", "(I)V"⟩, 31), (⟨"FlexTermsModel", "picksNext", "(II)Z"⟩, 31), (⟨"FlexTermsModel", "writesBody", "(I)V"⟩, 31), (⟨"FlexTermsModel", "toldOf", "(I)I"⟩, 31), (⟨"FlexTermsModel", "mix", "(I)V"⟩, 31), (⟨"FlexTermsModel", "mixSolution", "(I)V"⟩, 31)]
theorem lw_r5 : ∀ q ∈ lw_privs_5, lw_okq q := List.forall_mem_cons.mpr ⟨lw_p64, List.forall_mem_cons.mpr ⟨lw_p65, List.forall_mem_cons.mpr ⟨lw_p66, List.forall_mem_cons.mpr ⟨lw_p67, List.forall_mem_cons.mpr ⟨lw_p68, List.forall_mem_cons.mpr ⟨lw_p69, List.forall_mem_cons.mpr ⟨lw_p70, fun _ h => absurd h List.not_mem_nil⟩⟩⟩⟩⟩⟩⟩
def lw_privs : List (MethodName × Nat) := lw_privs_1 ++ (lw_privs_2 ++ (lw_privs_3 ++ (lw_privs_4 ++ (lw_privs_5))))
def lw_tbl : List Cond := k2_sels lw_privs ++ tables_1
theorem lw_privs_ok : ∀ q ∈ lw_privs, lw_okq q := by
  show ∀ q ∈ lw_privs_1 ++ (lw_privs_2 ++ (lw_privs_3 ++ (lw_privs_4 ++ (lw_privs_5)))), lw_okq q
  exact List.forall_mem_append.mpr ⟨lw_r1, List.forall_mem_append.mpr ⟨lw_r2, List.forall_mem_append.mpr ⟨lw_r3, List.forall_mem_append.mpr ⟨lw_r4, lw_r5⟩⟩⟩⟩
end
section
/-! ===== BEGIN words of one list among another's, by their places ===== -/
theorem goodIn_r {big : List Cond} (ws : List Cond) (ps : List Nat) (hp : ws = ps.filterMap (fun i => big[i]?)) (h : ws.all goodWord = true) : GoodIn big ws := by
  intro w hw
  have h1 := List.all_eq_true.mp h w hw
  rw [hp] at hw
  obtain ⟨i, -, hi⟩ := List.mem_filterMap.mp hw
  have hm : w ∈ big := by first | exact List.mem_of_getElem? hi | exact List.getElem?_mem hi
  exact ⟨hm, good_of_word h1⟩
theorem goodIn_app {big a b : List Cond} (ha : GoodIn big a) (hb : GoodIn big b) : GoodIn big (a ++ b) := fun w h => (List.mem_append.mp h).elim (ha w) (hb w)
theorem goodIn_ca {big a b : List Cond} {c : Cond} (ha : GoodIn big (c :: a)) (hb : GoodIn big b) : GoodIn big (c :: (a ++ b)) := fun w h => (List.mem_cons.mp h).elim (fun e => ha w (List.mem_cons.mpr (Or.inl e))) (fun h => (List.mem_append.mp h).elim (fun h => ha w (List.mem_cons.mpr (Or.inr h))) (hb w))
theorem goodIn_sub {big ws : List Cond} (hm : ∀ w ∈ ws, w ∈ big) (h : ws.all goodWord = true) : GoodIn big ws := fun w hw => ⟨hm w hw, good_of_word (List.all_eq_true.mp h w hw)⟩
/-! ===== END ===== -/

/-! ===== BEGIN printed: names, fields, word lists, decode rows ===== -/
def RX0 : String := "FlexTerms$Bodies"
def TX0 : u_T := fun k => match k with
  | 0 => ("FlexTerms$Bodies", "words", "[I", true)
  | 1 => ("FlexTerms$Bodies", "firsts", "[I", true)
  | _ => ("FlexTerms$Bodies", "count", "I", false)
def tyX0 : Nat → FieldType := fun k => match k with
  | 0 => .array .int
  | 1 => .array .int
  | _ => .int
abbrev wsX00 : List Cond := u_ws RX0 TX0 3
theorem nmX0 : ∀ a, a < 3 → ∀ b, b < 3 → a ≠ b → (TX0 a).2.1 ≠ (TX0 b).2.1 := by decide +kernel
theorem tyX0_ok : ∀ k, k < 3 → parseFieldDescriptor (TX0 k).2.2.1 = some (tyX0 k) := by decide +kernel
abbrev cX0_init : ByteArray := prog_2_method_1_code
def yX0_init : MethodName := ⟨RX0, "<init>", "()V"⟩
abbrev cX0_first : ByteArray := prog_2_method_2_code
def yX0_first : MethodName := ⟨RX0, "first", "(II)I"⟩
abbrev cX0_end : ByteArray := prog_2_method_3_code
def yX0_end : MethodName := ⟨RX0, "end", "(II)I"⟩
abbrev cX0_word : ByteArray := prog_2_method_4_code
def yX0_word : MethodName := ⟨RX0, "word", "(I)I"⟩
abbrev cX0_letterIn : ByteArray := prog_2_method_5_code
def yX0_letterIn : MethodName := ⟨RX0, "letterIn", "(II)I"⟩
abbrev cX0_lettersIn : ByteArray := prog_2_method_6_code
def yX0_lettersIn : MethodName := ⟨RX0, "lettersIn", "(I)I"⟩
abbrev cX0_wordFor : ByteArray := prog_2_method_7_code
def yX0_wordFor : MethodName := ⟨RX0, "wordFor", "(Ljava/lang/String;)I"⟩
abbrev cX0_bound : ByteArray := prog_2_method_8_code
def yX0_bound : MethodName := ⟨RX0, "bound", "(I)I"⟩
abbrev cX0_spell : ByteArray := prog_2_method_9_code
def yX0_spell : MethodName := ⟨RX0, "spell", "(IIIII)V"⟩
abbrev cX0_keep : ByteArray := prog_2_method_10_code
def yX0_keep : MethodName := ⟨RX0, "keep", "(I)V"⟩
def RX1 : String := "FlexTerms$Choice"
def TX1 : u_T := fun k => match k with
  | 0 => ("FlexTerms$Choice", "words", "[I", true)
  | 1 => ("FlexTerms$Choice", "plain", "[I", true)
  | 2 => ("FlexTerms$Choice", "ones", "[I", true)
  | _ => ("FlexTerms$Choice", "twos", "[I", true)
def tyX1 : Nat → FieldType := fun k => match k with
  | 0 => .array .int
  | 1 => .array .int
  | 2 => .array .int
  | _ => .array .int
abbrev wsX10 : List Cond := u_ws RX1 TX1 4
theorem nmX1 : ∀ a, a < 4 → ∀ b, b < 4 → a ≠ b → (TX1 a).2.1 ≠ (TX1 b).2.1 := by decide +kernel
theorem tyX1_ok : ∀ k, k < 4 → parseFieldDescriptor (TX1 k).2.2.1 = some (tyX1 k) := by decide +kernel
abbrev cX1_init : ByteArray := prog_3_method_1_code
def yX1_init : MethodName := ⟨RX1, "<init>", "()V"⟩
abbrev cX1_take : ByteArray := prog_3_method_2_code
def yX1_take : MethodName := ⟨RX1, "take", "(II)V"⟩
abbrev cX1_word : ByteArray := prog_3_method_3_code
def yX1_word : MethodName := ⟨RX1, "word", "(I)I"⟩
abbrev cX1_nodesWith : ByteArray := prog_3_method_4_code
def yX1_nodesWith : MethodName := ⟨RX1, "nodesWith", "(III)I"⟩
def RX2 : String := "FlexTerms$Equations"
def TX2 : u_T := fun k => match k with
  | 0 => ("FlexTerms$Equations", "letters", "[I", true)
  | 1 => ("FlexTerms$Equations", "starts", "[I", true)
  | 2 => ("FlexTerms$Equations", "nodes", "[I", true)
  | 3 => ("FlexTerms$Equations", "depths", "[I", true)
  | 4 => ("FlexTerms$Equations", "seconds", "[I", true)
  | 5 => ("FlexTerms$Equations", "sides", "I", false)
  | _ => ("FlexTerms$Equations", "total", "I", false)
def tyX2 : Nat → FieldType := fun k => match k with
  | 0 => .array .int
  | 1 => .array .int
  | 2 => .array .int
  | 3 => .array .int
  | 4 => .array .int
  | 5 => .int
  | _ => .int
abbrev wsX20 : List Cond := u_ws RX2 TX2 7
theorem nmX2 : ∀ a, a < 7 → ∀ b, b < 7 → a ≠ b → (TX2 a).2.1 ≠ (TX2 b).2.1 := by decide +kernel
theorem tyX2_ok : ∀ k, k < 7 → parseFieldDescriptor (TX2 k).2.2.1 = some (tyX2 k) := by decide +kernel
abbrev cX2_init : ByteArray := prog_4_method_1_code
def yX2_init : MethodName := ⟨RX2, "<init>", "()V"⟩
abbrev cX2_erase : ByteArray := prog_4_method_2_code
def yX2_erase : MethodName := ⟨RX2, "erase", "()V"⟩
abbrev cX2_append : ByteArray := prog_4_method_3_code
def yX2_append : MethodName := ⟨RX2, "append", "(I)Z"⟩
abbrev cX2_endSide : ByteArray := prog_4_method_4_code
def yX2_endSide : MethodName := ⟨RX2, "endSide", "()V"⟩
abbrev cX2_awaitsLeft : ByteArray := prog_4_method_5_code
def yX2_awaitsLeft : MethodName := ⟨RX2, "awaitsLeft", "()Z"⟩
abbrev cX2_count : ByteArray := prog_4_method_6_code
def yX2_count : MethodName := ⟨RX2, "count", "()I"⟩
abbrev cX2_total : ByteArray := prog_4_method_7_code
def yX2_total : MethodName := ⟨RX2, "total", "()I"⟩
abbrev cX2_has : ByteArray := prog_4_method_8_code
def yX2_has : MethodName := ⟨RX2, "has", "(I)Z"⟩
abbrev cX2_start : ByteArray := prog_4_method_9_code
def yX2_start : MethodName := ⟨RX2, "start", "(II)I"⟩
abbrev cX2_letterAt : ByteArray := prog_4_method_10_code
def yX2_letterAt : MethodName := ⟨RX2, "letterAt", "(I)I"⟩
abbrev cX2_nodesAt : ByteArray := prog_4_method_11_code
def yX2_nodesAt : MethodName := ⟨RX2, "nodesAt", "(I)I"⟩
abbrev cX2_depthAt : ByteArray := prog_4_method_12_code
def yX2_depthAt : MethodName := ⟨RX2, "depthAt", "(I)I"⟩
abbrev cX2_secondOf : ByteArray := prog_4_method_13_code
def yX2_secondOf : MethodName := ⟨RX2, "secondOf", "(I)I"⟩
abbrev cX2_flexIn : ByteArray := prog_4_method_14_code
def yX2_flexIn : MethodName := ⟨RX2, "flexIn", "(II)I"⟩
abbrev cX2_copyFrom : ByteArray := prog_4_method_15_code
def yX2_copyFrom : MethodName := ⟨RX2, "copyFrom", "(LFlexTerms$Equations;)V"⟩
abbrev cX2_remove : ByteArray := prog_4_method_16_code
def yX2_remove : MethodName := ⟨RX2, "remove", "(I)V"⟩
abbrev cX2_turn : ByteArray := prog_4_method_17_code
def yX2_turn : MethodName := ⟨RX2, "turn", "(I)V"⟩
abbrev cX2_measure : ByteArray := prog_4_method_18_code
def yX2_measure : MethodName := ⟨RX2, "measure", "()V"⟩
def RX3 : String := "FlexTerms$Growth"
def TX3 : u_T := fun k => match k with
  | 0 => ("FlexTerms$Growth", "equations", "LFlexTerms$Equations;", true)
  | 1 => ("FlexTerms$Growth", "choice", "LFlexTerms$Choice;", true)
  | 2 => ("FlexTerms$Growth", "kinds", "[I", true)
  | 3 => ("FlexTerms$Growth", "seconds", "[I", true)
  | 4 => ("FlexTerms$Growth", "sizes", "[I", true)
  | 5 => ("FlexTerms$Growth", "places", "[I", true)
  | 6 => ("FlexTerms$Growth", "grown", "[I", true)
  | _ => ("FlexTerms$Growth", "used", "I", false)
def tyX3 : Nat → FieldType := fun k => match k with
  | 0 => .object "FlexTerms$Equations"
  | 1 => .object "FlexTerms$Choice"
  | 2 => .array .int
  | 3 => .array .int
  | 4 => .array .int
  | 5 => .array .int
  | 6 => .array .int
  | _ => .int
abbrev wsX30 : List Cond := u_ws RX3 TX3 8
theorem nmX3 : ∀ a, a < 8 → ∀ b, b < 8 → a ≠ b → (TX3 a).2.1 ≠ (TX3 b).2.1 := by decide +kernel
theorem tyX3_ok : ∀ k, k < 8 → parseFieldDescriptor (TX3 k).2.2.1 = some (tyX3 k) := by decide +kernel
abbrev cX3_init : ByteArray := prog_5_method_1_code
def yX3_init : MethodName := ⟨RX3, "<init>", "(LFlexTerms$Equations;)V"⟩
abbrev cX3_prepare : ByteArray := prog_5_method_2_code
def yX3_prepare : MethodName := ⟨RX3, "prepare", "()V"⟩
abbrev cX3_take : ByteArray := prog_5_method_3_code
def yX3_take : MethodName := ⟨RX3, "take", "(II)V"⟩
abbrev cX3_word : ByteArray := prog_5_method_4_code
def yX3_word : MethodName := ⟨RX3, "word", "(I)I"⟩
abbrev cX3_sizeAt : ByteArray := prog_5_method_5_code
def yX3_sizeAt : MethodName := ⟨RX3, "sizeAt", "(I)I"⟩
abbrev cX3_fits : ByteArray := prog_5_method_6_code
def yX3_fits : MethodName := ⟨RX3, "fits", "(I)Z"⟩
abbrev cX3_agree : ByteArray := prog_5_method_7_code
def yX3_agree : MethodName := ⟨RX3, "agree", "(II)Z"⟩
abbrev cX3_grow : ByteArray := prog_5_method_8_code
def yX3_grow : MethodName := ⟨RX3, "grow", "(I)V"⟩
abbrev cX3_letterOf : ByteArray := prog_5_method_9_code
def yX3_letterOf : MethodName := ⟨RX3, "letterOf", "(II)I"⟩
abbrev cX3_measure : ByteArray := prog_5_method_10_code
def yX3_measure : MethodName := ⟨RX3, "measure", "(I)V"⟩
abbrev cX3_build : ByteArray := prog_5_method_11_code
def yX3_build : MethodName := ⟨RX3, "build", "(I)V"⟩
abbrev cX3_copyPart : ByteArray := prog_5_method_12_code
def yX3_copyPart : MethodName := ⟨RX3, "copyPart", "(I)V"⟩
def RX4 : String := "FlexTerms$History"
def TX4 : u_T := fun k => match k with
  | 0 => ("FlexTerms$History", "states", "[LFlexTerms$Equations;", true)
  | _ => ("FlexTerms$History", "count", "I", false)
def tyX4 : Nat → FieldType := fun k => match k with
  | 0 => .array (.object "FlexTerms$Equations")
  | _ => .int
abbrev wsX40 : List Cond := u_ws RX4 TX4 2
theorem nmX4 : ∀ a, a < 2 → ∀ b, b < 2 → a ≠ b → (TX4 a).2.1 ≠ (TX4 b).2.1 := by decide +kernel
theorem tyX4_ok : ∀ k, k < 2 → parseFieldDescriptor (TX4 k).2.2.1 = some (tyX4 k) := by decide +kernel
abbrev cX4_init : ByteArray := prog_6_method_1_code
def yX4_init : MethodName := ⟨RX4, "<init>", "()V"⟩
abbrev cX4_count : ByteArray := prog_6_method_2_code
def yX4_count : MethodName := ⟨RX4, "count", "()I"⟩
abbrev cX4_push : ByteArray := prog_6_method_3_code
def yX4_push : MethodName := ⟨RX4, "push", "(LFlexTerms$Equations;)V"⟩
abbrev cX4_popInto : ByteArray := prog_6_method_4_code
def yX4_popInto : MethodName := ⟨RX4, "popInto", "(LFlexTerms$Equations;)Z"⟩
def RX5 : String := "FlexTerms$Letters"
def TX5 : u_T := fun k => match k with
  | _ => ("", "", "", false)
def tyX5 : Nat → FieldType := fun k => match k with
  | _ => .int
abbrev wsX50 : List Cond := u_ws RX5 TX5 0
theorem nmX5 : ∀ a, a < 0 → ∀ b, b < 0 → a ≠ b → (TX5 a).2.1 ≠ (TX5 b).2.1 := by decide +kernel
theorem tyX5_ok : ∀ k, k < 0 → parseFieldDescriptor (TX5 k).2.2.1 = some (tyX5 k) := by decide +kernel
abbrev cX5_kind : ByteArray := prog_7_method_2_code
def yX5_kind : MethodName := ⟨RX5, "kind", "(I)I"⟩
abbrev cX5_isFlex : ByteArray := prog_7_method_3_code
def yX5_isFlex : MethodName := ⟨RX5, "isFlex", "(I)Z"⟩
abbrev cX5_parts : ByteArray := prog_7_method_4_code
def yX5_parts : MethodName := ⟨RX5, "parts", "(I)I"⟩
def RX6 : String := "FlexTerms$Pairs"
def TX6 : u_T := fun k => match k with
  | 0 => ("FlexTerms$Pairs", "equations", "LFlexTerms$Equations;", true)
  | 1 => ("FlexTerms$Pairs", "lefts", "[I", true)
  | 2 => ("FlexTerms$Pairs", "rights", "[I", true)
  | _ => ("FlexTerms$Pairs", "count", "I", false)
def tyX6 : Nat → FieldType := fun k => match k with
  | 0 => .object "FlexTerms$Equations"
  | 1 => .array .int
  | 2 => .array .int
  | _ => .int
abbrev wsX60 : List Cond := u_ws RX6 TX6 4
theorem nmX6 : ∀ a, a < 4 → ∀ b, b < 4 → a ≠ b → (TX6 a).2.1 ≠ (TX6 b).2.1 := by decide +kernel
theorem tyX6_ok : ∀ k, k < 4 → parseFieldDescriptor (TX6 k).2.2.1 = some (tyX6 k) := by decide +kernel
abbrev cX6_init : ByteArray := prog_8_method_1_code
def yX6_init : MethodName := ⟨RX6, "<init>", "(LFlexTerms$Equations;)V"⟩
abbrev cX6_count : ByteArray := prog_8_method_2_code
def yX6_count : MethodName := ⟨RX6, "count", "()I"⟩
abbrev cX6_left : ByteArray := prog_8_method_3_code
def yX6_left : MethodName := ⟨RX6, "left", "(I)I"⟩
abbrev cX6_right : ByteArray := prog_8_method_4_code
def yX6_right : MethodName := ⟨RX6, "right", "(I)I"⟩
abbrev cX6_kind : ByteArray := prog_8_method_5_code
def yX6_kind : MethodName := ⟨RX6, "kind", "(I)I"⟩
abbrev cX6_ways : ByteArray := prog_8_method_6_code
def yX6_ways : MethodName := ⟨RX6, "ways", "(I)I"⟩
abbrev cX6_howMany : ByteArray := prog_8_method_7_code
def yX6_howMany : MethodName := ⟨RX6, "howMany", "(I)I"⟩
abbrev cX6_lastFlex : ByteArray := prog_8_method_8_code
def yX6_lastFlex : MethodName := ⟨RX6, "lastFlex", "(I)I"⟩
abbrev cX6_takeApart : ByteArray := prog_8_method_9_code
def yX6_takeApart : MethodName := ⟨RX6, "takeApart", "()V"⟩
abbrev cX6_takeApart_ : ByteArray := prog_8_method_10_code
def yX6_takeApart_ : MethodName := ⟨RX6, "takeApart", "(II)V"⟩
abbrev cX6_keep : ByteArray := prog_8_method_11_code
def yX6_keep : MethodName := ⟨RX6, "keep", "(II)V"⟩
def RX7 : String := "FlexTerms$Search"
def TX7 : u_T := fun k => match k with
  | 0 => ("FlexTerms$Search", "equations", "LFlexTerms$Equations;", true)
  | 1 => ("FlexTerms$Search", "pairs", "LFlexTerms$Pairs;", true)
  | 2 => ("FlexTerms$Search", "bodies", "LFlexTerms$Bodies;", true)
  | 3 => ("FlexTerms$Search", "growth", "LFlexTerms$Growth;", true)
  | 4 => ("FlexTerms$Search", "standing", "[I", true)
  | 5 => ("FlexTerms$Search", "lastLetters", "[I", true)
  | 6 => ("FlexTerms$Search", "words", "[I", true)
  | 7 => ("FlexTerms$Search", "letters", "I", false)
  | 8 => ("FlexTerms$Search", "count", "I", false)
  | _ => ("FlexTerms$Search", "isKnown", "Z", false)
def tyX7 : Nat → FieldType := fun k => match k with
  | 0 => .object "FlexTerms$Equations"
  | 1 => .object "FlexTerms$Pairs"
  | 2 => .object "FlexTerms$Bodies"
  | 3 => .object "FlexTerms$Growth"
  | 4 => .array .int
  | 5 => .array .int
  | 6 => .array .int
  | 7 => .int
  | 8 => .int
  | _ => .boolean
abbrev wsX70 : List Cond := u_ws RX7 TX7 10
theorem nmX7 : ∀ a, a < 10 → ∀ b, b < 10 → a ≠ b → (TX7 a).2.1 ≠ (TX7 b).2.1 := by decide +kernel
theorem tyX7_ok : ∀ k, k < 10 → parseFieldDescriptor (TX7 k).2.2.1 = some (tyX7 k) := by decide +kernel
abbrev cX7_init : ByteArray := prog_9_method_1_code
def yX7_init : MethodName := ⟨RX7, "<init>", "(LFlexTerms$Equations;LFlexTerms$Pairs;LFlexTerms$Bodies;LFlexTerms$Growth;)V"⟩
abbrev cX7_forget : ByteArray := prog_9_method_2_code
def yX7_forget : MethodName := ⟨RX7, "forget", "()V"⟩
abbrev cX7_found : ByteArray := prog_9_method_3_code
def yX7_found : MethodName := ⟨RX7, "found", "()I"⟩
abbrev cX7_wordOf : ByteArray := prog_9_method_4_code
def yX7_wordOf : MethodName := ⟨RX7, "wordOf", "(II)I"⟩
abbrev cX7_sizeOf : ByteArray := prog_9_method_5_code
def yX7_sizeOf : MethodName := ⟨RX7, "sizeOf", "(I)I"⟩
abbrev cX7_take : ByteArray := prog_9_method_6_code
def yX7_take : MethodName := ⟨RX7, "take", "(I)V"⟩
abbrev cX7_prepare : ByteArray := prog_9_method_7_code
def yX7_prepare : MethodName := ⟨RX7, "prepare", "()V"⟩
abbrev cX7_lookThrough : ByteArray := prog_9_method_8_code
def yX7_lookThrough : MethodName := ⟨RX7, "lookThrough", "(II)V"⟩
abbrev cX7_pairsAgree : ByteArray := prog_9_method_9_code
def yX7_pairsAgree : MethodName := ⟨RX7, "pairsAgree", "(I)Z"⟩
abbrev cX7_keepIfItFits : ByteArray := prog_9_method_10_code
def yX7_keepIfItFits : MethodName := ⟨RX7, "keepIfItFits", "()V"⟩
def RX8 : String := "FlexTerms$Text"
def TX8 : u_T := fun k => match k with
  | 0 => ("FlexTerms$Text", "bytes", "[I", true)
  | 1 => ("FlexTerms$Text", "partsLeft", "[I", true)
  | 2 => ("FlexTerms$Text", "length", "I", false)
  | 3 => ("FlexTerms$Text", "depth", "I", false)
  | _ => ("FlexTerms$Text", "awaited", "I", false)
def tyX8 : Nat → FieldType := fun k => match k with
  | 0 => .array .int
  | 1 => .array .int
  | 2 => .int
  | 3 => .int
  | _ => .int
abbrev wsX80 : List Cond := u_ws RX8 TX8 5
theorem nmX8 : ∀ a, a < 5 → ∀ b, b < 5 → a ≠ b → (TX8 a).2.1 ≠ (TX8 b).2.1 := by decide +kernel
theorem tyX8_ok : ∀ k, k < 5 → parseFieldDescriptor (TX8 k).2.2.1 = some (tyX8 k) := by decide +kernel
abbrev cX8_init : ByteArray := prog_10_method_1_code
def yX8_init : MethodName := ⟨RX8, "<init>", "()V"⟩
abbrev cX8_length : ByteArray := prog_10_method_2_code
def yX8_length : MethodName := ⟨RX8, "length", "()I"⟩
abbrev cX8_erase : ByteArray := prog_10_method_3_code
def yX8_erase : MethodName := ⟨RX8, "erase", "()V"⟩
abbrev cX8_append : ByteArray := prog_10_method_4_code
def yX8_append : MethodName := ⟨RX8, "append", "(I)Z"⟩
abbrev cX8_readInto : ByteArray := prog_10_method_5_code
def yX8_readInto : MethodName := ⟨RX8, "readInto", "(LFlexTerms$Equations;)I"⟩
abbrev cX8_accepts : ByteArray := prog_10_method_6_code
def yX8_accepts : MethodName := ⟨RX8, "accepts", "(ILFlexTerms$Equations;)Z"⟩
abbrev cX8_acceptsLetter : ByteArray := prog_10_method_7_code
def yX8_acceptsLetter : MethodName := ⟨RX8, "acceptsLetter", "(ILFlexTerms$Equations;)Z"⟩
abbrev cX8_acceptsInside : ByteArray := prog_10_method_8_code
def yX8_acceptsInside : MethodName := ⟨RX8, "acceptsInside", "(I)Z"⟩
abbrev cX8_acceptsOutside : ByteArray := prog_10_method_9_code
def yX8_acceptsOutside : MethodName := ⟨RX8, "acceptsOutside", "(ILFlexTerms$Equations;)Z"⟩
def RX9 : String := "FlexTerms$Writing"
def TX9 : u_T := fun k => match k with
  | 0 => ("FlexTerms$Writing", "bytes", "[I", true)
  | 1 => ("FlexTerms$Writing", "partsLeft", "[I", true)
  | 2 => ("FlexTerms$Writing", "length", "I", false)
  | _ => ("FlexTerms$Writing", "depth", "I", false)
def tyX9 : Nat → FieldType := fun k => match k with
  | 0 => .array .int
  | 1 => .array .int
  | 2 => .int
  | _ => .int
abbrev wsX90 : List Cond := u_ws RX9 TX9 4
theorem nmX9 : ∀ a, a < 4 → ∀ b, b < 4 → a ≠ b → (TX9 a).2.1 ≠ (TX9 b).2.1 := by decide +kernel
theorem tyX9_ok : ∀ k, k < 4 → parseFieldDescriptor (TX9 k).2.2.1 = some (tyX9 k) := by decide +kernel
abbrev cX9_init : ByteArray := prog_11_method_1_code
def yX9_init : MethodName := ⟨RX9, "<init>", "()V"⟩
abbrev cX9_begin : ByteArray := prog_11_method_2_code
def yX9_begin : MethodName := ⟨RX9, "begin", "()V"⟩
abbrev cX9_length : ByteArray := prog_11_method_3_code
def yX9_length : MethodName := ⟨RX9, "length", "()I"⟩
abbrev cX9_byteAt : ByteArray := prog_11_method_4_code
def yX9_byteAt : MethodName := ⟨RX9, "byteAt", "(I)I"⟩
abbrev cX9_putTerm : ByteArray := prog_11_method_5_code
def yX9_putTerm : MethodName := ⟨RX9, "putTerm", "(LFlexTerms$Equations;I)V"⟩
abbrev cX9_putBody : ByteArray := prog_11_method_6_code
def yX9_putBody : MethodName := ⟨RX9, "putBody", "(I)V"⟩
abbrev cX9_put : ByteArray := prog_11_method_7_code
def yX9_put : MethodName := ⟨RX9, "put", "(I)V"⟩
abbrev cX9_putLetter : ByteArray := prog_11_method_8_code
def yX9_putLetter : MethodName := ⟨RX9, "putLetter", "(I)V"⟩
abbrev cX9_endTerm : ByteArray := prog_11_method_9_code
def yX9_endTerm : MethodName := ⟨RX9, "endTerm", "()V"⟩
def RX10 : String := "FlexTerms"
def TX10 : u_T := fun k => match k with
  | 0 => ("FlexTerms", "text", "LFlexTerms$Text;", true)
  | 1 => ("FlexTerms", "now", "LFlexTerms$Equations;", true)
  | 2 => ("FlexTerms", "read", "LFlexTerms$Equations;", true)
  | 3 => ("FlexTerms", "history", "LFlexTerms$History;", true)
  | 4 => ("FlexTerms", "taken", "LFlexTerms$Pairs;", true)
  | 5 => ("FlexTerms", "table", "LFlexTerms$Bodies;", true)
  | 6 => ("FlexTerms", "growth", "LFlexTerms$Growth;", true)
  | 7 => ("FlexTerms", "search", "LFlexTerms$Search;", true)
  | 8 => ("FlexTerms", "writing", "LFlexTerms$Writing;", true)
  | 9 => ("FlexTerms", "bads", "I", false)
  | 10 => ("FlexTerms", "noes", "I", false)
  | _ => ("FlexTerms", "fulls", "I", false)
def tyX10 : Nat → FieldType := fun k => match k with
  | 0 => .object "FlexTerms$Text"
  | 1 => .object "FlexTerms$Equations"
  | 2 => .object "FlexTerms$Equations"
  | 3 => .object "FlexTerms$History"
  | 4 => .object "FlexTerms$Pairs"
  | 5 => .object "FlexTerms$Bodies"
  | 6 => .object "FlexTerms$Growth"
  | 7 => .object "FlexTerms$Search"
  | 8 => .object "FlexTerms$Writing"
  | 9 => .int
  | 10 => .int
  | _ => .int
abbrev wsX100 : List Cond := u_ws RX10 TX10 12
theorem nmX10 : ∀ a, a < 12 → ∀ b, b < 12 → a ≠ b → (TX10 a).2.1 ≠ (TX10 b).2.1 := by decide +kernel
theorem tyX10_ok : ∀ k, k < 12 → parseFieldDescriptor (TX10 k).2.2.1 = some (tyX10 k) := by decide +kernel
abbrev cX10_init : ByteArray := prog_1_method_1_code
def yX10_init : MethodName := ⟨RX10, "<init>", "()V"⟩
abbrev cX10_type : ByteArray := prog_1_method_2_code
def yX10_type : MethodName := ⟨RX10, "type", "(I)I"⟩
abbrev cX10_clear : ByteArray := prog_1_method_3_code
def yX10_clear : MethodName := ⟨RX10, "clear", "()I"⟩
abbrev cX10_reads : ByteArray := prog_1_method_4_code
def yX10_reads : MethodName := ⟨RX10, "reads", "()I"⟩
abbrev cX10_drops : ByteArray := prog_1_method_5_code
def yX10_drops : MethodName := ⟨RX10, "drops", "(I)I"⟩
abbrev cX10_turns : ByteArray := prog_1_method_6_code
def yX10_turns : MethodName := ⟨RX10, "turns", "(I)I"⟩
abbrev cX10_of : ByteArray := prog_1_method_7_code
def yX10_of : MethodName := ⟨RX10, "of", "(III)I"⟩
abbrev cX10_shown : ByteArray := prog_1_method_8_code
def yX10_shown : MethodName := ⟨RX10, "shown", "(II)I"⟩
abbrev cX10_pairs : ByteArray := prog_1_method_9_code
def yX10_pairs : MethodName := ⟨RX10, "pairs", "(I)I"⟩
abbrev cX10_pair : ByteArray := prog_1_method_10_code
def yX10_pair : MethodName := ⟨RX10, "pair", "(II)I"⟩
abbrev cX10_solutions : ByteArray := prog_1_method_11_code
def yX10_solutions : MethodName := ⟨RX10, "solutions", "()I"⟩
abbrev cX10_size : ByteArray := prog_1_method_12_code
def yX10_size : MethodName := ⟨RX10, "size", "(I)I"⟩
abbrev cX10_body : ByteArray := prog_1_method_13_code
def yX10_body : MethodName := ⟨RX10, "body", "(III)I"⟩
abbrev cX10_becomes : ByteArray := prog_1_method_14_code
def yX10_becomes : MethodName := ⟨RX10, "becomes", "(IIII)I"⟩
abbrev cX10_bodies : ByteArray := prog_1_method_15_code
def yX10_bodies : MethodName := ⟨RX10, "bodies", "(II)I"⟩
abbrev cX10_back : ByteArray := prog_1_method_16_code
def yX10_back : MethodName := ⟨RX10, "back", "()I"⟩
abbrev cX10_told : ByteArray := prog_1_method_17_code
def yX10_told : MethodName := ⟨RX10, "told", "(I)I"⟩
abbrev cX10_digest : ByteArray := prog_1_method_18_code
def yX10_digest : MethodName := ⟨RX10, "digest", "()J"⟩
abbrev cX10_digestBodies : ByteArray := prog_1_method_19_code
def yX10_digestBodies : MethodName := ⟨RX10, "digestBodies", "(JI)J"⟩
abbrev cX10_fact : ByteArray := prog_1_method_20_code
def yX10_fact : MethodName := ⟨RX10, "fact", "(I)I"⟩
abbrev cX10_sideFact : ByteArray := prog_1_method_21_code
def yX10_sideFact : MethodName := ⟨RX10, "sideFact", "(III)I"⟩
abbrev cX10_arrange : ByteArray := prog_1_method_22_code
def yX10_arrange : MethodName := ⟨RX10, "arrange", "()V"⟩
abbrev cX10_refuse : ByteArray := prog_1_method_23_code
def yX10_refuse : MethodName := ⟨RX10, "refuse", "(I)I"⟩
abbrev cX10_isSide : ByteArray := prog_1_method_24_code
def yX10_isSide : MethodName := ⟨RX10, "isSide", "(I)Z"⟩
def RX11 : String := "FlexTermsModel"
def TX11 : u_T := fun k => match k with
  | 0 => ("FlexTermsModel", "now", "[I", true)
  | 1 => ("FlexTermsModel", "fresh", "[I", true)
  | 2 => ("FlexTermsModel", "past", "[I", true)
  | 3 => ("FlexTermsModel", "states", "I", false)
  | 4 => ("FlexTermsModel", "refused", "[I", true)
  | 5 => ("FlexTermsModel", "text", "[I", true)
  | 6 => ("FlexTermsModel", "length", "I", false)
  | 7 => ("FlexTermsModel", "bodies", "[I", true)
  | 8 => ("FlexTermsModel", "starts", "[I", true)
  | 9 => ("FlexTermsModel", "at", "I", false)
  | 10 => ("FlexTermsModel", "filled", "I", false)
  | 11 => ("FlexTermsModel", "open", "[I", true)
  | 12 => ("FlexTermsModel", "depth", "I", false)
  | 13 => ("FlexTermsModel", "written", "[I", true)
  | 14 => ("FlexTermsModel", "writtenMany", "I", false)
  | 15 => ("FlexTermsModel", "first", "[I", true)
  | 16 => ("FlexTermsModel", "second", "[I", true)
  | 17 => ("FlexTermsModel", "pairMany", "I", false)
  | 18 => ("FlexTermsModel", "chosen", "[I", true)
  | 19 => ("FlexTermsModel", "standing", "[I", true)
  | 20 => ("FlexTermsModel", "standingMany", "I", false)
  | 21 => ("FlexTermsModel", "picked", "[I", true)
  | 22 => ("FlexTermsModel", "solved", "[I", true)
  | 23 => ("FlexTermsModel", "sizes", "[I", true)
  | 24 => ("FlexTermsModel", "solvedMany", "I", false)
  | 25 => ("FlexTermsModel", "heap", "[I", true)
  | 26 => ("FlexTermsModel", "place", "[I", true)
  | 27 => ("FlexTermsModel", "sign", "[I", true)
  | 28 => ("FlexTermsModel", "waiting", "I", false)
  | 29 => ("FlexTermsModel", "built", "[I", true)
  | _ => ("FlexTermsModel", "hash", "J", false)
def tyX11 : Nat → FieldType := fun k => match k with
  | 0 => .array .int
  | 1 => .array .int
  | 2 => .array .int
  | 3 => .int
  | 4 => .array .int
  | 5 => .array .int
  | 6 => .int
  | 7 => .array .int
  | 8 => .array .int
  | 9 => .int
  | 10 => .int
  | 11 => .array .int
  | 12 => .int
  | 13 => .array .int
  | 14 => .int
  | 15 => .array .int
  | 16 => .array .int
  | 17 => .int
  | 18 => .array .int
  | 19 => .array .int
  | 20 => .int
  | 21 => .array .int
  | 22 => .array .int
  | 23 => .array .int
  | 24 => .int
  | 25 => .array .int
  | 26 => .array .int
  | 27 => .array .int
  | 28 => .int
  | 29 => .array .int
  | _ => .long
abbrev wsX110 : List Cond := u_ws RX11 TX11 31
theorem nmX11 : ∀ a, a < 31 → ∀ b, b < 31 → a ≠ b → (TX11 a).2.1 ≠ (TX11 b).2.1 := by decide +kernel
theorem tyX11_ok : ∀ k, k < 31 → parseFieldDescriptor (TX11 k).2.2.1 = some (tyX11 k) := by decide +kernel
abbrev cX11_init : ByteArray := prog_13_method_1_code
def yX11_init : MethodName := ⟨RX11, "<init>", "()V"⟩
abbrev cX11_bad : ByteArray := prog_13_method_3_code
def yX11_bad : MethodName := ⟨RX11, "bad", "()I"⟩
abbrev cX11_no : ByteArray := prog_13_method_4_code
def yX11_no : MethodName := ⟨RX11, "no", "()I"⟩
abbrev cX11_full : ByteArray := prog_13_method_5_code
def yX11_full : MethodName := ⟨RX11, "full", "()I"⟩
abbrev cX11_within : ByteArray := prog_13_method_6_code
def yX11_within : MethodName := ⟨RX11, "within", "(III)Z"⟩
abbrev cX11_signsOf : ByteArray := prog_13_method_7_code
def yX11_signsOf : MethodName := ⟨RX11, "signsOf", "(II)I"⟩
abbrev cX11_signAt : ByteArray := prog_13_method_8_code
def yX11_signAt : MethodName := ⟨RX11, "signAt", "(III)I"⟩
abbrev cX11_isBody : ByteArray := prog_13_method_9_code
def yX11_isBody : MethodName := ⟨RX11, "isBody", "(III)Z"⟩
abbrev cX11_sizeOf : ByteArray := prog_13_method_10_code
def yX11_sizeOf : MethodName := ⟨RX11, "sizeOf", "(I)I"⟩
abbrev cX11_byteOf : ByteArray := prog_13_method_11_code
def yX11_byteOf : MethodName := ⟨RX11, "byteOf", "(I)I"⟩
abbrev cX11_isFlex : ByteArray := prog_13_method_12_code
def yX11_isFlex : MethodName := ⟨RX11, "isFlex", "(I)Z"⟩
abbrev cX11_partsOf : ByteArray := prog_13_method_13_code
def yX11_partsOf : MethodName := ⟨RX11, "partsOf", "(I)I"⟩
abbrev cX11_isLetter : ByteArray := prog_13_method_14_code
def yX11_isLetter : MethodName := ⟨RX11, "isLetter", "(I)Z"⟩
abbrev cX11_leaves : ByteArray := prog_13_method_15_code
def yX11_leaves : MethodName := ⟨RX11, "leaves", "()V"⟩
abbrev cX11_back : ByteArray := prog_13_method_16_code
def yX11_back : MethodName := ⟨RX11, "back", "()I"⟩
abbrev cX11_type : ByteArray := prog_13_method_17_code
def yX11_type : MethodName := ⟨RX11, "type", "(I)I"⟩
abbrev cX11_clear : ByteArray := prog_13_method_18_code
def yX11_clear : MethodName := ⟨RX11, "clear", "()I"⟩
abbrev cX11_blanks : ByteArray := prog_13_method_19_code
def yX11_blanks : MethodName := ⟨RX11, "blanks", "()V"⟩
abbrev cX11_passes : ByteArray := prog_13_method_20_code
def yX11_passes : MethodName := ⟨RX11, "passes", "(I)Z"⟩
abbrev cX11_letterPassed : ByteArray := prog_13_method_21_code
def yX11_letterPassed : MethodName := ⟨RX11, "letterPassed", "()I"⟩
abbrev cX11_closes : ByteArray := prog_13_method_22_code
def yX11_closes : MethodName := ⟨RX11, "closes", "()Z"⟩
abbrev cX11_readsTerm : ByteArray := prog_13_method_23_code
def yX11_readsTerm : MethodName := ⟨RX11, "readsTerm", "()Z"⟩
abbrev cX11_readsEquation : ByteArray := prog_13_method_24_code
def yX11_readsEquation : MethodName := ⟨RX11, "readsEquation", "()Z"⟩
abbrev cX11_isRead : ByteArray := prog_13_method_25_code
def yX11_isRead : MethodName := ⟨RX11, "isRead", "()Z"⟩
abbrev cX11_reads : ByteArray := prog_13_method_26_code
def yX11_reads : MethodName := ⟨RX11, "reads", "()I"⟩
abbrev cX11_isEquation : ByteArray := prog_13_method_27_code
def yX11_isEquation : MethodName := ⟨RX11, "isEquation", "(I)Z"⟩
abbrev cX11_isSide : ByteArray := prog_13_method_28_code
def yX11_isSide : MethodName := ⟨RX11, "isSide", "(I)Z"⟩
abbrev cX11_nodesOf : ByteArray := prog_13_method_29_code
def yX11_nodesOf : MethodName := ⟨RX11, "nodesOf", "(II)I"⟩
abbrev cX11_beginOf : ByteArray := prog_13_method_30_code
def yX11_beginOf : MethodName := ⟨RX11, "beginOf", "(II)I"⟩
abbrev cX11_drops : ByteArray := prog_13_method_31_code
def yX11_drops : MethodName := ⟨RX11, "drops", "(I)I"⟩
abbrev cX11_turns : ByteArray := prog_13_method_32_code
def yX11_turns : MethodName := ⟨RX11, "turns", "(I)I"⟩
abbrev cX11_flexIn : ByteArray := prog_13_method_33_code
def yX11_flexIn : MethodName := ⟨RX11, "flexIn", "(II)I"⟩
abbrev cX11_deepOf : ByteArray := prog_13_method_34_code
def yX11_deepOf : MethodName := ⟨RX11, "deepOf", "(II)I"⟩
abbrev cX11_ends : ByteArray := prog_13_method_35_code
def yX11_ends : MethodName := ⟨RX11, "ends", "()V"⟩
abbrev cX11_ofSide : ByteArray := prog_13_method_36_code
def yX11_ofSide : MethodName := ⟨RX11, "ofSide", "(III)I"⟩
abbrev cX11_of : ByteArray := prog_13_method_37_code
def yX11_of : MethodName := ⟨RX11, "of", "(III)I"⟩
abbrev cX11_writes : ByteArray := prog_13_method_38_code
def yX11_writes : MethodName := ⟨RX11, "writes", "(I)V"⟩
abbrev cX11_writesLetter : ByteArray := prog_13_method_39_code
def yX11_writesLetter : MethodName := ⟨RX11, "writesLetter", "(I)V"⟩
abbrev cX11_writesSide : ByteArray := prog_13_method_40_code
def yX11_writesSide : MethodName := ⟨RX11, "writesSide", "(II)V"⟩
abbrev cX11_writtenAt : ByteArray := prog_13_method_41_code
def yX11_writtenAt : MethodName := ⟨RX11, "writtenAt", "(I)I"⟩
abbrev cX11_shown : ByteArray := prog_13_method_42_code
def yX11_shown : MethodName := ⟨RX11, "shown", "(II)I"⟩
abbrev cX11_behind : ByteArray := prog_13_method_43_code
def yX11_behind : MethodName := ⟨RX11, "behind", "(I)I"⟩
abbrev cX11_comesIn : ByteArray := prog_13_method_44_code
def yX11_comesIn : MethodName := ⟨RX11, "comesIn", "(III)V"⟩
abbrev cX11_goesOut : ByteArray := prog_13_method_45_code
def yX11_goesOut : MethodName := ⟨RX11, "goesOut", "(I)V"⟩
abbrev cX11_takesApart : ByteArray := prog_13_method_46_code
def yX11_takesApart : MethodName := ⟨RX11, "takesApart", "(I)V"⟩
abbrev cX11_laysPairs : ByteArray := prog_13_method_47_code
def yX11_laysPairs : MethodName := ⟨RX11, "laysPairs", "()V"⟩
abbrev cX11_kindOf : ByteArray := prog_13_method_48_code
def yX11_kindOf : MethodName := ⟨RX11, "kindOf", "(I)I"⟩
abbrev cX11_tellPairs : ByteArray := prog_13_method_49_code
def yX11_tellPairs : MethodName := ⟨RX11, "tellPairs", "(I)I"⟩
abbrev cX11_pairs : ByteArray := prog_13_method_50_code
def yX11_pairs : MethodName := ⟨RX11, "pairs", "(I)I"⟩
abbrev cX11_waysOf : ByteArray := prog_13_method_51_code
def yX11_waysOf : MethodName := ⟨RX11, "waysOf", "(I)I"⟩
abbrev cX11_pair : ByteArray := prog_13_method_52_code
def yX11_pair : MethodName := ⟨RX11, "pair", "(II)I"⟩
abbrev cX11_allLetters : ByteArray := prog_13_method_53_code
def yX11_allLetters : MethodName := ⟨RX11, "allLetters", "()I"⟩
abbrev cX11_laysStanding : ByteArray := prog_13_method_54_code
def yX11_laysStanding : MethodName := ⟨RX11, "laysStanding", "()V"⟩
abbrev cX11_grown : ByteArray := prog_13_method_55_code
def yX11_grown : MethodName := ⟨RX11, "grown", "(III)I"⟩
abbrev cX11_comesTo : ByteArray := prog_13_method_56_code
def yX11_comesTo : MethodName := ⟨RX11, "comesTo", "(II)I"⟩
abbrev cX11_waits : ByteArray := prog_13_method_57_code
def yX11_waits : MethodName := ⟨RX11, "waits", "(II)V"⟩
abbrev cX11_buildsLetter : ByteArray := prog_13_method_58_code
def yX11_buildsLetter : MethodName := ⟨RX11, "buildsLetter", "(II)V"⟩
abbrev cX11_builds : ByteArray := prog_13_method_59_code
def yX11_builds : MethodName := ⟨RX11, "builds", "(III)I"⟩
abbrev cX11_isSolved : ByteArray := prog_13_method_60_code
def yX11_isSolved : MethodName := ⟨RX11, "isSolved", "(I)Z"⟩
abbrev cX11_areSolved : ByteArray := prog_13_method_61_code
def yX11_areSolved : MethodName := ⟨RX11, "areSolved", "()Z"⟩
abbrev cX11_meets : ByteArray := prog_13_method_62_code
def yX11_meets : MethodName := ⟨RX11, "meets", "(I)V"⟩
abbrev cX11_picksNext : ByteArray := prog_13_method_63_code
def yX11_picksNext : MethodName := ⟨RX11, "picksNext", "(II)Z"⟩
abbrev cX11_goesThrough : ByteArray := prog_13_method_64_code
def yX11_goesThrough : MethodName := ⟨RX11, "goesThrough", "(I)V"⟩
abbrev cX11_solves : ByteArray := prog_13_method_65_code
def yX11_solves : MethodName := ⟨RX11, "solves", "()V"⟩
abbrev cX11_solutions : ByteArray := prog_13_method_66_code
def yX11_solutions : MethodName := ⟨RX11, "solutions", "()I"⟩
abbrev cX11_size : ByteArray := prog_13_method_67_code
def yX11_size : MethodName := ⟨RX11, "size", "(I)I"⟩
abbrev cX11_writesBody : ByteArray := prog_13_method_68_code
def yX11_writesBody : MethodName := ⟨RX11, "writesBody", "(I)V"⟩
abbrev cX11_body : ByteArray := prog_13_method_69_code
def yX11_body : MethodName := ⟨RX11, "body", "(III)I"⟩
abbrev cX11_becomes : ByteArray := prog_13_method_70_code
def yX11_becomes : MethodName := ⟨RX11, "becomes", "(IIII)I"⟩
abbrev cX11_bodies : ByteArray := prog_13_method_71_code
def yX11_bodies : MethodName := ⟨RX11, "bodies", "(II)I"⟩
abbrev cX11_toldOf : ByteArray := prog_13_method_72_code
def yX11_toldOf : MethodName := ⟨RX11, "toldOf", "(I)I"⟩
abbrev cX11_told : ByteArray := prog_13_method_73_code
def yX11_told : MethodName := ⟨RX11, "told", "(I)I"⟩
abbrev cX11_mix : ByteArray := prog_13_method_74_code
def yX11_mix : MethodName := ⟨RX11, "mix", "(I)V"⟩
abbrev cX11_mixSolution : ByteArray := prog_13_method_75_code
def yX11_mixSolution : MethodName := ⟨RX11, "mixSolution", "(I)V"⟩
abbrev cX11_digest : ByteArray := prog_13_method_76_code
def yX11_digest : MethodName := ⟨RX11, "digest", "()J"⟩
def RJx145de : String := "java/io/Serializable"
def TJx145de : u_T := fun k => match k with
  | _ => ("", "", "", false)
def tyJx145de : Nat → FieldType := fun k => match k with
  | _ => .int
abbrev wsJx145de0 : List Cond := u_ws RJx145de TJx145de 0
theorem nmJx145de : ∀ a, a < 0 → ∀ b, b < 0 → a ≠ b → (TJx145de a).2.1 ≠ (TJx145de b).2.1 := by decide +kernel
theorem tyJx145de_ok : ∀ k, k < 0 → parseFieldDescriptor (TJx145de k).2.2.1 = some (tyJx145de k) := by decide +kernel
def RJx9f9b0 : String := "java/lang/CharSequence"
def TJx9f9b0 : u_T := fun k => match k with
  | _ => ("", "", "", false)
def tyJx9f9b0 : Nat → FieldType := fun k => match k with
  | _ => .int
abbrev wsJx9f9b00 : List Cond := u_ws RJx9f9b0 TJx9f9b0 0
theorem nmJx9f9b0 : ∀ a, a < 0 → ∀ b, b < 0 → a ≠ b → (TJx9f9b0 a).2.1 ≠ (TJx9f9b0 b).2.1 := by decide +kernel
theorem tyJx9f9b0_ok : ∀ k, k < 0 → parseFieldDescriptor (TJx9f9b0 k).2.2.1 = some (tyJx9f9b0 k) := by decide +kernel
def RJ11 : String := "java/lang/Character"
def TJ11 : u_T := fun k => match k with
  | _ => ("", "", "", false)
def tyJ11 : Nat → FieldType := fun k => match k with
  | _ => .int
abbrev wsJ110 : List Cond := u_ws RJ11 TJ11 0
theorem nmJ11 : ∀ a, a < 0 → ∀ b, b < 0 → a ≠ b → (TJ11 a).2.1 ≠ (TJ11 b).2.1 := by decide +kernel
theorem tyJ11_ok : ∀ k, k < 0 → parseFieldDescriptor (TJ11 k).2.2.1 = some (tyJ11 k) := by decide +kernel
abbrev cJ11_isValidCodePoint_9a6ad : ByteArray := prog_14_method_11_code
def yJ11_isValidCodePoint_9a6ad : MethodName := ⟨RJ11, "isValidCodePoint", "(I)Z"⟩
abbrev cJ11_highSurrogate_5068e : ByteArray := prog_14_method_28_code
def yJ11_highSurrogate_5068e : MethodName := ⟨RJ11, "highSurrogate", "(I)C"⟩
abbrev cJ11_lowSurrogate_5068e : ByteArray := prog_14_method_29_code
def yJ11_lowSurrogate_5068e : MethodName := ⟨RJ11, "lowSurrogate", "(I)C"⟩
def RJx8e188 : String := "java/lang/Cloneable"
def TJx8e188 : u_T := fun k => match k with
  | _ => ("", "", "", false)
def tyJx8e188 : Nat → FieldType := fun k => match k with
  | _ => .int
abbrev wsJx8e1880 : List Cond := u_ws RJx8e188 TJx8e188 0
theorem nmJx8e188 : ∀ a, a < 0 → ∀ b, b < 0 → a ≠ b → (TJx8e188 a).2.1 ≠ (TJx8e188 b).2.1 := by decide +kernel
theorem tyJx8e188_ok : ∀ k, k < 0 → parseFieldDescriptor (TJx8e188 k).2.2.1 = some (tyJx8e188 k) := by decide +kernel
def RJxb160c : String := "java/lang/Comparable"
def TJxb160c : u_T := fun k => match k with
  | _ => ("", "", "", false)
def tyJxb160c : Nat → FieldType := fun k => match k with
  | _ => .int
abbrev wsJxb160c0 : List Cond := u_ws RJxb160c TJxb160c 0
theorem nmJxb160c : ∀ a, a < 0 → ∀ b, b < 0 → a ≠ b → (TJxb160c a).2.1 ≠ (TJxb160c b).2.1 := by decide +kernel
theorem tyJxb160c_ok : ∀ k, k < 0 → parseFieldDescriptor (TJxb160c k).2.2.1 = some (tyJxb160c k) := by decide +kernel
def RJ9 : String := "java/lang/Math"
def TJ9 : u_T := fun k => match k with
  | _ => ("", "", "", false)
def tyJ9 : Nat → FieldType := fun k => match k with
  | _ => .int
abbrev wsJ90 : List Cond := u_ws RJ9 TJ9 0
theorem nmJ9 : ∀ a, a < 0 → ∀ b, b < 0 → a ≠ b → (TJ9 a).2.1 ≠ (TJ9 b).2.1 := by decide +kernel
theorem tyJ9_ok : ∀ k, k < 0 → parseFieldDescriptor (TJ9 k).2.2.1 = some (tyJ9 k) := by decide +kernel
abbrev cJ9_max_7cf53 : ByteArray := prog_16_method_65_code
def yJ9_max_7cf53 : MethodName := ⟨RJ9, "max", "(II)I"⟩
abbrev cJ9_min_7cf53 : ByteArray := prog_16_method_69_code
def yJ9_min_7cf53 : MethodName := ⟨RJ9, "min", "(II)I"⟩
def RJ0 : String := "java/lang/String"
def TJ0 : u_T := fun k => match k with
  | _ => ("", "", "", false)
def tyJ0 : Nat → FieldType := fun k => match k with
  | _ => .int
abbrev wsJ00 : List Cond := u_ws RJ0 TJ0 0
theorem nmJ0 : ∀ a, a < 0 → ∀ b, b < 0 → a ≠ b → (TJ0 a).2.1 ≠ (TJ0 b).2.1 := by decide +kernel
theorem tyJ0_ok : ∀ k, k < 0 → parseFieldDescriptor (TJ0 k).2.2.1 = some (tyJ0 k) := by decide +kernel
abbrev cJ0_length_8abf5 : ByteArray := prog_17_method_54_code
def yJ0_length_8abf5 : MethodName := ⟨RJ0, "length", "()I"⟩
abbrev cJ0_charAt_5068e : ByteArray := prog_17_method_56_code
def yJ0_charAt_5068e : MethodName := ⟨RJ0, "charAt", "(I)C"⟩
abbrev cJ0_indexOf_0f7a4 : ByteArray := prog_17_method_79_code
def yJ0_indexOf_0f7a4 : MethodName := ⟨RJ0, "indexOf", "(I)I"⟩
abbrev cJ0_indexOf_7cf53 : ByteArray := prog_17_method_80_code
def yJ0_indexOf_7cf53 : MethodName := ⟨RJ0, "indexOf", "(II)I"⟩
abbrev cJ0_coder_7d493 : ByteArray := prog_17_method_152_code
def yJ0_coder_7d493 : MethodName := ⟨RJ0, "coder", "()B"⟩
abbrev cJ0_isLatin1_aae02 : ByteArray := prog_17_method_154_code
def yJ0_isLatin1_aae02 : MethodName := ⟨RJ0, "isLatin1", "()Z"⟩
abbrev cJ0_checkIndex_df160 : ByteArray := prog_17_method_155_code
def yJ0_checkIndex_df160 : MethodName := ⟨RJ0, "checkIndex", "(II)V"⟩
abbrev cJ0_checkBoundsBeginEnd_23922 : ByteArray := prog_17_method_158_code
def yJ0_checkBoundsBeginEnd_23922 : MethodName := ⟨RJ0, "checkBoundsBeginEnd", "(III)V"⟩
def RJ1 : String := "java/lang/StringLatin1"
def TJ1 : u_T := fun k => match k with
  | _ => ("", "", "", false)
def tyJ1 : Nat → FieldType := fun k => match k with
  | _ => .int
abbrev wsJ10 : List Cond := u_ws RJ1 TJ1 0
theorem nmJ1 : ∀ a, a < 0 → ∀ b, b < 0 → a ≠ b → (TJ1 a).2.1 ≠ (TJ1 b).2.1 := by decide +kernel
theorem tyJ1_ok : ∀ k, k < 0 → parseFieldDescriptor (TJ1 k).2.2.1 = some (tyJ1 k) := by decide +kernel
abbrev cJ1_charAt_3b067 : ByteArray := prog_18_method_2_code
def yJ1_charAt_3b067 : MethodName := ⟨RJ1, "charAt", "([BI)C"⟩
abbrev cJ1_canEncode_9a6ad : ByteArray := prog_18_method_4_code
def yJ1_canEncode_9a6ad : MethodName := ⟨RJ1, "canEncode", "(I)Z"⟩
abbrev cJ1_indexOf_4cfef : ByteArray := prog_18_method_22_code
def yJ1_indexOf_4cfef : MethodName := ⟨RJ1, "indexOf", "([BIII)I"⟩
abbrev cJ1_indexOfChar_4cfef : ByteArray := prog_18_method_23_code
def yJ1_indexOfChar_4cfef : MethodName := ⟨RJ1, "indexOfChar", "([BIII)I"⟩
def RJ2 : String := "java/lang/StringUTF16"
def TJ2 : u_T := fun k => match k with
  | _ => ("", "", "", false)
def tyJ2 : Nat → FieldType := fun k => match k with
  | _ => .int
abbrev wsJ20 : List Cond := u_ws RJ2 TJ2 0
theorem nmJ2 : ∀ a, a < 0 → ∀ b, b < 0 → a ≠ b → (TJ2 a).2.1 ≠ (TJ2 b).2.1 := by decide +kernel
theorem tyJ2_ok : ∀ k, k < 0 → parseFieldDescriptor (TJ2 k).2.2.1 = some (tyJ2 k) := by decide +kernel
abbrev cJ2_getChar_3b067 : ByteArray := prog_19_method_5_code
def yJ2_getChar_3b067 : MethodName := ⟨RJ2, "getChar", "([BI)C"⟩
abbrev cJ2_length_9d52b : ByteArray := prog_19_method_6_code
def yJ2_length_9d52b : MethodName := ⟨RJ2, "length", "([B)I"⟩
abbrev cJ2_indexOf_4cfef : ByteArray := prog_19_method_40_code
def yJ2_indexOf_4cfef : MethodName := ⟨RJ2, "indexOf", "([BIII)I"⟩
abbrev cJ2_indexOfChar_4cfef : ByteArray := prog_19_method_47_code
def yJ2_indexOfChar_4cfef : MethodName := ⟨RJ2, "indexOfChar", "([BIII)I"⟩
abbrev cJ2_indexOfCharUnsafe_4cfef : ByteArray := prog_19_method_48_code
def yJ2_indexOfCharUnsafe_4cfef : MethodName := ⟨RJ2, "indexOfCharUnsafe", "([BIII)I"⟩
abbrev cJ2_indexOfSupplementary_4cfef : ByteArray := prog_19_method_49_code
def yJ2_indexOfSupplementary_4cfef : MethodName := ⟨RJ2, "indexOfSupplementary", "([BIII)I"⟩
abbrev cJ2_charAt_3b067 : ByteArray := prog_19_method_83_code
def yJ2_charAt_3b067 : MethodName := ⟨RJ2, "charAt", "([BI)C"⟩
abbrev cJ2_checkIndex_2214a : ByteArray := prog_19_method_91_code
def yJ2_checkIndex_2214a : MethodName := ⟨RJ2, "checkIndex", "(I[B)V"⟩
abbrev cJ2_checkBoundsBeginEnd_d044e : ByteArray := prog_19_method_93_code
def yJ2_checkBoundsBeginEnd_d044e : MethodName := ⟨RJ2, "checkBoundsBeginEnd", "(II[B)V"⟩
def RJ10 : String := "java/lang/System"
def TJ10 : u_T := fun k => match k with
  | _ => ("", "", "", false)
def tyJ10 : Nat → FieldType := fun k => match k with
  | _ => .int
abbrev wsJ100 : List Cond := u_ws RJ10 TJ10 0
theorem nmJ10 : ∀ a, a < 0 → ∀ b, b < 0 → a ≠ b → (TJ10 a).2.1 ≠ (TJ10 b).2.1 := by decide +kernel
theorem tyJ10_ok : ∀ k, k < 0 → parseFieldDescriptor (TJ10 k).2.2.1 = some (tyJ10 k) := by decide +kernel
def RJxfd54e : String := "java/lang/constant/Constable"
def TJxfd54e : u_T := fun k => match k with
  | _ => ("", "", "", false)
def tyJxfd54e : Nat → FieldType := fun k => match k with
  | _ => .int
abbrev wsJxfd54e0 : List Cond := u_ws RJxfd54e TJxfd54e 0
theorem nmJxfd54e : ∀ a, a < 0 → ∀ b, b < 0 → a ≠ b → (TJxfd54e a).2.1 ≠ (TJxfd54e b).2.1 := by decide +kernel
theorem tyJxfd54e_ok : ∀ k, k < 0 → parseFieldDescriptor (TJxfd54e k).2.2.1 = some (tyJxfd54e k) := by decide +kernel
def RJx3cf43 : String := "java/lang/constant/ConstantDesc"
def TJx3cf43 : u_T := fun k => match k with
  | _ => ("", "", "", false)
def tyJx3cf43 : Nat → FieldType := fun k => match k with
  | _ => .int
abbrev wsJx3cf430 : List Cond := u_ws RJx3cf43 TJx3cf43 0
theorem nmJx3cf43 : ∀ a, a < 0 → ∀ b, b < 0 → a ≠ b → (TJx3cf43 a).2.1 ≠ (TJx3cf43 b).2.1 := by decide +kernel
theorem tyJx3cf43_ok : ∀ k, k < 0 → parseFieldDescriptor (TJx3cf43 k).2.2.1 = some (tyJx3cf43 k) := by decide +kernel
def RJ7 : String := "java/util/Arrays"
def TJ7 : u_T := fun k => match k with
  | _ => ("", "", "", false)
def tyJ7 : Nat → FieldType := fun k => match k with
  | _ => .int
abbrev wsJ70 : List Cond := u_ws RJ7 TJ7 0
theorem nmJ7 : ∀ a, a < 0 → ∀ b, b < 0 → a ≠ b → (TJ7 a).2.1 ≠ (TJ7 b).2.1 := by decide +kernel
theorem tyJ7_ok : ∀ k, k < 0 → parseFieldDescriptor (TJ7 k).2.2.1 = some (tyJ7 k) := by decide +kernel
abbrev cJ7_checkLength_df160 : ByteArray := prog_21_method_131_code
def yJ7_checkLength_df160 : MethodName := ⟨RJ7, "checkLength", "(II)V"⟩
abbrev cJ7_copyOfRange_feecc : ByteArray := prog_21_method_136_code
def yJ7_copyOfRange_feecc : MethodName := ⟨RJ7, "copyOfRange", "([III)[I"⟩
abbrev cJ7_copyOfRangeInt_feecc : ByteArray := prog_21_method_137_code
def yJ7_copyOfRangeInt_feecc : MethodName := ⟨RJ7, "copyOfRangeInt", "([III)[I"⟩
def RJ3 : String := "jdk/internal/util/Preconditions"
def TJ3 : u_T := fun k => match k with
  | _ => ("", "", "", false)
def tyJ3 : Nat → FieldType := fun k => match k with
  | _ => .int
abbrev wsJ30 : List Cond := u_ws RJ3 TJ3 0
theorem nmJ3 : ∀ a, a < 0 → ∀ b, b < 0 → a ≠ b → (TJ3 a).2.1 ≠ (TJ3 b).2.1 := by decide +kernel
theorem tyJ3_ok : ∀ k, k < 0 → parseFieldDescriptor (TJ3 k).2.2.1 = some (tyJ3 k) := by decide +kernel
abbrev cJ3_checkIndex_8e157 : ByteArray := prog_22_method_11_code
def yJ3_checkIndex_8e157 : MethodName := ⟨RJ3, "checkIndex", "(IILjava/util/function/BiFunction;)I"⟩
abbrev cJ3_checkFromToIndex_8c36e : ByteArray := prog_22_method_12_code
def yJ3_checkFromToIndex_8c36e : MethodName := ⟨RJ3, "checkFromToIndex", "(IIILjava/util/function/BiFunction;)I"⟩
def RL : String := "FlexTermsLaw"
abbrev cL_law : ByteArray := code
def yL_law : MethodName := ⟨RL, "law", "([I)Z"⟩
end
section
/-! A PURE MACHINE: its heap is a list of cells, a reference is a place in that list; its steps are predicates (what must hold so that the rest holds). A method runs in a heap of its own, cut out of the caller's (oCall). -/
abbrev pC : Type := List Int32 ⊕ (Nat × List Value)
abbrev pH : Type := List pC
abbrev pL : Type := List (Option Value)
abbrev pQ : Type := Option Value → pH → Prop
abbrev pB : Type := Nat × Nat × Nat
abbrev pX : Type := pB → Nat → Nat → pL → List Value → pH → pQ → Prop
abbrev pO : Type := pX → pB → Nat → pL → List Value → pH → pQ → Prop
def pg {α : Type} : List α → Nat → Option α
  | [], _ => none
  | a :: _, 0 => some a
  | _ :: l, n + 1 => pg l n
def pPop (st : List Value) (k : Value → List Value → Prop) : Prop := match st with
  | [] => False
  | v :: r => k v r
def pI (v : Value) (k : Int32 → Prop) : Prop := match v with
  | .int x => k x
  | _ => False
def pJ (v : Value) (k : Int64 → Prop) : Prop := match v with
  | .long x => k x
  | _ => False
def pR (v : Value) (k : Nat → Prop) : Prop := match v with
  | .ref x => k x
  | _ => False
/-- a reference of any kind: to a cell, or to what isn't ours (a text, the script) -/
def pRef (v : Value) (k : Prop) : Prop := match v with
  | .ref _ => k
  | .retAddr _ => k
  | _ => False
def pSome {α : Type} (o : Option α) (k : α → Prop) : Prop := match o with
  | some a => k a
  | none => False
def pCell (c : pC) (f : List Int32 → Prop) (g : Nat → List Value → Prop) : Prop := match c with
  | .inl xs => f xs
  | .inr o => g o.1 o.2
def pA (h : pH) (i : Nat) (k : List Int32 → Prop) : Prop := pSome (pg h i) fun c => pCell c k (fun _ _ => False)
def pOb (h : pH) (i ci : Nat) (k : List Value → Prop) : Prop := pSome (pg h i) fun c => pCell c (fun _ => False) (fun cj fs => bif Nat.beq cj ci then k fs else False)
def pKill (ls : pL) : Nat → pL
  | 0 => ls
  | j + 1 => match pg ls j with
    | some (some v) => bif Nat.beq v.category 2 then ls.set j none else ls
    | _ => ls
def pSet (ls : pL) (i : Nat) (v : Value) : pL := (pKill ls i).set i (some v)
def pSet2 (ls : pL) (i : Nat) (v : Value) : pL := ((pKill ls i).set i (some v)).set (i + 1) none
def oF : pO := fun _ _ _ _ _ _ _ => False
def oPush (v : Value) (n : Nat) : pO := fun X B me ls st h Q => X B me n ls (v :: st) h Q
def oLoadI (i n : Nat) : pO := fun X B me ls st h Q => pSome (pg ls i) fun o => pSome o fun v => pI v fun x => X B me n ls (.int x :: st) h Q
def oLoadL (i n : Nat) : pO := fun X B me ls st h Q => pSome (pg ls i) fun o => pSome o fun v => pJ v fun x => X B me n ls (.long x :: st) h Q
def oLoadA (i n : Nat) : pO := fun X B me ls st h Q => pSome (pg ls i) fun o => pSome o fun v => pRef v (X B me n ls (v :: st) h Q)
def oStoreI (i n : Nat) : pO := fun X B me ls st h Q => pPop st fun v st => pI v fun x => bif Nat.ble (i + 1) ls.length then X B me n (pSet ls i (.int x)) st h Q else False
def oStoreA (i n : Nat) : pO := fun X B me ls st h Q => pPop st fun v st => pR v fun x => bif Nat.ble (i + 1) ls.length then X B me n (pSet ls i (.ref x)) st h Q else False
def oStoreL (i n : Nat) : pO := fun X B me ls st h Q => pPop st fun v st => pJ v fun x => bif Nat.ble (i + 2) ls.length then X B me n (pSet2 ls i (.long x)) st h Q else False
def oInc (i : Nat) (c : Int32) (n : Nat) : pO := fun X B me ls st h Q => pSome (pg ls i) fun o => pSome o fun v => pI v fun x => X B me n (pSet ls i (.int (x + c))) st h Q
/-- two ints of the stack -/
def p2 (st : List Value) (k : Int32 → Int32 → List Value → Prop) : Prop := pPop st fun b st => pPop st fun a st => pI b fun y => pI a fun x => k x y st
def p2L (st : List Value) (k : Int64 → Int64 → List Value → Prop) : Prop := pPop st fun b st => pPop st fun a st => pJ b fun y => pJ a fun x => k x y st
def oAdd (n : Nat) : pO := fun X B me ls st h Q => p2 st fun x y st => X B me n ls (.int (x + y) :: st) h Q
def oSub (n : Nat) : pO := fun X B me ls st h Q => p2 st fun x y st => X B me n ls (.int (x - y) :: st) h Q
def oMul (n : Nat) : pO := fun X B me ls st h Q => p2 st fun x y st => X B me n ls (.int (x * y) :: st) h Q
def oAnd (n : Nat) : pO := fun X B me ls st h Q => p2 st fun x y st => X B me n ls (.int (x &&& y) :: st) h Q
def oOr (n : Nat) : pO := fun X B me ls st h Q => p2 st fun x y st => X B me n ls (.int (x ||| y) :: st) h Q
def oDiv (n : Nat) : pO := fun X B me ls st h Q => p2 st fun x y st => (¬ y = 0) ∧ X B me n ls (.int (x / y) :: st) h Q
def oRem (n : Nat) : pO := fun X B me ls st h Q => p2 st fun x y st => (¬ y = 0) ∧ X B me n ls (.int (x - x / y * y) :: st) h Q
def oShl (n : Nat) : pO := fun X B me ls st h Q => p2 st fun x y st => X B me n ls (.int (x <<< (y &&& 31)) :: st) h Q
def oShr (n : Nat) : pO := fun X B me ls st h Q => p2 st fun x y st => X B me n ls (.int (x >>> (y &&& 31)) :: st) h Q
def oI2l (n : Nat) : pO := fun X B me ls st h Q => pPop st fun a st => pI a fun x => X B me n ls (.long x.toInt64 :: st) h Q
def oAddL (n : Nat) : pO := fun X B me ls st h Q => p2L st fun x y st => X B me n ls (.long (x + y) :: st) h Q
def oMulL (n : Nat) : pO := fun X B me ls st h Q => p2L st fun x y st => X B me n ls (.long (x * y) :: st) h Q
def oCmpL (n : Nat) : pO := fun X B me ls st h Q => p2L st fun x y st => X B me n ls (.int (lg_cmp x y) :: st) h Q
def oMin (n : Nat) : pO := fun X B me ls st h Q => p2 st fun x y st => (1 ≤ B.1 ∧ (st.map fun v => v.category).sum ≤ 8) ∧ X B me n ls (.int (if y < x then y else x) :: st) h Q
def oMax (n : Nat) : pO := fun X B me ls st h Q => p2 st fun x y st => (1 ≤ B.1 ∧ (st.map fun v => v.category).sum ≤ 8) ∧ X B me n ls (.int (if x < y then y else x) :: st) h Q
def oDup (n : Nat) : pO := fun X B me ls st h Q => pPop st fun v r => bif Nat.beq v.category 1 then X B me n ls (v :: v :: r) h Q else False
def oDup2 (n : Nat) : pO := fun X B me ls st h Q => pPop st fun v st => pPop st fun w r => bif Nat.beq v.category 1 && Nat.beq w.category 1 then X B me n ls (v :: w :: v :: w :: r) h Q else False
def oGoto (t : Nat) : pO := fun X B me ls st h Q => X B me t ls st h Q
def oIfLt (t n : Nat) : pO := fun X B me ls st h Q => p2 st fun x y st => (x < y → X B me t ls st h Q) ∧ (¬ x < y → X B me n ls st h Q)
def oIfLt0 (t n : Nat) : pO := fun X B me ls st h Q => pPop st fun a st => pI a fun x => (x < 0 → X B me t ls st h Q) ∧ (¬ x < 0 → X B me n ls st h Q)
def oIfGe (t n : Nat) : pO := fun X B me ls st h Q => p2 st fun x y st => (y ≤ x → X B me t ls st h Q) ∧ (¬ y ≤ x → X B me n ls st h Q)
def oIfGe0 (t n : Nat) : pO := fun X B me ls st h Q => pPop st fun a st => pI a fun x => (0 ≤ x → X B me t ls st h Q) ∧ (¬ 0 ≤ x → X B me n ls st h Q)
def oIfGt (t n : Nat) : pO := fun X B me ls st h Q => p2 st fun x y st => (y < x → X B me t ls st h Q) ∧ (¬ y < x → X B me n ls st h Q)
def oIfGt0 (t n : Nat) : pO := fun X B me ls st h Q => pPop st fun a st => pI a fun x => (0 < x → X B me t ls st h Q) ∧ (¬ 0 < x → X B me n ls st h Q)
def oIfLe (t n : Nat) : pO := fun X B me ls st h Q => p2 st fun x y st => (x ≤ y → X B me t ls st h Q) ∧ (¬ x ≤ y → X B me n ls st h Q)
def oIfLe0 (t n : Nat) : pO := fun X B me ls st h Q => pPop st fun a st => pI a fun x => (x ≤ 0 → X B me t ls st h Q) ∧ (¬ x ≤ 0 → X B me n ls st h Q)
def oIfEq (t n : Nat) : pO := fun X B me ls st h Q => p2 st fun x y st => (x = y → X B me t ls st h Q) ∧ (¬ x = y → X B me n ls st h Q)
def oIfEq0 (t n : Nat) : pO := fun X B me ls st h Q => pPop st fun a st => pI a fun x => (x = 0 → X B me t ls st h Q) ∧ (¬ x = 0 → X B me n ls st h Q)
def oNonNull (t : Nat) : pO := fun X B me ls st h Q => pPop st fun a st => pR a fun _ => X B me t ls st h Q
def pSw (x : Int32) (K : Nat → Prop) (d : Nat) : List (Int32 × Nat) → Prop
  | [] => K d
  | q :: r => (x = q.1 → K q.2) ∧ (¬ x = q.1 → pSw x K d r)
def oSw (ts : List (Int32 × Nat)) (d : Nat) : pO := fun X B me ls st h Q => pPop st fun a st => pI a fun x => pSw x (fun t => X B me t ls st h Q) d ts
def oRetV : pO := fun _ _ _ _ st h Q => match st with
  | [] => Q none h
  | _ => False
def oRetI : pO := fun _ _ _ _ st h Q => match st with
  | [v] => pI v fun x => Q (some (.int x)) h
  | _ => False
/-- a boolean: 0 or 1 -/
def oRetZ : pO := fun _ _ _ _ st h Q => match st with
  | [v] => pI v fun x => (x = 0 ∨ x = 1) ∧ Q (some (.int x)) h
  | _ => False
def oRetL : pO := fun _ _ _ _ st h Q => match st with
  | [v] => pJ v fun x => Q (some (.long x)) h
  | _ => False
def oRetA : pO := fun _ _ _ _ st h Q => match st with
  | [v] => pR v fun x => Q (some (.ref x)) h
  | _ => False
def oGet (ci k n : Nat) : pO := fun X B me ls st h Q => pPop st fun a st => pR a fun i => pOb h i ci fun fs => pSome (pg fs k) fun v => X B me n ls (v :: st) h Q
def oPutI (ci k n : Nat) : pO := fun X B me ls st h Q => pPop st fun v st => pPop st fun a st => pI v fun x => pR a fun i => pOb h i ci fun fs => bif Nat.ble (k + 1) fs.length then X B me n ls st (h.set i (.inr (ci, fs.set k (.int x)))) Q else False
def oPutZ (ci k n : Nat) : pO := fun X B me ls st h Q => pPop st fun v st => pPop st fun a st => pI v fun x => pR a fun i => pOb h i ci fun fs => bif Nat.ble (k + 1) fs.length then (x = 0 ∨ x = 1) ∧ X B me n ls st (h.set i (.inr (ci, fs.set k (.int x)))) Q else False
def oPutJ (ci k n : Nat) : pO := fun X B me ls st h Q => pPop st fun v st => pPop st fun a st => pJ v fun x => pR a fun i => pOb h i ci fun fs => bif Nat.ble (k + 1) fs.length then X B me n ls st (h.set i (.inr (ci, fs.set k (.long x)))) Q else False
def oPutR (ci k n : Nat) : pO := fun X B me ls st h Q => pPop st fun v st => pPop st fun a st => pR v fun x => pR a fun i => pOb h i ci fun fs => bif Nat.ble (k + 1) fs.length then X B me n ls st (h.set i (.inr (ci, fs.set k (.ref x)))) Q else False
def oLd (n : Nat) : pO := fun X B me ls st h Q => pPop st fun j st => pPop st fun a st => pI j fun j => pR a fun i => pA h i fun xs => vp_in j xs.length ∧ X B me n ls (.int (xs.getD j.toNatClampNeg 0) :: st) h Q
def oSt (n : Nat) : pO := fun X B me ls st h Q => pPop st fun v st => pPop st fun j st => pPop st fun a st => pI v fun v => pI j fun j => pR a fun i => pA h i fun xs => vp_in j xs.length ∧ X B me n ls st (h.set i (.inl (xs.set j.toNatClampNeg v))) Q
def oLen (n : Nat) : pO := fun X B me ls st h Q => pPop st fun a st => pR a fun i => pA h i fun xs => X B me n ls (.int (nI xs.length) :: st) h Q
def oLdA (n : Nat) : pO := fun X B me ls st h Q => pPop st fun j st => pPop st fun a st => pI j fun j => pR a fun i => pOb h i 50 fun fs => vp_in j fs.length ∧ pSome (pg fs j.toNatClampNeg) fun v => pR v fun q => X B me n ls (.ref q :: st) h Q
def oStA (n : Nat) : pO := fun X B me ls st h Q => pPop st fun v st => pPop st fun j st => pPop st fun a st => pR v fun q => pI j fun j => pR a fun i => pOb h q 2 fun _ => pOb h i 50 fun fs => vp_in j fs.length ∧ X B me n ls st (h.set i (.inr (50, fs.set j.toNatClampNeg (.ref q)))) Q
def oNew (ci : Nat) (fs : List Value) (n : Nat) : pO := fun X B me ls st h Q => (1 ≤ B.2.1 ∧ fs.length ≤ B.2.2) ∧ X (B.1, B.2.1 - 1, B.2.2 - fs.length) me n ls (.ref h.length :: st) (h ++ [.inr (ci, fs)]) Q
def oNewI (n : Nat) : pO := fun X B me ls st h Q => pPop st fun a st => pI a fun x => (¬ x < 0) ∧ (x.toNatClampNeg ≤ 100000 ∧ 1 ≤ B.2.1 ∧ x.toNatClampNeg ≤ B.2.2) ∧ X (B.1, B.2.1 - 1, B.2.2 - x.toNatClampNeg) me n ls (.ref h.length :: st) (h ++ [.inl (List.replicate x.toNatClampNeg 0)]) Q
def oNewA (n : Nat) : pO := fun X B me ls st h Q => pPop st fun a st => pI a fun x => (¬ x < 0) ∧ (x.toNatClampNeg ≤ 100000 ∧ 1 ≤ B.2.1 ∧ x.toNatClampNeg ≤ B.2.2) ∧ X (B.1, B.2.1 - 1, B.2.2 - x.toNatClampNeg) me n ls (.ref h.length :: st) (h ++ [.inr (50, List.replicate x.toNatClampNeg .null)]) Q
/-- System.arraycopy over int arrays -/
def pCopy (src dst : List Int32) (sp dp n : Nat) : List Int32 := dst.take dp ++ (src.drop sp).take n ++ dst.drop (dp + n)
def oCopy (n : Nat) : pO := fun X B me ls st h Q => pPop st fun len st => pPop st fun dp st => pPop st fun d st => pPop st fun sp st => pPop st fun s st => pI len fun len => pI dp fun dp => pR d fun d => pI sp fun sp => pR s fun s => pA h s fun xs => pA h d fun ys =>
  ((1 ≤ B.1 ∧ (st.map fun v => v.category).sum ≤ 8) ∧ (¬ sp < 0 ∧ ¬ dp < 0 ∧ ¬ len < 0) ∧ sp.toNatClampNeg + len.toNatClampNeg ≤ xs.length ∧ dp.toNatClampNeg + len.toNatClampNeg ≤ ys.length) ∧ X B me n ls st (h.set d (.inl (pCopy xs ys sp.toNatClampNeg dp.toNatClampNeg len.toNatClampNeg))) Q
/-- the law's own script -/
def oSld (sc : List Int32) (n : Nat) : pO := fun X B me ls st h Q => pPop st fun j st => pPop st fun a st => pI j fun j => (a = .retAddr 7 ∧ vp_in j sc.length) ∧ X B me n ls (.int (sc.getD j.toNatClampNeg 0) :: st) h Q
def oSlen (sc : List Int32) (n : Nat) : pO := fun X B me ls st h Q => pPop st fun a st => a = .retAddr 7 ∧ X B me n ls (.int (nI sc.length) :: st) h Q
/-- a callee's reference, in its caller's heap -/
def rnv (ρ : List Nat) : Value → Value
  | .ref j => match pg ρ j with
    | some i => .ref i
    | none => .retAddr 99999
  | v => v
def rnc (ρ : List Nat) : pC → pC
  | .inl xs => .inl xs
  | .inr o => .inr (o.1, o.2.map (rnv ρ))
def hput (ρ' : List Nat) : List Nat → pH → pH → pH
  | i :: ρ, c :: h', h => hput ρ' ρ h' (h.set i (rnc ρ' c))
  | [], c :: h', h => hput ρ' [] h' (h ++ [rnc ρ' c])
  | _, [], h => h
def rext (ρ : List Nat) (n : Nat) (h' : pH) : List Nat := ρ ++ List.range' n (h'.length - ρ.length)
def pEnt : List Value → pL
  | [] => []
  | .long x :: r => some (.long x) :: none :: pEnt r
  | v :: r => some v :: pEnt r
def pEntry (av : List Value) (n : Nat) : pL := pEnt av ++ List.replicate (n - (pEnt av).length) none
def rpush (ρ' : List Nat) (r : Option Value) (st : List Value) : List Value := match r with
  | none => st
  | some v => rnv ρ' v :: st
def pRecv (h : pH) (ci : Nat) : List Value → Prop
  | .ref j :: _ => pOb h j ci fun _ => True
  | _ => False
def pNoD : List Value → Bool
  | [] => true
  | .double _ :: _ => false
  | _ :: r => pNoD r
def oCall (cid na maxL n : Nat) : pO := fun X B me ls st h Q => ∃ (ρ : List Nat) (av : List Value) (hc : pH) (k z : Nat) (Qc : pQ),
  ((1 ≤ B.1 ∧ k ≤ B.2.1 ∧ z ≤ B.2.2) ∧ va_nd ρ = true ∧ ρ.map (pg h) = hc.map (fun c => some (rnc ρ c)) ∧ (st.take na).reverse = av.map (rnv ρ) ∧ (av.length = na ∧ na ≤ st.length) ∧ ((st.drop na).map fun v => v.category).sum ≤ 8 ∧ (pEnt av).length ≤ maxL ∧ pNoD av = true) ∧
  X (B.1 - 1, k, z) cid 0 (pEntry av maxL) [] hc Qc ∧
  ∀ r h', Qc r h' → ρ.length ≤ h'.length ∧ X (B.1, B.2.1 - k, B.2.2 - z) me n ls (rpush (rext ρ h.length h') r (st.drop na)) (hput (rext ρ h.length h') ρ h' h) Q
/-- a call over a receiver of class ci -/
def oCallV (cid ci na maxL n : Nat) : pO := fun X B me ls st h Q => pRecv h ci (st.take na).reverse ∧ oCall cid na maxL n X B me ls st h Q
def pRecv1 : List Value → Prop
  | .ref _ :: _ => True
  | _ => False
def oCallI (cid na maxL n : Nat) : pO := fun X B me ls st h Q => pRecv1 (st.take na).reverse ∧ oCall cid na maxL n X B me ls st h Q
/-- Object's constructor -/
def oObj (n : Nat) : pO := fun X B me ls st h Q => pPop st fun a st => pR a fun _ => ((1 ≤ B.1) ∧ (st.map fun v => v.category).sum ≤ 8) ∧ X B me n ls st h Q
/-- the class's texts: "12abfg", "a", "b", "f1", "g12" -/
def pTx : List (List Int32) := [[49, 50, 97, 98, 102, 103], [97], [98], [102, 49], [103, 49, 50]]
def pT (v : Value) (k : List Int32 → Prop) : Prop := match v with
  | .retAddr i => pSome (pg pTx i) k
  | _ => False
def pIx (c : Int32) : List Int32 → Nat → Int32
  | [], _ => -1
  | b :: l, k => if b = c then nI k else pIx c l (k + 1)
def oStr (k n : Nat) : pO := fun X B me ls st h Q => X B me n ls (.retAddr k :: st) h Q
def oTxtLength (n : Nat) : pO := fun X B me ls st h Q => pPop st fun a st => pT a fun t => X B me n ls (.int (nI t.length) :: st) h Q
def oTxtCharAt (n : Nat) : pO := fun X B me ls st h Q => pPop st fun j st => pPop st fun a st => pI j fun j => pT a fun t => vp_in j t.length ∧ X B me n ls (.int (t.getD j.toNatClampNeg 0) :: st) h Q
def oTxtIndexOf (n : Nat) : pO := fun X B me ls st h Q => pPop st fun c st => pPop st fun a st => pI c fun c => pT a fun t => X B me n ls (.int (pIx c t 0) :: st) h Q
/-- Arrays.copyOfRange within the array -/
def oCopyR (n : Nat) : pO := fun X B me ls st h Q => pPop st fun t st => pPop st fun f st => pPop st fun a st => pI t fun t => pI f fun f => pR a fun i => pA h i fun xs =>
  (f.toNatClampNeg ≤ t.toNatClampNeg ∧ t.toNatClampNeg ≤ xs.length ∧ ¬ f < 0 ∧ ¬ t < 0 ∧ 1 ≤ B.2.1 ∧ t.toNatClampNeg - f.toNatClampNeg ≤ B.2.2 ∧ 4 ≤ B.1) ∧ X (B.1, B.2.1 - 1, B.2.2 - (t.toNatClampNeg - f.toNatClampNeg)) me n ls (.ref h.length :: st) (h ++ [.inl ((xs.drop f.toNatClampNeg).take (t.toNatClampNeg - f.toNatClampNeg))]) Q
end
section
/-! The pure machine's states and the machine's: which belong together. -/
theorem pg_eq {α : Type} : ∀ (l : List α) (n : Nat), pg l n = l[n]?
  | [], n => by simp [pg]
  | a :: l, 0 => rfl
  | a :: l, n + 1 => by rw [List.getElem?_cons_succ]; exact pg_eq l n
theorem pg_lt {α : Type} {l : List α} {n : Nat} {a : α} (h : pg l n = some a) : n < l.length := by
  rw [pg_eq] at h
  exact (List.getElem?_eq_some_iff.mp h).1
theorem pg_app {α : Type} {l r : List α} {n : Nat} {a : α} (h : pg l n = some a) : pg (l ++ r) n = some a := by
  have hl := pg_lt h
  rw [pg_eq] at h ⊢
  rw [List.getElem?_append_left hl]
  exact h
theorem pg_set {α : Type} {l : List α} {i : Nat} (a : α) (h : i < l.length) : pg (l.set i a) i = some a := by
  rw [pg_eq, List.getElem?_set_self h]
theorem pg_set_ne {α : Type} {l : List α} {i j : Nat} (a : α) (h : ¬ i = j) : pg (l.set i a) j = pg l j := by
  rw [pg_eq, pg_eq, List.getElem?_set_ne h]
theorem pg_map {α β : Type} {f : α → Option β} {l : List α} {r : List β} (h : l.map f = r.map some) {i : Nat} {a : α} (hi : pg l i = some a) : ∃ b, pg r i = some b ∧ f a = some b := by
  rw [pg_eq] at hi
  have h1 : (l.map f)[i]? = some (f a) := by rw [List.getElem?_map, hi]; rfl
  rw [h, List.getElem?_map] at h1
  cases hb : r[i]? with
  | none => rw [hb] at h1; cases h1
  | some b => rw [hb] at h1; exact ⟨b, by rw [pg_eq]; exact hb, (Option.some.inj h1).symm⟩
def tv (sa : Nat → Option Nat) (as : List Nat) : Value → Option Value
  | .ref i => (pg as i).map .ref
  | .retAddr k => (sa k).map .ref
  | v => some v
theorem tv_app {sa : Nat → Option Nat} {as bs : List Nat} {v w : Value} (h : tv sa as v = some w) : tv sa (as ++ bs) v = some w := by
  cases v with
  | ref i =>
    simp only [tv, Option.map_eq_some_iff] at h ⊢
    obtain ⟨a, h1, h2⟩ := h
    exact ⟨a, pg_app h1, h2⟩
  | _ => exact h
theorem tv_apps {sa : Nat → Option Nat} {as bs : List Nat} : ∀ {vs ws : List Value}, vs.map (tv sa as) = ws.map some → vs.map (tv sa (as ++ bs)) = ws.map some
  | [], [], _ => rfl
  | [], _ :: _, h => by simp at h
  | _ :: _, [], h => by simp at h
  | v :: vs, w :: ws, h => by
    simp only [List.map_cons, List.cons.injEq] at h ⊢
    exact ⟨tv_app h.1, tv_apps h.2⟩
theorem tv_cat {sa : Nat → Option Nat} {as : List Nat} {v w : Value} (h : tv sa as v = some w) : w.category = v.category := by
  cases v with
  | ref i => simp only [tv, Option.map_eq_some_iff] at h; obtain ⟨a, _, rfl⟩ := h; rfl
  | retAddr i => simp only [tv, Option.map_eq_some_iff] at h; obtain ⟨a, _, rfl⟩ := h; rfl
  | _ => simp only [tv, Option.some.injEq] at h; rw [← h]
theorem tv_cats {sa : Nat → Option Nat} {as : List Nat} : ∀ {vs ws : List Value}, vs.map (tv sa as) = ws.map some → (ws.map fun v => v.category) = vs.map fun v => v.category
  | [], [], _ => rfl
  | [], _ :: _, h => by simp at h
  | _ :: _, [], h => by simp at h
  | v :: vs, w :: ws, h => by
    simp only [List.map_cons, List.cons.injEq] at h ⊢
    exact ⟨tv_cat h.1, tv_cats h.2⟩
/-- a cell of the pure heap, and the world's entry -/
def tc (cI cO : ClassId) (sa : Nat → Option Nat) (as : List Nat) (c : pC) (e : va_E) : Prop := match c with
  | .inl xs => e = .inl (cI, xs.length, .inl (fun j => xs.getD j 0))
  | .inr o => if o.1 = 50 then ∃ f : Nat → Option Nat, e = .inl (cO, o.2.length, .inr (.inr (.inr (.inr f)))) ∧ ∀ j v, pg o.2 j = some v → tv sa as v = some (va_rf (f j)) else ∃ gs : List Value, e = .inr (o.1, gs) ∧ o.2.map (tv sa as) = gs.map some
theorem tc_app {cI cO : ClassId} {sa : Nat → Option Nat} {as bs : List Nat} {c : pC} {e : va_E} (h : tc cI cO sa as c e) : tc cI cO sa (as ++ bs) c e := by
  cases c with
  | inl xs => exact h
  | inr o =>
    simp only [tc] at h ⊢
    split at h
    · rename_i h50
      obtain ⟨f, h1, h2⟩ := h
      rw [if_pos h50]
      exact ⟨f, h1, fun j v hj => tv_app (h2 j v hj)⟩
    · rename_i h50
      obtain ⟨gs, h1, h2⟩ := h
      rw [if_neg h50]
      exact ⟨gs, h1, tv_apps h2⟩
/-- a world -/
def wR (cI cO : ClassId) (sa : Nat → Option Nat) (as : List Nat) (h : pH) (ws : va_W) : Prop := ws.map (fun q => q.1) = as ∧ ws.length = h.length ∧ ∀ i c, pg h i = some c → ∃ a e, pg as i = some a ∧ ws[i]? = some (a, e) ∧ tc cI cO sa as c e
theorem wR.set {cI cO : ClassId} {sa : Nat → Option Nat} {as : List Nat} {h : pH} {ws : va_W} (w : wR cI cO sa as h ws) {i a : Nat} {c : pC} {e : va_E} (hi : i < h.length) (ha : pg as i = some a) (hc : tc cI cO sa as c e) : wR cI cO sa as (h.set i c) (ws.set i (a, e)) := by
  obtain ⟨h1, h2, h3⟩ := w
  refine ⟨?_, by rw [List.length_set, List.length_set, h2], fun j d hj => ?_⟩
  · rw [← h1]
    apply List.ext_getElem?
    intro k
    rw [List.getElem?_map, List.getElem?_map]
    by_cases hk : i = k
    · subst hk
      rw [List.getElem?_set_self (by omega)]
      rw [pg_eq, ← h1, List.getElem?_map] at ha
      rw [ha]; rfl
    · rw [List.getElem?_set_ne hk]
  · by_cases hk : i = j
    · subst hk
      rw [pg_set _ hi] at hj
      cases hj
      exact ⟨a, e, ha, by rw [List.getElem?_set_self (by omega)], hc⟩
    · rw [pg_set_ne _ hk] at hj
      obtain ⟨b, f, q1, q2, q3⟩ := h3 j d hj
      exact ⟨b, f, q1, by rw [List.getElem?_set_ne hk]; exact q2, q3⟩
theorem wR.push {cI cO : ClassId} {sa : Nat → Option Nat} {as : List Nat} {h : pH} {ws : va_W} (w : wR cI cO sa as h ws) {a : Nat} {c : pC} {e : va_E} (hc : tc cI cO sa (as ++ [a]) c e) : wR cI cO sa (as ++ [a]) (h ++ [c]) (ws ++ [(a, e)]) := by
  obtain ⟨h1, h2, h3⟩ := w
  have hl : as.length = ws.length := by rw [← h1, List.length_map]
  refine ⟨by rw [List.map_append, h1]; rfl, by simp [h2], fun j d hj => ?_⟩
  by_cases hk : j < h.length
  · have hj' : pg h j = some d := by
      rw [pg_eq, List.getElem?_append_left hk] at hj
      rw [pg_eq]; exact hj
    obtain ⟨b, f, q1, q2, q3⟩ := h3 j d hj'
    exact ⟨b, f, pg_app q1, by rw [List.getElem?_append_left (by omega)]; exact q2, tc_app q3⟩
  · have hj1 := pg_lt hj
    rw [List.length_append, List.length_singleton] at hj1
    have hj2 : j = h.length := by omega
    subst hj2
    rw [pg_eq, List.getElem?_append_right (Nat.le_refl _), Nat.sub_self] at hj
    cases hj
    refine ⟨a, e, ?_, ?_, hc⟩
    · rw [pg_eq, List.getElem?_append_right (by omega), show h.length - as.length = 0 by omega]; rfl
    · rw [List.getElem?_append_right (by omega), show h.length - ws.length = 0 by omega]; rfl
/-- locals -/
def lR (sa : Nat → Option Nat) (as : List Nat) (ls : pL) (n : Nat) (cls : Array Slot) : Prop := ls.length = n ∧ ∃ lv : List (Nat × Value), lv_has cls n lv ∧ ∀ i v, pg ls i = some (some v) → ∃ w, tv sa as v = some w ∧ (i, w) ∈ lv
theorem lR.app {sa : Nat → Option Nat} {as bs : List Nat} {ls : pL} {n : Nat} {cls : Array Slot} (h : lR sa as ls n cls) : lR sa (as ++ bs) ls n cls := by
  obtain ⟨h1, lv, h2, h3⟩ := h
  exact ⟨h1, lv, h2, fun i v hi => by obtain ⟨w, q1, q2⟩ := h3 i v hi; exact ⟨w, tv_app q1, q2⟩⟩
theorem lR.at {sa : Nat → Option Nat} {as : List Nat} {ls : pL} {n : Nat} {cls : Array Slot} (h : lR sa as ls n cls) {i : Nat} {v : Value} (hi : pg ls i = some (some v)) : ∃ w, tv sa as v = some w ∧ cls[i]? = some (.val w) := by
  obtain ⟨h1, lv, h2, h3⟩ := h
  obtain ⟨w, q1, q2⟩ := h3 i v hi
  exact ⟨w, q1, h2.2.2 _ q2⟩
theorem pKill_len (ls : pL) (i : Nat) : (pKill ls i).length = ls.length := by
  cases i with
  | zero => rfl
  | succ j =>
    simp only [pKill]
    split
    · rename_i v _
      cases Nat.beq v.category 2 <;> simp
    · rfl
theorem pKill_at {ls : pL} {i j : Nat} {v : Value} (h : pg (pKill ls i) j = some (some v)) : pg ls j = some (some v) ∧ ¬ (j + 1 = i ∧ v.category = 2) := by
  cases i with
  | zero => exact ⟨h, fun q => by omega⟩
  | succ k =>
    simp only [pKill] at h
    split at h
    · rename_i u hx
      cases hb : Nat.beq u.category 2 with
      | true =>
        rw [hb, cond_true] at h
        by_cases hj : k = j
        · subst hj
          rw [pg_set _ (pg_lt hx)] at h
          cases h
        · rw [pg_set_ne _ hj] at h
          exact ⟨h, fun q => hj (by omega)⟩
      | false =>
        rw [hb, cond_false] at h
        refine ⟨h, fun q => ?_⟩
        have hjk : j = k := by omega
        subst hjk
        rw [hx] at h
        cases h
        rw [q.2] at hb
        cases hb
    · rename_i hx
      refine ⟨h, fun q => ?_⟩
      have hjk : j = k := by omega
      subst hjk
      exact hx _ h
theorem lR.set {sa : Nat → Option Nat} {as : List Nat} {ls : pL} {n : Nat} {cls : Array Slot} (h : lR sa as ls n cls) : ∃ lv, lv_has cls n lv ∧ ∀ (i : Nat) (v w : Value) (cls' : Array Slot), i < n → tv sa as v = some w → lv_has cls' n ((i, w) :: lv.filter (fun q => !(q.1 == i) && !(q.1 + 1 == i && q.2.category == 2))) → lR sa as (pSet ls i v) n cls' := by
  obtain ⟨h1, lv, h2, h3⟩ := h
  refine ⟨lv, h2, fun i v w cls' hi hv hl => ⟨by rw [pSet, List.length_set, pKill_len, h1], _, hl, fun j u hj => ?_⟩⟩
  by_cases hij : i = j
  · subst hij
    rw [pSet, pg_set _ (by rw [pKill_len]; omega)] at hj
    cases hj
    exact ⟨w, hv, List.mem_cons_self⟩
  · rw [pSet, pg_set_ne _ hij] at hj
    obtain ⟨q1, q2⟩ := pKill_at hj
    obtain ⟨z, q3, q4⟩ := h3 j u q1
    refine ⟨z, q3, List.mem_cons_of_mem _ (List.mem_filter.mpr ⟨q4, ?_⟩)⟩
    simp only [Bool.and_eq_true, Bool.not_eq_true', beq_eq_false_iff_ne, ne_eq, Bool.and_eq_false_iff]
    refine ⟨fun z1 => hij z1.symm, ?_⟩
    by_cases hj1 : j + 1 = i
    · refine Or.inr fun hc => ?_
      have hc2 : u.category = 2 := by rw [← tv_cat q3]; exact hc
      exact q2 ⟨hj1, hc2⟩
    · exact Or.inl hj1
theorem lR.set2 {sa : Nat → Option Nat} {as : List Nat} {ls : pL} {n : Nat} {cls : Array Slot} (h : lR sa as ls n cls) : ∃ lv, lv_has cls n lv ∧ ∀ (i : Nat) (v w : Value) (cls' : Array Slot), i + 1 < n → tv sa as v = some w → lv_has cls' n ((i, w) :: lv.filter (fun q => !(q.1 == i) && (!(q.1 == i + 1) && !(q.1 + 1 == i && q.2.category == 2)))) → lR sa as (pSet2 ls i v) n cls' := by
  obtain ⟨h1, lv, h2, h3⟩ := h
  refine ⟨lv, h2, fun i v w cls' hi hv hl => ⟨by rw [pSet2, List.length_set, List.length_set, pKill_len, h1], _, hl, fun j u hj => ?_⟩⟩
  by_cases hi1 : i + 1 = j
  · subst hi1
    rw [pSet2, pg_set _ (by rw [List.length_set, pKill_len]; omega)] at hj
    cases hj
  rw [pSet2, pg_set_ne _ hi1] at hj
  by_cases hij : i = j
  · subst hij
    rw [pg_set _ (by rw [pKill_len]; omega)] at hj
    cases hj
    exact ⟨w, hv, List.mem_cons_self⟩
  · rw [pg_set_ne _ hij] at hj
    obtain ⟨q1, q2⟩ := pKill_at hj
    obtain ⟨z, q3, q4⟩ := h3 j u q1
    refine ⟨z, q3, List.mem_cons_of_mem _ (List.mem_filter.mpr ⟨q4, ?_⟩)⟩
    simp only [Bool.and_eq_true, Bool.not_eq_true', beq_eq_false_iff_ne, ne_eq, Bool.and_eq_false_iff]
    refine ⟨fun z1 => hij z1.symm, fun z1 => hi1 z1.symm, ?_⟩
    by_cases hj1 : j + 1 = i
    · refine Or.inr fun hc => ?_
      have hc2 : u.category = 2 := by rw [← tv_cat q3]; exact hc
      exact q2 ⟨hj1, hc2⟩
    · exact Or.inl hj1
end
section
/-! What it is that the pure machine's states say of the machine. -/
abbrev clsP : List vw_C := [(RX0, TX0, 3), (RX1, TX1, 4), (RX2, TX2, 7), (RX3, TX3, 8), (RX4, TX4, 2), (RX5, TX5, 0), (RX6, TX6, 4), (RX7, TX7, 10), (RX8, TX8, 5), (RX9, TX9, 4), (RX10, TX10, 12), (RX11, TX11, 31)]
def tyP : Nat → Nat → FieldType := fun c => match c with
  | 0 => tyX0 | 1 => tyX1 | 2 => tyX2 | 3 => tyX3 | 4 => tyX4 | 5 => tyX5 | 6 => tyX6 | 7 => tyX7 | 8 => tyX8 | 9 => tyX9 | 10 => tyX10 | _ => tyX11
def lw_good : List Cond := lw_tbl.filter goodWord
abbrev pTys (cI cO : ClassId) : List (ClassId × FieldType) := [(cI, .int), (cO, .object RX2)]
/-- the class's texts -/
def lw_nest : List (String × Nat × MethodName) := [(RX10, 18, yX2_init), (RX10, 67, yX9_init), (RX10, 9, yX8_init), (RX2, 40, yX10_isSide), (RX4, 15, yX2_init)]
def pNest (s : State) : Prop := (∀ q ∈ lw_nest, va_Nw (.methodLinkNest q.1 q.2.1 q.2.2 RX10) s) ∧ va_AO RX2 s
def pExt (adK adV : Nat → Nat) (A : Nat → Prop) (s : State) : Prop := pNest s ∧ (vk_R RX0 28 "12abfg" (adK 0) s ∧ vk_R RX1 28 "a" (adK 1) s ∧ vk_R RX1 40 "b" (adK 2) s ∧ vk_R RX1 42 "f1" (adK 3) s ∧ vk_R RX1 44 "g12" (adK 4) s) ∧ vk_S 5 [6, 1, 1, 2, 3] pTx adK adV A s s.heap
def pSa (adK : Nat → Nat) (b : Nat) : Nat → Option Nat := fun k => if k < 5 then some (adK k) else if k = 7 then some b else none
/-- a method: its name, its bytes, its locals, its answer -/
abbrev pM : Type := MethodName × ByteArray × Nat × Option FieldType
/-- what doesn't change while a method runs -/
def pCtx (l : Launch) (D : va_G) (cI cO : ClassId) (adK adV : Nat → Nat) (M : pM) (p : Program) (s : State) (m : MethodId) (args : Array Value) (meth : Method) (c : Code) (A : Nat → Prop) : Prop :=
  p.tables.exec = Jvm.exec ∧ c.code = M.2.1 ∧ c.maxLocals = M.2.2.1 ∧ s.vm.findClass M.1.cls = some m.cls ∧ (∀ w ∈ lw_good, w.before args s = true) ∧ va_K D clsP (pTys cI cO) s ∧ meth.name = M.1.name ∧ meth.sig.returnType = M.2.2.2 ∧ meth.locks = false ∧ pExt adK adV A s ∧ ∀ q, s.heap.size ≤ q → A q
/-- a return instruction, and the answer that it gives -/
def pRet (M : pM) (pc : Nat) (r : Option Value) : Prop := (decode M.2.1 pc = .ok (.return_, 1) ∧ M.2.2.2 = none ∧ r = none) ∨ (decode M.2.1 pc = .ok (.ireturn, 1) ∧ ∃ ty x, M.2.2.2 = some ty ∧ narrow ty (.int x) = .int x ∧ r = some (.int x)) ∨ (decode M.2.1 pc = .ok (.lreturn, 1) ∧ M.2.2.2 = some .long ∧ ∃ x, r = some (.long x))
/-- at a return the rest is known -/
def pFin (l : Launch) (D : va_G) (cI cO : ClassId) (adK : Nat → Nat) (b : Nat) (M : pM) (p : Program) (e : Env) (R : Room) (s : State) (m : MethodId) (args : Array Value) (below : List Frame) (meth : Method) (c : Code) (A : Nat → Prop) (as0 : List Nat) (mc ms : Nat) (Q : pQ) (Z : State → Prop) : Prop :=
  ∀ (r : Option Value) (h : pH) (bs : List Nat) (ws : va_W) (H : Heap) (locs : List Loc) (cells slots : Nat) (cls : Array Slot) (pc : Nat), Q r h → pRet M pc r → wR cI cO (pSa adK b) (as0 ++ bs) h ws → va_P D clsP ws H → va_D A ws → va_S A s.heap H locs → cells ≤ mc → slots ≤ ms → W p l e R s m args below meth c H locs cells slots Z (F0 m pc cls r.toList)
/-- what a state of the pure machine says -/
def pSnd (mt : Nat → pM) (law : Nat) (l : Launch) (D : va_G) (cI cO : ClassId) (adK adV : Nat → Nat) (b : Nat) (sc : List Int32) : pX := fun B id pc ls st h Q =>
  ∀ (p : Program) (e : Env) (R : Room) (s : State) (m : MethodId) (args : Array Value) (below : List Frame) (meth : Method) (c : Code) (H : Heap) (locs : List Loc) (cells slots mc ms : Nat) (Z : State → Prop) (A : Nat → Prop) (as0 bs : List Nat) (ws : va_W) (cls : Array Slot) (cst : List Value),
    pCtx l D cI cO adK adV (mt id) p s m args meth c A → (id = law → va_X b sc.length (fun j => sc.getD j 0) s s.heap ∧ b < s.heap.size ∧ ¬ A b) →
    wR cI cO (pSa adK b) (as0 ++ bs) h ws → va_P D clsP ws H → va_D A ws → va_S A s.heap H locs →
    lR (pSa adK b) (as0 ++ bs) ls (mt id).2.2.1 cls → st.map (tv (pSa adK b) (as0 ++ bs)) = cst.map some →
    (B.1 ≤ R.frames ∧ 60 * B.1 ≤ R.locals ∧ cells + B.2.1 ≤ mc ∧ slots + B.2.2 ≤ ms ∧ mc ≤ R.cells ∧ ms ≤ R.slots) →
    pFin l D cI cO adK b (mt id) p e R s m args below meth c A as0 mc ms Q Z →
    W p l e R s m args below meth c H locs cells slots Z (F0 m pc cls cst)
/-- an instruction's row: it is as its step says -/
def pOk (mt : Nat → pM) (law : Nat) (M : pM) (isLaw : Bool) (sc : List Int32) (pc : Nat) (op : pO) : Prop := ∀ (l : Launch) (D : va_G) (cI cO : ClassId) (adK adV : Nat → Nat) (b : Nat) (B : pB) (id : Nat) (ls : pL) (st : List Value) (h : pH) (Q : pQ),
  mt id = M → (isLaw = true → id = law) → op (pSnd mt law l D cI cO adK adV b sc) B id ls st h Q → pSnd mt law l D cI cO adK adV b sc B id pc ls st h Q
theorem pPop_inv {st : List Value} {k : Value → List Value → Prop} (h : pPop st k) : ∃ v r, st = v :: r ∧ k v r := by
  cases st with
  | nil => exact h.elim
  | cons v r => exact ⟨v, r, rfl, h⟩
theorem pI_inv {v : Value} {k : Int32 → Prop} (h : pI v k) : ∃ x, v = .int x ∧ k x := by
  cases v with
  | int x => exact ⟨x, rfl, h⟩
  | _ => exact h.elim
theorem pJ_inv {v : Value} {k : Int64 → Prop} (h : pJ v k) : ∃ x, v = .long x ∧ k x := by
  cases v with
  | long x => exact ⟨x, rfl, h⟩
  | _ => exact h.elim
theorem pR_inv {v : Value} {k : Nat → Prop} (h : pR v k) : ∃ x, v = .ref x ∧ k x := by
  cases v with
  | ref x => exact ⟨x, rfl, h⟩
  | _ => exact h.elim
theorem pSome_inv {α : Type} {o : Option α} {k : α → Prop} (h : pSome o k) : ∃ x, o = some x ∧ k x := by
  cases o with
  | some x => exact ⟨x, rfl, h⟩
  | none => exact h.elim
theorem pA_inv {h : pH} {i : Nat} {k : List Int32 → Prop} (q : pA h i k) : ∃ xs, pg h i = some (.inl xs) ∧ k xs := by
  obtain ⟨c, h1, h2⟩ := pSome_inv q
  cases c with
  | inl xs => exact ⟨xs, h1, h2⟩
  | inr o => exact h2.elim
theorem pOb_inv {h : pH} {i ci : Nat} {k : List Value → Prop} (q : pOb h i ci k) : ∃ fs, pg h i = some (.inr (ci, fs)) ∧ k fs := by
  obtain ⟨c, h1, h2⟩ := pSome_inv q
  cases c with
  | inl xs => exact h2.elim
  | inr o =>
    obtain ⟨c1, fs⟩ := o
    simp only [pCell] at h2
    cases hb : Nat.beq c1 ci with
    | true =>
      rw [hb, cond_true] at h2
      have : c1 = ci := Nat.eq_of_beq_eq_true hb
      subst this
      exact ⟨fs, h1, h2⟩
    | false => rw [hb] at h2; exact h2.elim
theorem p2_inv {st : List Value} {k : Int32 → Int32 → List Value → Prop} (h : p2 st k) : ∃ x y r, st = .int y :: .int x :: r ∧ k x y r := by
  obtain ⟨b, r, rfl, h1⟩ := pPop_inv h
  obtain ⟨a, r, rfl, h2⟩ := pPop_inv h1
  obtain ⟨y, rfl, h3⟩ := pI_inv h2
  obtain ⟨x, rfl, h4⟩ := pI_inv h3
  exact ⟨x, y, r, rfl, h4⟩
theorem p2L_inv {st : List Value} {k : Int64 → Int64 → List Value → Prop} (h : p2L st k) : ∃ x y r, st = .long y :: .long x :: r ∧ k x y r := by
  obtain ⟨b, r, rfl, h1⟩ := pPop_inv h
  obtain ⟨a, r, rfl, h2⟩ := pPop_inv h1
  obtain ⟨y, rfl, h3⟩ := pJ_inv h2
  obtain ⟨x, rfl, h4⟩ := pJ_inv h3
  exact ⟨x, y, r, rfl, h4⟩
theorem sI {sa : Nat → Option Nat} {as : List Nat} {x : Int32} {st cst : List Value} (h : (Value.int x :: st).map (tv sa as) = cst.map some) : ∃ c, cst = .int x :: c ∧ st.map (tv sa as) = c.map some := by
  cases cst with
  | nil => simp at h
  | cons w c =>
    simp only [List.map_cons, List.cons.injEq, tv, Option.some.injEq] at h
    exact ⟨c, by rw [← h.1], h.2⟩
theorem sJ {sa : Nat → Option Nat} {as : List Nat} {x : Int64} {st cst : List Value} (h : (Value.long x :: st).map (tv sa as) = cst.map some) : ∃ c, cst = .long x :: c ∧ st.map (tv sa as) = c.map some := by
  cases cst with
  | nil => simp at h
  | cons w c =>
    simp only [List.map_cons, List.cons.injEq, tv, Option.some.injEq] at h
    exact ⟨c, by rw [← h.1], h.2⟩
theorem sR {sa : Nat → Option Nat} {as : List Nat} {i : Nat} {st cst : List Value} (h : (Value.ref i :: st).map (tv sa as) = cst.map some) : ∃ a c, pg as i = some a ∧ cst = .ref a :: c ∧ st.map (tv sa as) = c.map some := by
  cases cst with
  | nil => simp at h
  | cons w c =>
    simp only [List.map_cons, List.cons.injEq, tv, Option.map_eq_some_iff] at h
    obtain ⟨⟨a, h1, h2⟩, h3⟩ := h
    exact ⟨a, c, h1, by rw [← h2], h3⟩
theorem sV {sa : Nat → Option Nat} {as : List Nat} {v : Value} {st cst : List Value} (h : (v :: st).map (tv sa as) = cst.map some) : ∃ w c, cst = w :: c ∧ tv sa as v = some w ∧ st.map (tv sa as) = c.map some := by
  cases cst with
  | nil => simp at h
  | cons w c =>
    simp only [List.map_cons, List.cons.injEq] at h
    exact ⟨w, c, rfl, h.1, h.2⟩
theorem sC {sa : Nat → Option Nat} {as : List Nat} {v w : Value} {st c : List Value} (hv : tv sa as v = some w) (h : st.map (tv sa as) = c.map some) : (v :: st).map (tv sa as) = (w :: c).map some := by
  simp only [List.map_cons, List.cons.injEq]
  exact ⟨hv, h⟩
end
section
/-! The rows of the instructions that leave the heap as it is (printed by wip/whole/ops.py). -/
theorem ok_F {mt : Nat → pM} {law : Nat} {M : pM} {il : Bool} {sc : List Int32} {pc : Nat} : pOk mt law M il sc pc oF := fun _ _ _ _ _ _ _ _ _ _ _ _ _ _ _ h => h.elim
theorem ok_iconst {mt : Nat → pM} {law : Nat} {M : pM} {il : Bool} {sc : List Int32} {pc : Nat} {k : Int} {v : Int32} (hd : decode M.2.1 pc = .ok (.iconst k, 1)) (hv : Int32.ofInt k = v) : pOk mt law M il sc pc (oPush (.int v) (pc + 1)) := by
  intro l D cI cO adK adV b B id ls st h Q hM hL hop p e R s m args below meth c H locs cells slots mc ms Z A as0 bs ws cls cst hC hX hw hP hD hS hl hst hB hF
  subst hM
  refine lv_iconst hC.1 hC.2.1 hd hv ?_
  exact hop p e R s m args below meth c H locs cells slots mc ms Z A as0 bs ws cls _ hC hX hw hP hD hS hl (sC rfl hst) hB hF
theorem ok_bipush {mt : Nat → pM} {law : Nat} {M : pM} {il : Bool} {sc : List Int32} {pc : Nat} {k : Int} {v : Int32} (hd : decode M.2.1 pc = .ok (.bipush k, 2)) (hv : (Int8.ofInt k).toInt32 = v) : pOk mt law M il sc pc (oPush (.int v) (pc + 2)) := by
  intro l D cI cO adK adV b B id ls st h Q hM hL hop p e R s m args below meth c H locs cells slots mc ms Z A as0 bs ws cls cst hC hX hw hP hD hS hl hst hB hF
  subst hM
  refine lv_bipush hC.1 hC.2.1 hd hv ?_
  exact hop p e R s m args below meth c H locs cells slots mc ms Z A as0 bs ws cls _ hC hX hw hP hD hS hl (sC rfl hst) hB hF
theorem ok_sipush {mt : Nat → pM} {law : Nat} {M : pM} {il : Bool} {sc : List Int32} {pc : Nat} {k : Int} {v : Int32} (hd : decode M.2.1 pc = .ok (.sipush k, 3)) (hv : (Int16.ofInt k).toInt32 = v) : pOk mt law M il sc pc (oPush (.int v) (pc + 3)) := by
  intro l D cI cO adK adV b B id ls st h Q hM hL hop p e R s m args below meth c H locs cells slots mc ms Z A as0 bs ws cls cst hC hX hw hP hD hS hl hst hB hF
  subst hM
  refine lv_sipush hC.1 hC.2.1 hd hv ?_
  exact hop p e R s m args below meth c H locs cells slots mc ms Z A as0 bs ws cls _ hC hX hw hP hD hS hl (sC rfl hst) hB hF
theorem ok_iload_n {mt : Nat → pM} {law : Nat} {M : pM} {il : Bool} {sc : List Int32} {pc : Nat} {k : Fin 4} {i : Nat} (hd : decode M.2.1 pc = .ok (.iload_n k, 1)) (hi : (k : Nat) = i) : pOk mt law M il sc pc (oLoadI i (pc + 1)) := by
  intro l D cI cO adK adV b B id ls st h Q hM hL hop p e R s m args below meth c H locs cells slots mc ms Z A as0 bs ws cls cst hC hX hw hP hD hS hl hst hB hF
  subst hM
  obtain ⟨o, h1, h2⟩ := pSome_inv hop
  obtain ⟨v, rfl, h3⟩ := pSome_inv h2
  obtain ⟨x, rfl, h4⟩ := pI_inv h3
  obtain ⟨w, q1, q2⟩ := hl.at h1
  cases q1
  refine lv_iload_n hC.1 hC.2.1 hd hi q2 ?_
  exact h4 p e R s m args below meth c H locs cells slots mc ms Z A as0 bs ws cls _ hC hX hw hP hD hS hl (sC rfl hst) hB hF
theorem ok_iload {mt : Nat → pM} {law : Nat} {M : pM} {il : Bool} {sc : List Int32} {pc : Nat} {i : Nat} (hd : decode M.2.1 pc = .ok (.iload i, 2)) : pOk mt law M il sc pc (oLoadI i (pc + 2)) := by
  intro l D cI cO adK adV b B id ls st h Q hM hL hop p e R s m args below meth c H locs cells slots mc ms Z A as0 bs ws cls cst hC hX hw hP hD hS hl hst hB hF
  subst hM
  obtain ⟨o, h1, h2⟩ := pSome_inv hop
  obtain ⟨v, rfl, h3⟩ := pSome_inv h2
  obtain ⟨x, rfl, h4⟩ := pI_inv h3
  obtain ⟨w, q1, q2⟩ := hl.at h1
  cases q1
  refine lv_iload hC.1 hC.2.1 hd q2 ?_
  exact h4 p e R s m args below meth c H locs cells slots mc ms Z A as0 bs ws cls _ hC hX hw hP hD hS hl (sC rfl hst) hB hF
theorem ok_lload_n {mt : Nat → pM} {law : Nat} {M : pM} {il : Bool} {sc : List Int32} {pc : Nat} {k : Fin 4} {i : Nat} (hd : decode M.2.1 pc = .ok (.lload_n k, 1)) (hi : (k : Nat) = i) : pOk mt law M il sc pc (oLoadL i (pc + 1)) := by
  intro l D cI cO adK adV b B id ls st h Q hM hL hop p e R s m args below meth c H locs cells slots mc ms Z A as0 bs ws cls cst hC hX hw hP hD hS hl hst hB hF
  subst hM
  obtain ⟨o, h1, h2⟩ := pSome_inv hop
  obtain ⟨v, rfl, h3⟩ := pSome_inv h2
  obtain ⟨x, rfl, h4⟩ := pJ_inv h3
  obtain ⟨w, q1, q2⟩ := hl.at h1
  cases q1
  refine lv_lload_n hC.1 hC.2.1 hd hi q2 ?_
  exact h4 p e R s m args below meth c H locs cells slots mc ms Z A as0 bs ws cls _ hC hX hw hP hD hS hl (sC rfl hst) hB hF
theorem ok_lload {mt : Nat → pM} {law : Nat} {M : pM} {il : Bool} {sc : List Int32} {pc : Nat} {i : Nat} (hd : decode M.2.1 pc = .ok (.lload i, 2)) : pOk mt law M il sc pc (oLoadL i (pc + 2)) := by
  intro l D cI cO adK adV b B id ls st h Q hM hL hop p e R s m args below meth c H locs cells slots mc ms Z A as0 bs ws cls cst hC hX hw hP hD hS hl hst hB hF
  subst hM
  obtain ⟨o, h1, h2⟩ := pSome_inv hop
  obtain ⟨v, rfl, h3⟩ := pSome_inv h2
  obtain ⟨x, rfl, h4⟩ := pJ_inv h3
  obtain ⟨w, q1, q2⟩ := hl.at h1
  cases q1
  refine lv_lload hC.1 hC.2.1 hd q2 ?_
  exact h4 p e R s m args below meth c H locs cells slots mc ms Z A as0 bs ws cls _ hC hX hw hP hD hS hl (sC rfl hst) hB hF
theorem ok_aload_n {mt : Nat → pM} {law : Nat} {M : pM} {il : Bool} {sc : List Int32} {pc : Nat} {k : Fin 4} {i : Nat} (hd : decode M.2.1 pc = .ok (.aload_n k, 1)) (hi : (k : Nat) = i) : pOk mt law M il sc pc (oLoadA i (pc + 1)) := by
  intro l D cI cO adK adV b B id ls st h Q hM hL hop p e R s m args below meth c H locs cells slots mc ms Z A as0 bs ws cls cst hC hX hw hP hD hS hl hst hB hF
  subst hM
  obtain ⟨o, h1, h2⟩ := pSome_inv hop
  obtain ⟨v, rfl, h3⟩ := pSome_inv h2
  obtain ⟨w, q1, q2⟩ := hl.at h1
  have hw2 : ∃ a, w = .ref a := by
    cases v with
    | ref j => simp only [tv, Option.map_eq_some_iff] at q1; obtain ⟨a, -, q⟩ := q1; exact ⟨a, q.symm⟩
    | retAddr j => simp only [tv, Option.map_eq_some_iff] at q1; obtain ⟨a, -, q⟩ := q1; exact ⟨a, q.symm⟩
    | _ => exact h3.elim
  obtain ⟨a, rfl⟩ := hw2
  refine lv_aload_n hC.1 hC.2.1 hd hi q2 ?_
  have h4 : pSnd mt law l D cI cO adK adV b sc B id (pc + 1) ls (v :: st) h Q := by
    cases v with
    | ref j => exact h3
    | retAddr j => exact h3
    | _ => exact h3.elim
  exact h4 p e R s m args below meth c H locs cells slots mc ms Z A as0 bs ws cls _ hC hX hw hP hD hS hl (sC q1 hst) hB hF
theorem ok_aload {mt : Nat → pM} {law : Nat} {M : pM} {il : Bool} {sc : List Int32} {pc : Nat} {i : Nat} (hd : decode M.2.1 pc = .ok (.aload i, 2)) : pOk mt law M il sc pc (oLoadA i (pc + 2)) := by
  intro l D cI cO adK adV b B id ls st h Q hM hL hop p e R s m args below meth c H locs cells slots mc ms Z A as0 bs ws cls cst hC hX hw hP hD hS hl hst hB hF
  subst hM
  obtain ⟨o, h1, h2⟩ := pSome_inv hop
  obtain ⟨v, rfl, h3⟩ := pSome_inv h2
  obtain ⟨w, q1, q2⟩ := hl.at h1
  have hw2 : ∃ a, w = .ref a := by
    cases v with
    | ref j => simp only [tv, Option.map_eq_some_iff] at q1; obtain ⟨a, -, q⟩ := q1; exact ⟨a, q.symm⟩
    | retAddr j => simp only [tv, Option.map_eq_some_iff] at q1; obtain ⟨a, -, q⟩ := q1; exact ⟨a, q.symm⟩
    | _ => exact h3.elim
  obtain ⟨a, rfl⟩ := hw2
  refine lv_aload hC.1 hC.2.1 hd q2 ?_
  have h4 : pSnd mt law l D cI cO adK adV b sc B id (pc + 2) ls (v :: st) h Q := by
    cases v with
    | ref j => exact h3
    | retAddr j => exact h3
    | _ => exact h3.elim
  exact h4 p e R s m args below meth c H locs cells slots mc ms Z A as0 bs ws cls _ hC hX hw hP hD hS hl (sC q1 hst) hB hF
theorem ok_istore_n {mt : Nat → pM} {law : Nat} {M : pM} {il : Bool} {sc : List Int32} {pc : Nat} {k : Fin 4} {i : Nat} (hd : decode M.2.1 pc = .ok (.istore_n k, 1)) (hi : (k : Nat) = i) : pOk mt law M il sc pc (oStoreI i (pc + 1)) := by
  intro l D cI cO adK adV b B id ls st h Q hM hL hop p e R s m args below meth c H locs cells slots mc ms Z A as0 bs ws cls cst hC hX hw hP hD hS hl hst hB hF
  subst hM
  obtain ⟨v, r, rfl, h1⟩ := pPop_inv hop
  obtain ⟨x, rfl, h2⟩ := pI_inv h1
  cases hb : Nat.ble (i + 1) ls.length with
  | false => rw [hb] at h2; exact h2.elim
  | true =>
    rw [hb, cond_true] at h2
    have hi2 : i + 1 ≤ (mt id).2.2.1 := hl.1 ▸ Nat.le_of_ble_eq_true hb
    obtain ⟨lv, g1, g2⟩ := hl.set
    obtain ⟨cr, rfl, hst2⟩ := sI hst
    refine lv_istore_n hC.1 hC.2.1 hd hi g1 (by omega) rfl (fun cls' hl' => ?_)
    exact h2 p e R s m args below meth c H locs cells slots mc ms Z A as0 bs ws cls' _ hC hX hw hP hD hS (g2 i (.int x) _ cls' (by omega) rfl hl') hst2 hB hF
theorem ok_istore {mt : Nat → pM} {law : Nat} {M : pM} {il : Bool} {sc : List Int32} {pc : Nat} {i : Nat} (hd : decode M.2.1 pc = .ok (.istore i, 2)) : pOk mt law M il sc pc (oStoreI i (pc + 2)) := by
  intro l D cI cO adK adV b B id ls st h Q hM hL hop p e R s m args below meth c H locs cells slots mc ms Z A as0 bs ws cls cst hC hX hw hP hD hS hl hst hB hF
  subst hM
  obtain ⟨v, r, rfl, h1⟩ := pPop_inv hop
  obtain ⟨x, rfl, h2⟩ := pI_inv h1
  cases hb : Nat.ble (i + 1) ls.length with
  | false => rw [hb] at h2; exact h2.elim
  | true =>
    rw [hb, cond_true] at h2
    have hi2 : i + 1 ≤ (mt id).2.2.1 := hl.1 ▸ Nat.le_of_ble_eq_true hb
    obtain ⟨lv, g1, g2⟩ := hl.set
    obtain ⟨cr, rfl, hst2⟩ := sI hst
    refine lv_istore hC.1 hC.2.1 hd g1 (by omega) rfl (fun cls' hl' => ?_)
    exact h2 p e R s m args below meth c H locs cells slots mc ms Z A as0 bs ws cls' _ hC hX hw hP hD hS (g2 i (.int x) _ cls' (by omega) rfl hl') hst2 hB hF
theorem ok_astore_n {mt : Nat → pM} {law : Nat} {M : pM} {il : Bool} {sc : List Int32} {pc : Nat} {k : Fin 4} {i : Nat} (hd : decode M.2.1 pc = .ok (.astore_n k, 1)) (hi : (k : Nat) = i) : pOk mt law M il sc pc (oStoreA i (pc + 1)) := by
  intro l D cI cO adK adV b B id ls st h Q hM hL hop p e R s m args below meth c H locs cells slots mc ms Z A as0 bs ws cls cst hC hX hw hP hD hS hl hst hB hF
  subst hM
  obtain ⟨v, r, rfl, h1⟩ := pPop_inv hop
  obtain ⟨x, rfl, h2⟩ := pR_inv h1
  cases hb : Nat.ble (i + 1) ls.length with
  | false => rw [hb] at h2; exact h2.elim
  | true =>
    rw [hb, cond_true] at h2
    have hi2 : i + 1 ≤ (mt id).2.2.1 := hl.1 ▸ Nat.le_of_ble_eq_true hb
    obtain ⟨lv, g1, g2⟩ := hl.set
    obtain ⟨a, cr, ha, rfl, hst2⟩ := sR hst
    refine lv_astore_n hC.1 hC.2.1 hd hi g1 (by omega) rfl (fun cls' hl' => ?_)
    exact h2 p e R s m args below meth c H locs cells slots mc ms Z A as0 bs ws cls' _ hC hX hw hP hD hS (g2 i (.ref x) _ cls' (by omega) (by rw [tv, ha]; rfl) hl') hst2 hB hF
theorem ok_astore {mt : Nat → pM} {law : Nat} {M : pM} {il : Bool} {sc : List Int32} {pc : Nat} {i : Nat} (hd : decode M.2.1 pc = .ok (.astore i, 2)) : pOk mt law M il sc pc (oStoreA i (pc + 2)) := by
  intro l D cI cO adK adV b B id ls st h Q hM hL hop p e R s m args below meth c H locs cells slots mc ms Z A as0 bs ws cls cst hC hX hw hP hD hS hl hst hB hF
  subst hM
  obtain ⟨v, r, rfl, h1⟩ := pPop_inv hop
  obtain ⟨x, rfl, h2⟩ := pR_inv h1
  cases hb : Nat.ble (i + 1) ls.length with
  | false => rw [hb] at h2; exact h2.elim
  | true =>
    rw [hb, cond_true] at h2
    have hi2 : i + 1 ≤ (mt id).2.2.1 := hl.1 ▸ Nat.le_of_ble_eq_true hb
    obtain ⟨lv, g1, g2⟩ := hl.set
    obtain ⟨a, cr, ha, rfl, hst2⟩ := sR hst
    refine lv_astore hC.1 hC.2.1 hd g1 (by omega) rfl (fun cls' hl' => ?_)
    exact h2 p e R s m args below meth c H locs cells slots mc ms Z A as0 bs ws cls' _ hC hX hw hP hD hS (g2 i (.ref x) _ cls' (by omega) (by rw [tv, ha]; rfl) hl') hst2 hB hF
theorem ok_lstore_n {mt : Nat → pM} {law : Nat} {M : pM} {il : Bool} {sc : List Int32} {pc : Nat} {k : Fin 4} {i : Nat} (hd : decode M.2.1 pc = .ok (.lstore_n k, 1)) (hi : (k : Nat) = i) : pOk mt law M il sc pc (oStoreL i (pc + 1)) := by
  intro l D cI cO adK adV b B id ls st h Q hM hL hop p e R s m args below meth c H locs cells slots mc ms Z A as0 bs ws cls cst hC hX hw hP hD hS hl hst hB hF
  subst hM
  obtain ⟨v, r, rfl, h1⟩ := pPop_inv hop
  obtain ⟨x, rfl, h2⟩ := pJ_inv h1
  cases hb : Nat.ble (i + 2) ls.length with
  | false => rw [hb] at h2; exact h2.elim
  | true =>
    rw [hb, cond_true] at h2
    have hi2 : i + 2 ≤ (mt id).2.2.1 := hl.1 ▸ Nat.le_of_ble_eq_true hb
    obtain ⟨lv, g1, g2⟩ := hl.set2
    obtain ⟨cr, rfl, hst2⟩ := sJ hst
    refine lv_lstore_n hC.1 hC.2.1 hd hi g1 (by omega) rfl (fun cls' hl' => ?_)
    exact h2 p e R s m args below meth c H locs cells slots mc ms Z A as0 bs ws cls' _ hC hX hw hP hD hS (g2 i (.long x) _ cls' (by omega) rfl hl') hst2 hB hF
theorem ok_lstore {mt : Nat → pM} {law : Nat} {M : pM} {il : Bool} {sc : List Int32} {pc : Nat} {i : Nat} (hd : decode M.2.1 pc = .ok (.lstore i, 2)) : pOk mt law M il sc pc (oStoreL i (pc + 2)) := by
  intro l D cI cO adK adV b B id ls st h Q hM hL hop p e R s m args below meth c H locs cells slots mc ms Z A as0 bs ws cls cst hC hX hw hP hD hS hl hst hB hF
  subst hM
  obtain ⟨v, r, rfl, h1⟩ := pPop_inv hop
  obtain ⟨x, rfl, h2⟩ := pJ_inv h1
  cases hb : Nat.ble (i + 2) ls.length with
  | false => rw [hb] at h2; exact h2.elim
  | true =>
    rw [hb, cond_true] at h2
    have hi2 : i + 2 ≤ (mt id).2.2.1 := hl.1 ▸ Nat.le_of_ble_eq_true hb
    obtain ⟨lv, g1, g2⟩ := hl.set2
    obtain ⟨cr, rfl, hst2⟩ := sJ hst
    refine lv_lstore hC.1 hC.2.1 hd g1 (by omega) rfl (fun cls' hl' => ?_)
    exact h2 p e R s m args below meth c H locs cells slots mc ms Z A as0 bs ws cls' _ hC hX hw hP hD hS (g2 i (.long x) _ cls' (by omega) rfl hl') hst2 hB hF
theorem ok_iinc {mt : Nat → pM} {law : Nat} {M : pM} {il : Bool} {sc : List Int32} {pc : Nat} {i : Nat} {k : Int} {v : Int32} (hd : decode M.2.1 pc = .ok (.iinc i k, 3)) (hv : Int32.ofInt k = v) : pOk mt law M il sc pc (oInc i v (pc + 3)) := by
  intro l D cI cO adK adV b B id ls st h Q hM hL hop p e R s m args below meth c H locs cells slots mc ms Z A as0 bs ws cls cst hC hX hw hP hD hS hl hst hB hF
  subst hM
  obtain ⟨o, h1, h2⟩ := pSome_inv hop
  obtain ⟨w, rfl, h3⟩ := pSome_inv h2
  obtain ⟨x, rfl, h4⟩ := pI_inv h3
  have hi2 : i < (mt id).2.2.1 := hl.1 ▸ pg_lt h1
  obtain ⟨lv2, g3, g4⟩ := hl.set
  obtain ⟨w, q1, q2⟩ := hl.at h1
  cases q1
  have g5 : lv_has cls (mt id).2.2.1 ((i, .int x) :: lv2) := ⟨g3.1, g3.2.1, fun q hq => by rcases List.mem_cons.mp hq with rfl | hq; exact q2; exact g3.2.2 q hq⟩
  refine lv_iinc (k := 0) hC.1 hC.2.1 hd g5 rfl (by rw [hv]) hi2 rfl (fun cls' hl' => ?_)
  have hl2 : lv_has cls' (mt id).2.2.1 ((i, .int (x + v)) :: lv2.filter (fun q => !(q.1 == i) && !(q.1 + 1 == i && q.2.category == 2))) := by
    have e : List.filter (fun q : Nat × Value => !(q.1 == i) && !(q.1 + 1 == i && q.2.category == 2)) ((i, .int x) :: lv2) = lv2.filter (fun q => !(q.1 == i) && !(q.1 + 1 == i && q.2.category == 2)) := by
      rw [List.filter_cons_of_neg]
      simp
    rw [e] at hl'
    exact hl'
  exact h4 p e R s m args below meth c H locs cells slots mc ms Z A as0 bs ws cls' _ hC hX hw hP hD hS (g4 i (.int (x + v)) _ cls' hi2 rfl hl2) hst hB hF
theorem ok_iadd {mt : Nat → pM} {law : Nat} {M : pM} {il : Bool} {sc : List Int32} {pc : Nat} (hd : decode M.2.1 pc = .ok (.iadd, 1)) : pOk mt law M il sc pc (oAdd (pc + 1)) := by
  intro l D cI cO adK adV b B id ls st h Q hM hL hop p e R s m args below meth c H locs cells slots mc ms Z A as0 bs ws cls cst hC hX hw hP hD hS hl hst hB hF
  subst hM
  obtain ⟨x, y, r, rfl, h1⟩ := p2_inv hop
  obtain ⟨c1, rfl, hst1⟩ := sI hst
  obtain ⟨c2, rfl, hst2⟩ := sI hst1
  replace hst := hst2
  refine lv_iadd hC.1 hC.2.1 hd ?_
  exact h1 p e R s m args below meth c H locs cells slots mc ms Z A as0 bs ws cls _ hC hX hw hP hD hS hl (sC rfl hst) hB hF
theorem ok_isub {mt : Nat → pM} {law : Nat} {M : pM} {il : Bool} {sc : List Int32} {pc : Nat} (hd : decode M.2.1 pc = .ok (.isub, 1)) : pOk mt law M il sc pc (oSub (pc + 1)) := by
  intro l D cI cO adK adV b B id ls st h Q hM hL hop p e R s m args below meth c H locs cells slots mc ms Z A as0 bs ws cls cst hC hX hw hP hD hS hl hst hB hF
  subst hM
  obtain ⟨x, y, r, rfl, h1⟩ := p2_inv hop
  obtain ⟨c1, rfl, hst1⟩ := sI hst
  obtain ⟨c2, rfl, hst2⟩ := sI hst1
  replace hst := hst2
  refine lv_isub hC.1 hC.2.1 hd ?_
  exact h1 p e R s m args below meth c H locs cells slots mc ms Z A as0 bs ws cls _ hC hX hw hP hD hS hl (sC rfl hst) hB hF
theorem ok_imul {mt : Nat → pM} {law : Nat} {M : pM} {il : Bool} {sc : List Int32} {pc : Nat} (hd : decode M.2.1 pc = .ok (.imul, 1)) : pOk mt law M il sc pc (oMul (pc + 1)) := by
  intro l D cI cO adK adV b B id ls st h Q hM hL hop p e R s m args below meth c H locs cells slots mc ms Z A as0 bs ws cls cst hC hX hw hP hD hS hl hst hB hF
  subst hM
  obtain ⟨x, y, r, rfl, h1⟩ := p2_inv hop
  obtain ⟨c1, rfl, hst1⟩ := sI hst
  obtain ⟨c2, rfl, hst2⟩ := sI hst1
  replace hst := hst2
  refine lv_imul hC.1 hC.2.1 hd ?_
  exact h1 p e R s m args below meth c H locs cells slots mc ms Z A as0 bs ws cls _ hC hX hw hP hD hS hl (sC rfl hst) hB hF
theorem ok_iand {mt : Nat → pM} {law : Nat} {M : pM} {il : Bool} {sc : List Int32} {pc : Nat} (hd : decode M.2.1 pc = .ok (.iand, 1)) : pOk mt law M il sc pc (oAnd (pc + 1)) := by
  intro l D cI cO adK adV b B id ls st h Q hM hL hop p e R s m args below meth c H locs cells slots mc ms Z A as0 bs ws cls cst hC hX hw hP hD hS hl hst hB hF
  subst hM
  obtain ⟨x, y, r, rfl, h1⟩ := p2_inv hop
  obtain ⟨c1, rfl, hst1⟩ := sI hst
  obtain ⟨c2, rfl, hst2⟩ := sI hst1
  replace hst := hst2
  refine lv_iand hC.1 hC.2.1 hd ?_
  exact h1 p e R s m args below meth c H locs cells slots mc ms Z A as0 bs ws cls _ hC hX hw hP hD hS hl (sC rfl hst) hB hF
theorem ok_ior {mt : Nat → pM} {law : Nat} {M : pM} {il : Bool} {sc : List Int32} {pc : Nat} (hd : decode M.2.1 pc = .ok (.ior, 1)) : pOk mt law M il sc pc (oOr (pc + 1)) := by
  intro l D cI cO adK adV b B id ls st h Q hM hL hop p e R s m args below meth c H locs cells slots mc ms Z A as0 bs ws cls cst hC hX hw hP hD hS hl hst hB hF
  subst hM
  obtain ⟨x, y, r, rfl, h1⟩ := p2_inv hop
  obtain ⟨c1, rfl, hst1⟩ := sI hst
  obtain ⟨c2, rfl, hst2⟩ := sI hst1
  replace hst := hst2
  refine lv_ior hC.1 hC.2.1 hd ?_
  exact h1 p e R s m args below meth c H locs cells slots mc ms Z A as0 bs ws cls _ hC hX hw hP hD hS hl (sC rfl hst) hB hF
theorem ok_ishl {mt : Nat → pM} {law : Nat} {M : pM} {il : Bool} {sc : List Int32} {pc : Nat} (hd : decode M.2.1 pc = .ok (.ishl, 1)) : pOk mt law M il sc pc (oShl (pc + 1)) := by
  intro l D cI cO adK adV b B id ls st h Q hM hL hop p e R s m args below meth c H locs cells slots mc ms Z A as0 bs ws cls cst hC hX hw hP hD hS hl hst hB hF
  subst hM
  obtain ⟨x, y, r, rfl, h1⟩ := p2_inv hop
  obtain ⟨c1, rfl, hst1⟩ := sI hst
  obtain ⟨c2, rfl, hst2⟩ := sI hst1
  replace hst := hst2
  refine lv_ishl hC.1 hC.2.1 hd ?_
  exact h1 p e R s m args below meth c H locs cells slots mc ms Z A as0 bs ws cls _ hC hX hw hP hD hS hl (sC rfl hst) hB hF
theorem ok_ishr {mt : Nat → pM} {law : Nat} {M : pM} {il : Bool} {sc : List Int32} {pc : Nat} (hd : decode M.2.1 pc = .ok (.ishr, 1)) : pOk mt law M il sc pc (oShr (pc + 1)) := by
  intro l D cI cO adK adV b B id ls st h Q hM hL hop p e R s m args below meth c H locs cells slots mc ms Z A as0 bs ws cls cst hC hX hw hP hD hS hl hst hB hF
  subst hM
  obtain ⟨x, y, r, rfl, h1⟩ := p2_inv hop
  obtain ⟨c1, rfl, hst1⟩ := sI hst
  obtain ⟨c2, rfl, hst2⟩ := sI hst1
  replace hst := hst2
  refine lv_ishr hC.1 hC.2.1 hd ?_
  exact h1 p e R s m args below meth c H locs cells slots mc ms Z A as0 bs ws cls _ hC hX hw hP hD hS hl (sC rfl hst) hB hF
theorem ok_idiv {mt : Nat → pM} {law : Nat} {M : pM} {il : Bool} {sc : List Int32} {pc : Nat} (hd : decode M.2.1 pc = .ok (.idiv, 1)) : pOk mt law M il sc pc (oDiv (pc + 1)) := by
  intro l D cI cO adK adV b B id ls st h Q hM hL hop p e R s m args below meth c H locs cells slots mc ms Z A as0 bs ws cls cst hC hX hw hP hD hS hl hst hB hF
  subst hM
  obtain ⟨x, y, r, rfl, hy, h1⟩ := p2_inv hop
  obtain ⟨c1, rfl, hst1⟩ := sI hst
  obtain ⟨c2, rfl, hst2⟩ := sI hst1
  replace hst := hst2
  refine lv_idiv hC.1 hC.2.1 hd hy ?_
  exact h1 p e R s m args below meth c H locs cells slots mc ms Z A as0 bs ws cls _ hC hX hw hP hD hS hl (sC rfl hst) hB hF
theorem ok_irem {mt : Nat → pM} {law : Nat} {M : pM} {il : Bool} {sc : List Int32} {pc : Nat} (hd : decode M.2.1 pc = .ok (.irem, 1)) : pOk mt law M il sc pc (oRem (pc + 1)) := by
  intro l D cI cO adK adV b B id ls st h Q hM hL hop p e R s m args below meth c H locs cells slots mc ms Z A as0 bs ws cls cst hC hX hw hP hD hS hl hst hB hF
  subst hM
  obtain ⟨x, y, r, rfl, hy, h1⟩ := p2_inv hop
  obtain ⟨c1, rfl, hst1⟩ := sI hst
  obtain ⟨c2, rfl, hst2⟩ := sI hst1
  replace hst := hst2
  refine lv_irem hC.1 hC.2.1 hd hy ?_
  exact h1 p e R s m args below meth c H locs cells slots mc ms Z A as0 bs ws cls _ hC hX hw hP hD hS hl (sC rfl hst) hB hF
theorem ok_ladd {mt : Nat → pM} {law : Nat} {M : pM} {il : Bool} {sc : List Int32} {pc : Nat} (hd : decode M.2.1 pc = .ok (.ladd, 1)) : pOk mt law M il sc pc (oAddL (pc + 1)) := by
  intro l D cI cO adK adV b B id ls st h Q hM hL hop p e R s m args below meth c H locs cells slots mc ms Z A as0 bs ws cls cst hC hX hw hP hD hS hl hst hB hF
  subst hM
  obtain ⟨x, y, r, rfl, h1⟩ := p2L_inv hop
  obtain ⟨c1, rfl, hst1⟩ := sJ hst
  obtain ⟨c2, rfl, hst2⟩ := sJ hst1
  replace hst := hst2
  refine lv_ladd hC.1 hC.2.1 hd ?_
  exact h1 p e R s m args below meth c H locs cells slots mc ms Z A as0 bs ws cls _ hC hX hw hP hD hS hl (sC rfl hst) hB hF
theorem ok_lmul {mt : Nat → pM} {law : Nat} {M : pM} {il : Bool} {sc : List Int32} {pc : Nat} (hd : decode M.2.1 pc = .ok (.lmul, 1)) : pOk mt law M il sc pc (oMulL (pc + 1)) := by
  intro l D cI cO adK adV b B id ls st h Q hM hL hop p e R s m args below meth c H locs cells slots mc ms Z A as0 bs ws cls cst hC hX hw hP hD hS hl hst hB hF
  subst hM
  obtain ⟨x, y, r, rfl, h1⟩ := p2L_inv hop
  obtain ⟨c1, rfl, hst1⟩ := sJ hst
  obtain ⟨c2, rfl, hst2⟩ := sJ hst1
  replace hst := hst2
  refine lv_lmul hC.1 hC.2.1 hd ?_
  exact h1 p e R s m args below meth c H locs cells slots mc ms Z A as0 bs ws cls _ hC hX hw hP hD hS hl (sC rfl hst) hB hF
theorem ok_lcmp {mt : Nat → pM} {law : Nat} {M : pM} {il : Bool} {sc : List Int32} {pc : Nat} (hd : decode M.2.1 pc = .ok (.lcmp, 1)) : pOk mt law M il sc pc (oCmpL (pc + 1)) := by
  intro l D cI cO adK adV b B id ls st h Q hM hL hop p e R s m args below meth c H locs cells slots mc ms Z A as0 bs ws cls cst hC hX hw hP hD hS hl hst hB hF
  subst hM
  obtain ⟨x, y, r, rfl, h1⟩ := p2L_inv hop
  obtain ⟨c1, rfl, hst1⟩ := sJ hst
  obtain ⟨c2, rfl, hst2⟩ := sJ hst1
  replace hst := hst2
  refine W.lcmp hC.1 hC.2.1 hd ?_
  exact h1 p e R s m args below meth c H locs cells slots mc ms Z A as0 bs ws cls _ hC hX hw hP hD hS hl (sC rfl hst) hB hF
theorem ok_i2l {mt : Nat → pM} {law : Nat} {M : pM} {il : Bool} {sc : List Int32} {pc : Nat} (hd : decode M.2.1 pc = .ok (.i2l, 1)) : pOk mt law M il sc pc (oI2l (pc + 1)) := by
  intro l D cI cO adK adV b B id ls st h Q hM hL hop p e R s m args below meth c H locs cells slots mc ms Z A as0 bs ws cls cst hC hX hw hP hD hS hl hst hB hF
  subst hM
  obtain ⟨v, r, rfl, h1⟩ := pPop_inv hop
  obtain ⟨x, rfl, h2⟩ := pI_inv h1
  obtain ⟨c1, rfl, hst1⟩ := sI hst
  replace hst := hst1
  refine lv_i2l hC.1 hC.2.1 hd rfl ?_
  exact h2 p e R s m args below meth c H locs cells slots mc ms Z A as0 bs ws cls _ hC hX hw hP hD hS hl (sC rfl hst) hB hF
theorem ok_ldc2 {mt : Nat → pM} {law : Nat} {M : pM} {il : Bool} {sc : List Int32} {pc : Nat} {i : Nat} {v : Int64} (hd : decode M.2.1 pc = .ok (.ldc2_w i, 3)) (hw0 : Cond.constantLong M.1.cls i v ∈ lw_good) : pOk mt law M il sc pc (oPush (.long v) (pc + 3)) := by
  intro l D cI cO adK adV b B id ls st h Q hM hL hop p e R s m args below meth c H locs cells slots mc ms Z A as0 bs ws cls cst hC hX hw hP hD hS hl hst hB hF
  subst hM
  refine lv_ldc2 hC.1 hC.2.1 hC.2.2.2.1 (hC.2.2.2.2.1 _ hw0) hd ?_
  exact hop p e R s m args below meth c H locs cells slots mc ms Z A as0 bs ws cls _ hC hX hw hP hD hS hl (sC rfl hst) hB hF
theorem ok_dup {mt : Nat → pM} {law : Nat} {M : pM} {il : Bool} {sc : List Int32} {pc : Nat} (hd : decode M.2.1 pc = .ok (.dup, 1)) : pOk mt law M il sc pc (oDup (pc + 1)) := by
  intro l D cI cO adK adV b B id ls st h Q hM hL hop p e R s m args below meth c H locs cells slots mc ms Z A as0 bs ws cls cst hC hX hw hP hD hS hl hst hB hF
  subst hM
  obtain ⟨v, r, rfl, h1⟩ := pPop_inv hop
  obtain ⟨w, c1, rfl, hv, hst2⟩ := sV hst
  cases hb : Nat.beq v.category 1 with
  | false => rw [hb] at h1; exact h1.elim
  | true =>
    rw [hb, cond_true] at h1
    refine lv_dup hC.1 hC.2.1 hd ((tv_cat hv).trans (Nat.eq_of_beq_eq_true hb)) ?_
    exact h1 p e R s m args below meth c H locs cells slots mc ms Z A as0 bs ws cls _ hC hX hw hP hD hS hl (sC hv (sC hv hst2)) hB hF
theorem ok_dup2 {mt : Nat → pM} {law : Nat} {M : pM} {il : Bool} {sc : List Int32} {pc : Nat} (hd : decode M.2.1 pc = .ok (.dup2, 1)) : pOk mt law M il sc pc (oDup2 (pc + 1)) := by
  intro l D cI cO adK adV b B id ls st h Q hM hL hop p e R s m args below meth c H locs cells slots mc ms Z A as0 bs ws cls cst hC hX hw hP hD hS hl hst hB hF
  subst hM
  obtain ⟨v, r, rfl, h1⟩ := pPop_inv hop
  obtain ⟨v2, r, rfl, h2⟩ := pPop_inv h1
  obtain ⟨w, c1, rfl, hv, hst2⟩ := sV hst
  obtain ⟨w2, c2, rfl, hv2, hst3⟩ := sV hst2
  cases hb : (Nat.beq v.category 1 && Nat.beq v2.category 1) with
  | false => rw [hb] at h2; exact h2.elim
  | true =>
    rw [hb, cond_true] at h2
    rw [Bool.and_eq_true] at hb
    refine lv_dup2_11 hC.1 hC.2.1 hd ((tv_cat hv).trans (Nat.eq_of_beq_eq_true hb.1)) ((tv_cat hv2).trans (Nat.eq_of_beq_eq_true hb.2)) ?_
    exact h2 p e R s m args below meth c H locs cells slots mc ms Z A as0 bs ws cls _ hC hX hw hP hD hS hl (sC hv (sC hv2 (sC hv (sC hv2 hst3)))) hB hF
theorem ok_goto {mt : Nat → pM} {law : Nat} {M : pM} {il : Bool} {sc : List Int32} {pc : Nat} {off : Int} {t : Nat} (hd : decode M.2.1 pc = .ok (.goto off, 3)) (ht : (pc : Int) + off = (t : Int)) : pOk mt law M il sc pc (oGoto t) := by
  intro l D cI cO adK adV b B id ls st h Q hM hL hop p e R s m args below meth c H locs cells slots mc ms Z A as0 bs ws cls cst hC hX hw hP hD hS hl hst hB hF
  subst hM
  refine lv_goto hC.1 hC.2.1 hd ht ?_
  exact hop p e R s m args below meth c H locs cells slots mc ms Z A as0 bs ws cls _ hC hX hw hP hD hS hl hst hB hF
theorem ok_icmp_lt {mt : Nat → pM} {law : Nat} {M : pM} {il : Bool} {sc : List Int32} {pc : Nat} {off : Int} {t : Nat} (hd : decode M.2.1 pc = .ok (.if_icmp .lt off, 3)) (ht : (pc : Int) + off = (t : Int)) : pOk mt law M il sc pc (oIfLt t (pc + 3)) := by
  intro l D cI cO adK adV b B id ls st h Q hM hL hop p e R s m args below meth c H locs cells slots mc ms Z A as0 bs ws cls cst hC hX hw hP hD hS hl hst hB hF
  subst hM
  obtain ⟨x, y, r, rfl, h1, h2⟩ := p2_inv hop
  obtain ⟨c1, rfl, hst1⟩ := sI hst
  obtain ⟨c2, rfl, hst2⟩ := sI hst1
  replace hst := hst2
  refine lv_icmp_lt hC.1 hC.2.1 hd ht (fun z => ?_) (fun z => ?_)
  · exact (h1 z) p e R s m args below meth c H locs cells slots mc ms Z A as0 bs ws cls _ hC hX hw hP hD hS hl hst hB hF
  · exact (h2 z) p e R s m args below meth c H locs cells slots mc ms Z A as0 bs ws cls _ hC hX hw hP hD hS hl hst hB hF
theorem ok_if_lt {mt : Nat → pM} {law : Nat} {M : pM} {il : Bool} {sc : List Int32} {pc : Nat} {off : Int} {t : Nat} (hd : decode M.2.1 pc = .ok (.ifCond .lt off, 3)) (ht : (pc : Int) + off = (t : Int)) : pOk mt law M il sc pc (oIfLt0 t (pc + 3)) := by
  intro l D cI cO adK adV b B id ls st h Q hM hL hop p e R s m args below meth c H locs cells slots mc ms Z A as0 bs ws cls cst hC hX hw hP hD hS hl hst hB hF
  subst hM
  obtain ⟨v, r, rfl, h0⟩ := pPop_inv hop
  obtain ⟨x, rfl, h1, h2⟩ := pI_inv h0
  obtain ⟨c1, rfl, hst1⟩ := sI hst
  replace hst := hst1
  refine lv_if_lt hC.1 hC.2.1 hd ht (fun z => ?_) (fun z => ?_)
  · exact (h1 z) p e R s m args below meth c H locs cells slots mc ms Z A as0 bs ws cls _ hC hX hw hP hD hS hl hst hB hF
  · exact (h2 z) p e R s m args below meth c H locs cells slots mc ms Z A as0 bs ws cls _ hC hX hw hP hD hS hl hst hB hF
theorem ok_icmp_ge {mt : Nat → pM} {law : Nat} {M : pM} {il : Bool} {sc : List Int32} {pc : Nat} {off : Int} {t : Nat} (hd : decode M.2.1 pc = .ok (.if_icmp .ge off, 3)) (ht : (pc : Int) + off = (t : Int)) : pOk mt law M il sc pc (oIfGe t (pc + 3)) := by
  intro l D cI cO adK adV b B id ls st h Q hM hL hop p e R s m args below meth c H locs cells slots mc ms Z A as0 bs ws cls cst hC hX hw hP hD hS hl hst hB hF
  subst hM
  obtain ⟨x, y, r, rfl, h1, h2⟩ := p2_inv hop
  obtain ⟨c1, rfl, hst1⟩ := sI hst
  obtain ⟨c2, rfl, hst2⟩ := sI hst1
  replace hst := hst2
  refine lv_icmp_ge hC.1 hC.2.1 hd ht (fun z => ?_) (fun z => ?_)
  · exact (h1 z) p e R s m args below meth c H locs cells slots mc ms Z A as0 bs ws cls _ hC hX hw hP hD hS hl hst hB hF
  · exact (h2 z) p e R s m args below meth c H locs cells slots mc ms Z A as0 bs ws cls _ hC hX hw hP hD hS hl hst hB hF
theorem ok_if_ge {mt : Nat → pM} {law : Nat} {M : pM} {il : Bool} {sc : List Int32} {pc : Nat} {off : Int} {t : Nat} (hd : decode M.2.1 pc = .ok (.ifCond .ge off, 3)) (ht : (pc : Int) + off = (t : Int)) : pOk mt law M il sc pc (oIfGe0 t (pc + 3)) := by
  intro l D cI cO adK adV b B id ls st h Q hM hL hop p e R s m args below meth c H locs cells slots mc ms Z A as0 bs ws cls cst hC hX hw hP hD hS hl hst hB hF
  subst hM
  obtain ⟨v, r, rfl, h0⟩ := pPop_inv hop
  obtain ⟨x, rfl, h1, h2⟩ := pI_inv h0
  obtain ⟨c1, rfl, hst1⟩ := sI hst
  replace hst := hst1
  refine lv_if_ge hC.1 hC.2.1 hd ht (fun z => ?_) (fun z => ?_)
  · exact (h1 z) p e R s m args below meth c H locs cells slots mc ms Z A as0 bs ws cls _ hC hX hw hP hD hS hl hst hB hF
  · exact (h2 z) p e R s m args below meth c H locs cells slots mc ms Z A as0 bs ws cls _ hC hX hw hP hD hS hl hst hB hF
theorem ok_icmp_gt {mt : Nat → pM} {law : Nat} {M : pM} {il : Bool} {sc : List Int32} {pc : Nat} {off : Int} {t : Nat} (hd : decode M.2.1 pc = .ok (.if_icmp .gt off, 3)) (ht : (pc : Int) + off = (t : Int)) : pOk mt law M il sc pc (oIfGt t (pc + 3)) := by
  intro l D cI cO adK adV b B id ls st h Q hM hL hop p e R s m args below meth c H locs cells slots mc ms Z A as0 bs ws cls cst hC hX hw hP hD hS hl hst hB hF
  subst hM
  obtain ⟨x, y, r, rfl, h1, h2⟩ := p2_inv hop
  obtain ⟨c1, rfl, hst1⟩ := sI hst
  obtain ⟨c2, rfl, hst2⟩ := sI hst1
  replace hst := hst2
  refine lv_icmp_gt hC.1 hC.2.1 hd ht (fun z => ?_) (fun z => ?_)
  · exact (h1 z) p e R s m args below meth c H locs cells slots mc ms Z A as0 bs ws cls _ hC hX hw hP hD hS hl hst hB hF
  · exact (h2 z) p e R s m args below meth c H locs cells slots mc ms Z A as0 bs ws cls _ hC hX hw hP hD hS hl hst hB hF
theorem ok_if_gt {mt : Nat → pM} {law : Nat} {M : pM} {il : Bool} {sc : List Int32} {pc : Nat} {off : Int} {t : Nat} (hd : decode M.2.1 pc = .ok (.ifCond .gt off, 3)) (ht : (pc : Int) + off = (t : Int)) : pOk mt law M il sc pc (oIfGt0 t (pc + 3)) := by
  intro l D cI cO adK adV b B id ls st h Q hM hL hop p e R s m args below meth c H locs cells slots mc ms Z A as0 bs ws cls cst hC hX hw hP hD hS hl hst hB hF
  subst hM
  obtain ⟨v, r, rfl, h0⟩ := pPop_inv hop
  obtain ⟨x, rfl, h1, h2⟩ := pI_inv h0
  obtain ⟨c1, rfl, hst1⟩ := sI hst
  replace hst := hst1
  refine lv_if_gt hC.1 hC.2.1 hd ht (fun z => ?_) (fun z => ?_)
  · exact (h1 z) p e R s m args below meth c H locs cells slots mc ms Z A as0 bs ws cls _ hC hX hw hP hD hS hl hst hB hF
  · exact (h2 z) p e R s m args below meth c H locs cells slots mc ms Z A as0 bs ws cls _ hC hX hw hP hD hS hl hst hB hF
theorem ok_icmp_le {mt : Nat → pM} {law : Nat} {M : pM} {il : Bool} {sc : List Int32} {pc : Nat} {off : Int} {t : Nat} (hd : decode M.2.1 pc = .ok (.if_icmp .le off, 3)) (ht : (pc : Int) + off = (t : Int)) : pOk mt law M il sc pc (oIfLe t (pc + 3)) := by
  intro l D cI cO adK adV b B id ls st h Q hM hL hop p e R s m args below meth c H locs cells slots mc ms Z A as0 bs ws cls cst hC hX hw hP hD hS hl hst hB hF
  subst hM
  obtain ⟨x, y, r, rfl, h1, h2⟩ := p2_inv hop
  obtain ⟨c1, rfl, hst1⟩ := sI hst
  obtain ⟨c2, rfl, hst2⟩ := sI hst1
  replace hst := hst2
  refine lv_icmp_le hC.1 hC.2.1 hd ht (fun z => ?_) (fun z => ?_)
  · exact (h1 z) p e R s m args below meth c H locs cells slots mc ms Z A as0 bs ws cls _ hC hX hw hP hD hS hl hst hB hF
  · exact (h2 z) p e R s m args below meth c H locs cells slots mc ms Z A as0 bs ws cls _ hC hX hw hP hD hS hl hst hB hF
theorem ok_if_le {mt : Nat → pM} {law : Nat} {M : pM} {il : Bool} {sc : List Int32} {pc : Nat} {off : Int} {t : Nat} (hd : decode M.2.1 pc = .ok (.ifCond .le off, 3)) (ht : (pc : Int) + off = (t : Int)) : pOk mt law M il sc pc (oIfLe0 t (pc + 3)) := by
  intro l D cI cO adK adV b B id ls st h Q hM hL hop p e R s m args below meth c H locs cells slots mc ms Z A as0 bs ws cls cst hC hX hw hP hD hS hl hst hB hF
  subst hM
  obtain ⟨v, r, rfl, h0⟩ := pPop_inv hop
  obtain ⟨x, rfl, h1, h2⟩ := pI_inv h0
  obtain ⟨c1, rfl, hst1⟩ := sI hst
  replace hst := hst1
  refine lv_if_le hC.1 hC.2.1 hd ht (fun z => ?_) (fun z => ?_)
  · exact (h1 z) p e R s m args below meth c H locs cells slots mc ms Z A as0 bs ws cls _ hC hX hw hP hD hS hl hst hB hF
  · exact (h2 z) p e R s m args below meth c H locs cells slots mc ms Z A as0 bs ws cls _ hC hX hw hP hD hS hl hst hB hF
theorem ok_icmp_eq {mt : Nat → pM} {law : Nat} {M : pM} {il : Bool} {sc : List Int32} {pc : Nat} {off : Int} {t : Nat} (hd : decode M.2.1 pc = .ok (.if_icmp .eq off, 3)) (ht : (pc : Int) + off = (t : Int)) : pOk mt law M il sc pc (oIfEq t (pc + 3)) := by
  intro l D cI cO adK adV b B id ls st h Q hM hL hop p e R s m args below meth c H locs cells slots mc ms Z A as0 bs ws cls cst hC hX hw hP hD hS hl hst hB hF
  subst hM
  obtain ⟨x, y, r, rfl, h1, h2⟩ := p2_inv hop
  obtain ⟨c1, rfl, hst1⟩ := sI hst
  obtain ⟨c2, rfl, hst2⟩ := sI hst1
  replace hst := hst2
  refine lv_icmp_eq hC.1 hC.2.1 hd ht (fun z => ?_) (fun z => ?_)
  · exact (h1 z) p e R s m args below meth c H locs cells slots mc ms Z A as0 bs ws cls _ hC hX hw hP hD hS hl hst hB hF
  · exact (h2 z) p e R s m args below meth c H locs cells slots mc ms Z A as0 bs ws cls _ hC hX hw hP hD hS hl hst hB hF
theorem ok_if_eq {mt : Nat → pM} {law : Nat} {M : pM} {il : Bool} {sc : List Int32} {pc : Nat} {off : Int} {t : Nat} (hd : decode M.2.1 pc = .ok (.ifCond .eq off, 3)) (ht : (pc : Int) + off = (t : Int)) : pOk mt law M il sc pc (oIfEq0 t (pc + 3)) := by
  intro l D cI cO adK adV b B id ls st h Q hM hL hop p e R s m args below meth c H locs cells slots mc ms Z A as0 bs ws cls cst hC hX hw hP hD hS hl hst hB hF
  subst hM
  obtain ⟨v, r, rfl, h0⟩ := pPop_inv hop
  obtain ⟨x, rfl, h1, h2⟩ := pI_inv h0
  obtain ⟨c1, rfl, hst1⟩ := sI hst
  replace hst := hst1
  refine lv_if_eq hC.1 hC.2.1 hd ht (fun z => ?_) (fun z => ?_)
  · exact (h1 z) p e R s m args below meth c H locs cells slots mc ms Z A as0 bs ws cls _ hC hX hw hP hD hS hl hst hB hF
  · exact (h2 z) p e R s m args below meth c H locs cells slots mc ms Z A as0 bs ws cls _ hC hX hw hP hD hS hl hst hB hF
theorem ok_icmp_ne {mt : Nat → pM} {law : Nat} {M : pM} {il : Bool} {sc : List Int32} {pc : Nat} {off : Int} {t : Nat} (hd : decode M.2.1 pc = .ok (.if_icmp .ne off, 3)) (ht : (pc : Int) + off = (t : Int)) : pOk mt law M il sc pc (oIfEq (pc + 3) t) := by
  intro l D cI cO adK adV b B id ls st h Q hM hL hop p e R s m args below meth c H locs cells slots mc ms Z A as0 bs ws cls cst hC hX hw hP hD hS hl hst hB hF
  subst hM
  obtain ⟨x, y, r, rfl, h1, h2⟩ := p2_inv hop
  obtain ⟨c1, rfl, hst1⟩ := sI hst
  obtain ⟨c2, rfl, hst2⟩ := sI hst1
  replace hst := hst2
  refine lv_icmp_ne hC.1 hC.2.1 hd ht (fun z => ?_) (fun z => ?_)
  · exact (h2 z) p e R s m args below meth c H locs cells slots mc ms Z A as0 bs ws cls _ hC hX hw hP hD hS hl hst hB hF
  · exact (h1 z) p e R s m args below meth c H locs cells slots mc ms Z A as0 bs ws cls _ hC hX hw hP hD hS hl hst hB hF
theorem ok_if_ne {mt : Nat → pM} {law : Nat} {M : pM} {il : Bool} {sc : List Int32} {pc : Nat} {off : Int} {t : Nat} (hd : decode M.2.1 pc = .ok (.ifCond .ne off, 3)) (ht : (pc : Int) + off = (t : Int)) : pOk mt law M il sc pc (oIfEq0 (pc + 3) t) := by
  intro l D cI cO adK adV b B id ls st h Q hM hL hop p e R s m args below meth c H locs cells slots mc ms Z A as0 bs ws cls cst hC hX hw hP hD hS hl hst hB hF
  subst hM
  obtain ⟨v, r, rfl, h0⟩ := pPop_inv hop
  obtain ⟨x, rfl, h1, h2⟩ := pI_inv h0
  obtain ⟨c1, rfl, hst1⟩ := sI hst
  replace hst := hst1
  refine lv_if_ne hC.1 hC.2.1 hd ht (fun z => ?_) (fun z => ?_)
  · exact (h2 z) p e R s m args below meth c H locs cells slots mc ms Z A as0 bs ws cls _ hC hX hw hP hD hS hl hst hB hF
  · exact (h1 z) p e R s m args below meth c H locs cells slots mc ms Z A as0 bs ws cls _ hC hX hw hP hD hS hl hst hB hF
theorem ok_ifnonnull {mt : Nat → pM} {law : Nat} {M : pM} {il : Bool} {sc : List Int32} {pc : Nat} {off : Int} {t : Nat} (hd : decode M.2.1 pc = .ok (.ifnonnull off, 3)) (ht : (pc : Int) + off = (t : Int)) : pOk mt law M il sc pc (oNonNull t) := by
  intro l D cI cO adK adV b B id ls st h Q hM hL hop p e R s m args below meth c H locs cells slots mc ms Z A as0 bs ws cls cst hC hX hw hP hD hS hl hst hB hF
  subst hM
  obtain ⟨v, r, rfl, h0⟩ := pPop_inv hop
  obtain ⟨x, rfl, h1⟩ := pR_inv h0
  obtain ⟨a, c1, ha, rfl, hst1⟩ := sR hst
  replace hst := hst1
  refine lv_ifnonnull hC.1 hC.2.1 hd ht ?_
  exact h1 p e R s m args below meth c H locs cells slots mc ms Z A as0 bs ws cls _ hC hX hw hP hD hS hl hst hB hF
theorem ok_return {mt : Nat → pM} {law : Nat} {M : pM} {il : Bool} {sc : List Int32} {pc : Nat} (hd : decode M.2.1 pc = .ok (.return_, 1)) (hr : M.2.2.2 = none) : pOk mt law M il sc pc oRetV := by
  intro l D cI cO adK adV b B id ls st h Q hM hL hop p e R s m args below meth c H locs cells slots mc ms Z A as0 bs ws cls cst hC hX hw hP hD hS hl hst hB hF
  subst hM
  cases st with
  | cons v r => exact hop.elim
  | nil =>
  have h1 : Q none h := hop
  cases cst with
  | cons v r => simp at hst
  | nil =>
  exact hF _ h bs ws H locs cells slots cls pc h1 (Or.inl ⟨hd, hr, rfl⟩) hw hP hD hS (by omega) (by omega)
theorem ok_ireturn {mt : Nat → pM} {law : Nat} {M : pM} {il : Bool} {sc : List Int32} {pc : Nat} (hd : decode M.2.1 pc = .ok (.ireturn, 1)) (hr : M.2.2.2 = some .int) : pOk mt law M il sc pc oRetI := by
  intro l D cI cO adK adV b B id ls st h Q hM hL hop p e R s m args below meth c H locs cells slots mc ms Z A as0 bs ws cls cst hC hX hw hP hD hS hl hst hB hF
  subst hM
  cases st with
  | nil => exact hop.elim
  | cons v r =>
  cases r with
  | cons v2 r2 => exact hop.elim
  | nil =>
  obtain ⟨x, rfl, h1⟩ := pI_inv (show pI v _ from hop)
  obtain ⟨c1, rfl, hst1⟩ := sI hst
  replace hst := hst1
  cases c1 with
  | cons v r => simp at hst
  | nil =>
  exact hF _ h bs ws H locs cells slots cls pc h1 (Or.inr (Or.inl ⟨hd, .int, x, hr, rfl, rfl⟩)) hw hP hD hS (by omega) (by omega)
theorem ok_zreturn {mt : Nat → pM} {law : Nat} {M : pM} {il : Bool} {sc : List Int32} {pc : Nat} (hd : decode M.2.1 pc = .ok (.ireturn, 1)) (hr : M.2.2.2 = some .boolean) : pOk mt law M il sc pc oRetZ := by
  intro l D cI cO adK adV b B id ls st h Q hM hL hop p e R s m args below meth c H locs cells slots mc ms Z A as0 bs ws cls cst hC hX hw hP hD hS hl hst hB hF
  subst hM
  cases st with
  | nil => exact hop.elim
  | cons v r =>
  cases r with
  | cons v2 r2 => exact hop.elim
  | nil =>
  obtain ⟨x, rfl, hz, h1⟩ := pI_inv (show pI v _ from hop)
  obtain ⟨c1, rfl, hst1⟩ := sI hst
  replace hst := hst1
  cases c1 with
  | cons v r => simp at hst
  | nil =>
  exact hF _ h bs ws H locs cells slots cls pc h1 (Or.inr (Or.inl ⟨hd, .boolean, x, hr, by rcases hz with rfl | rfl <;> rfl, rfl⟩)) hw hP hD hS (by omega) (by omega)
theorem ok_lreturn {mt : Nat → pM} {law : Nat} {M : pM} {il : Bool} {sc : List Int32} {pc : Nat} (hd : decode M.2.1 pc = .ok (.lreturn, 1)) (hr : M.2.2.2 = some .long) : pOk mt law M il sc pc oRetL := by
  intro l D cI cO adK adV b B id ls st h Q hM hL hop p e R s m args below meth c H locs cells slots mc ms Z A as0 bs ws cls cst hC hX hw hP hD hS hl hst hB hF
  subst hM
  cases st with
  | nil => exact hop.elim
  | cons v r =>
  cases r with
  | cons v2 r2 => exact hop.elim
  | nil =>
  obtain ⟨x, rfl, h1⟩ := pJ_inv (show pJ v _ from hop)
  obtain ⟨c1, rfl, hst1⟩ := sJ hst
  replace hst := hst1
  cases c1 with
  | cons v r => simp at hst
  | nil =>
  exact hF _ h bs ws H locs cells slots cls pc h1 (Or.inr (Or.inr ⟨hd, hr, x, rfl⟩)) hw hP hD hS (by omega) (by omega)
end
section
/-! Switches; the heap. -/
theorem pSw_lookup {x : Int32} {K : Nat → Prop} {d : Nat} {pc : Nat} {dflt : Int} (hd : (pc : Int) + dflt = (d : Int)) : ∀ (ps : List (Int × Int)) (ts : List (Int32 × Nat)), ps.map (fun q => (q.1, (pc : Int) + q.2)) = ts.map (fun q => (q.1.toInt, (q.2 : Int))) → pSw x K d ts → ∃ t : Nat, (pc : Int) + Op.lookupswitch.offset ps dflt x.toInt = (t : Int) ∧ K t
  | [], [], _, h => ⟨d, hd, h⟩
  | [], _ :: _, h, _ => by simp at h
  | _ :: _, [], h, _ => by simp at h
  | (a, o) :: ps, (k, t) :: ts, h, hs => by
    simp only [List.map_cons, List.cons.injEq, Prod.mk.injEq] at h
    obtain ⟨⟨h1, h2⟩, h3⟩ := h
    by_cases hx : x = k
    · refine ⟨t, ?_, hs.1 hx⟩
      subst hx
      rw [← h2, h1]
      simp [Op.lookupswitch.offset]
    · rw [lv_osw hx h1.symm]
      exact pSw_lookup hd ps ts h3 (hs.2 hx)
theorem pSw_table {x : Int32} {K : Nat → Prop} {d : Nat} {pc : Nat} : ∀ (offs : List Int) (ts : List (Int32 × Nat)) (lo : Int), ts.map (fun q => (q.2 : Int)) = offs.map (fun o => (pc : Int) + o) → (∀ (i : Nat) (q : Int32 × Nat), ts[i]? = some q → q.1.toInt = lo + i) → pSw x K d ts → ((x.toInt < lo ∨ lo + offs.length ≤ x.toInt) ∧ K d) ∨ (¬ x.toInt < lo ∧ x.toInt < lo + offs.length ∧ ∃ (off : Int) (t : Nat), offs[(x.toInt - lo).toNat]? = some off ∧ (pc : Int) + off = (t : Int) ∧ K t)
  | [], [], lo, _, _, h => Or.inl ⟨by simp; omega, h⟩
  | [], _ :: _, _, h, _, _ => by simp at h
  | _ :: _, [], _, h, _, _ => by simp at h
  | o :: offs, (k, t) :: ts, lo, h, hk, hs => by
    simp only [List.map_cons, List.cons.injEq] at h
    have h0 := hk 0 (k, t) rfl
    simp only [Int.natCast_zero, Int.add_zero] at h0
    by_cases hx : x = k
    · refine Or.inr ⟨by rw [hx, h0]; omega, by rw [hx, h0, List.length_cons]; omega, o, t, ?_, h.1.symm, hs.1 hx⟩
      rw [hx, h0, Int.sub_self]; rfl
    · have hne : ¬ x.toInt = lo := lv_neT hx h0
      rcases pSw_table offs ts (lo + 1) h.2 (fun i q hi => by rw [hk (i + 1) q hi]; omega) (hs.2 hx) with ⟨a1, a2⟩ | ⟨a1, a2, off, t2, a3, a4, a5⟩
      · refine Or.inl ⟨?_, a2⟩
        rw [List.length_cons]
        rcases a1 with a1 | a1
        · exact Or.inl (by omega)
        · exact Or.inr (by omega)
      · refine Or.inr ⟨by omega, by rw [List.length_cons]; omega, off, t2, ?_, a4, a5⟩
        rw [show (x.toInt - lo).toNat = (x.toInt - (lo + 1)).toNat + 1 by omega, List.getElem?_cons_succ]
        exact a3
theorem ok_lookup {mt : Nat → pM} {law : Nat} {M : pM} {il : Bool} {sc : List Int32} {pc : Nat} {dflt : Int} {ps : Array (Int × Int)} {len d : Nat} {ts : List (Int32 × Nat)} (hd : decode M.2.1 pc = .ok (.lookupswitch dflt ps, len)) (hp : (ps.toList.zip (ps.toList.drop 1)).all (fun (a, next) => a.1 < next.1) = true) (h1 : (pc : Int) + dflt = (d : Int)) (h2 : ps.toList.map (fun q => (q.1, (pc : Int) + q.2)) = ts.map (fun q => (q.1.toInt, (q.2 : Int)))) : pOk mt law M il sc pc (oSw ts d) := by
  intro l D cI cO adK adV b B id ls st h Q hM hL hop p e R s m args below meth c H locs cells slots mc ms Z A as0 bs ws cls cst hC hX hw hP hD hS hl hst hB hF
  subst hM
  obtain ⟨v, r, rfl, h3⟩ := pPop_inv hop
  obtain ⟨x, rfl, h4⟩ := pI_inv h3
  obtain ⟨c1, rfl, hst1⟩ := sI hst
  obtain ⟨t, h5, h6⟩ := pSw_lookup h1 ps.toList ts h2 h4
  refine lv_lookup hC.1 hC.2.1 hd hp rfl h5 ?_
  exact h6 p e R s m args below meth c H locs cells slots mc ms Z A as0 bs ws cls _ hC hX hw hP hD hS hl hst1 hB hF
theorem ok_table {mt : Nat → pM} {law : Nat} {M : pM} {il : Bool} {sc : List Int32} {pc : Nat} {dflt lo hi : Int} {offs : Array Int} {len d : Nat} {ts : List (Int32 × Nat)} (hd : decode M.2.1 pc = .ok (.tableswitch dflt lo hi offs, len)) (h1 : (pc : Int) + dflt = (d : Int)) (h2 : ts.map (fun q => (q.2 : Int)) = offs.toList.map (fun o => (pc : Int) + o)) (h0 : hi + 1 = lo + offs.toList.length) (hk : ts.zipIdx.all (fun q => q.1.1.toInt == lo + q.2) = true) : pOk mt law M il sc pc (oSw ts d) := by
  intro l D cI cO adK adV b B id ls st h Q hM hL hop p e R s m args below meth c H locs cells slots mc ms Z A as0 bs ws cls cst hC hX hw hP hD hS hl hst hB hF
  subst hM
  obtain ⟨v, r, rfl, h3⟩ := pPop_inv hop
  obtain ⟨x, rfl, h4⟩ := pI_inv h3
  obtain ⟨c1, rfl, hst1⟩ := sI hst
  have hk2 : ∀ (i : Nat) (q : Int32 × Nat), ts[i]? = some q → q.1.toInt = lo + i := by
    intro i q hi
    have := List.all_eq_true.mp hk (q, i) (List.mk_mem_zipIdx_iff_getElem?.mpr hi)
    exact beq_iff_eq.mp this
  rcases pSw_table offs.toList ts lo h2 hk2 h4 with ⟨a1, a2⟩ | ⟨a1, a2, off, t, a3, a4, a5⟩
  · refine lv_tableOut hC.1 hC.2.1 hd (by rcases a1 with a | a; exact Or.inl a; exact Or.inr (by omega)) h1 ?_
    exact a2 p e R s m args below meth c H locs cells slots mc ms Z A as0 bs ws cls _ hC hX hw hP hD hS hl hst1 hB hF
  · refine lv_tableIn hC.1 hC.2.1 hd a1 (by omega) (by rw [← Array.getElem?_toList]; exact a3) a4 ?_
    exact a5 p e R s m args below meth c H locs cells slots mc ms Z A as0 bs ws cls _ hC hX hw hP hD hS hl hst1 hB hF
/-- where the words of a class lie -/
def pFld (M : pM) (ci k i : Nat) : Prop := ∃ (C : String) (T : u_T) (N : Nat) (ref : String), clsP[ci]? = some (C, T, N) ∧ (∀ w ∈ u_ws C T N, w ∈ lw_good) ∧ k < N ∧ (∀ k, k < N → parseFieldDescriptor (T k).2.2.1 = some (tyP ci k)) ∧ (∀ a, a < N → ∀ b, b < N → a ≠ b → (T a).2.1 ≠ (T b).2.1) ∧ Cond.fieldLink M.1.cls i ref (T k).2.1 (T k).2.2.1 ∈ lw_good ∧ (T k).1 = ref ∧ (T k).2.2.2 = false
def pFldF (M : pM) (ci k i : Nat) : Prop := ∃ (C : String) (T : u_T) (N : Nat) (ref : String), clsP[ci]? = some (C, T, N) ∧ (∀ w ∈ u_ws C T N, w ∈ lw_good) ∧ k < N ∧ (∀ k, k < N → parseFieldDescriptor (T k).2.2.1 = some (tyP ci k)) ∧ (∀ a, a < N → ∀ b, b < N → a ≠ b → (T a).2.1 ≠ (T b).2.1) ∧ Cond.fieldLink M.1.cls i ref (T k).2.1 (T k).2.2.1 ∈ lw_good ∧ (T k).1 = ref ∧ (T k).2.2.2 = true
theorem tc_obj {cI cO : ClassId} {sa : Nat → Option Nat} {as : List Nat} {ci : Nat} {fs : List Value} {e : va_E} {r : vw_C} (hc : clsP[ci]? = some r) (h : tc cI cO sa as (.inr (ci, fs)) e) : ∃ gs : List Value, e = .inr (ci, gs) ∧ fs.map (tv sa as) = gs.map some := by
  have h50 : ¬ ci = 50 := fun q => by subst q; cases hc
  simp only [tc] at h
  rw [if_neg h50] at h
  exact h
theorem tc_obj' {cI cO : ClassId} {sa : Nat → Option Nat} {as : List Nat} {ci : Nat} {fs gs : List Value} {r : vw_C} (hc : clsP[ci]? = some r) (h : fs.map (tv sa as) = gs.map some) : tc cI cO sa as (.inr (ci, fs)) (.inr (ci, gs)) := by
  have h50 : ¬ ci = 50 := fun q => by subst q; cases hc
  simp only [tc]
  rw [if_neg h50]
  exact ⟨gs, rfl, h⟩
theorem map_set_some {f : Value → Option Value} {fs gs : List Value} (h : fs.map f = gs.map some) {k : Nat} {v w : Value} (hv : f v = some w) : (fs.set k v).map f = (gs.set k w).map some := by
  rw [List.map_set, List.map_set, h, hv]
theorem map_len {f : Value → Option Value} {fs gs : List Value} (h : fs.map f = gs.map some) : fs.length = gs.length := by
  have := congrArg List.length h
  simpa using this
theorem ok_getfield {mt : Nat → pM} {law : Nat} {M : pM} {il : Bool} {sc : List Int32} {pc ci k i : Nat} (hd : decode M.2.1 pc = .ok (.getfield i, 3)) (hf : pFld M ci k i ∨ pFldF M ci k i) : pOk mt law M il sc pc (oGet ci k (pc + 3)) := by
  intro l D cI cO adK adV b B id ls st h Q hM hL hop p e R s m args below meth c H locs cells slots mc ms Z A as0 bs ws cls cst hC hX hw hP hD hS hl hst hB hF
  subst hM
  obtain ⟨v, r, rfl, h1⟩ := pPop_inv hop
  obtain ⟨q, rfl, h2⟩ := pR_inv h1
  obtain ⟨fs, h3, h4⟩ := pOb_inv h2
  obtain ⟨v, h5, h6⟩ := pSome_inv h4
  obtain ⟨a, c1, ha, rfl, hst1⟩ := sR hst
  obtain ⟨a', e', ha', hws, htc⟩ := hw.2.2 q _ h3
  rw [ha] at ha'
  cases ha'
  have hh : ∃ (C : String) (T : u_T) (N : Nat) (ref : String), clsP[ci]? = some (C, T, N) ∧ (∀ w ∈ u_ws C T N, w ∈ lw_good) ∧ k < N ∧ Cond.fieldLink (mt id).1.cls i ref (T k).2.1 (T k).2.2.1 ∈ lw_good ∧ (T k).1 = ref := by
    rcases hf with ⟨C, T, N, ref, q1, q2, q3, -, -, q4, q5, -⟩ | ⟨C, T, N, ref, q1, q2, q3, -, -, q4, q5, -⟩
    · exact ⟨C, T, N, ref, q1, q2, q3, q4, q5⟩
    · exact ⟨C, T, N, ref, q1, q2, q3, q4, q5⟩
  obtain ⟨C, T, N, ref, q1, q2, q3, q4, rfl⟩ := hh
  obtain ⟨gs, rfl, hgs⟩ := tc_obj q1 htc
  obtain ⟨w, g1, g2⟩ := pg_map hgs h5
  refine va_get (D := D) (ci := ci) (v := w) (C := C) (T := T) (N := N) hC.1 hC.2.1 hC.2.2.2.2.1 q2 hC.2.2.2.1 hC.2.2.2.2.2.1 hP q hws q1 k q3 (hC.2.2.2.2.1 _ q4) (fun _ h9 => h9) (by rw [← pg_eq]; exact g1) hd ?_
  exact h6 p e R s m args below meth c H locs cells slots mc ms Z A as0 bs ws cls _ hC hX hw hP hD hS hl (sC g2 hst1) hB hF
/-- a store, once the value's kind is known -/
theorem put_core {mt : Nat → pM} {law : Nat} {sc : List Int32} {pc ci k i : Nat} {l : Launch} {D : va_G} {cI cO : ClassId} {adK adV : Nat → Nat} {b : Nat} {B : pB} {id : Nat} {ls : pL} {st : List Value} {h : pH} {Q : pQ} {v : Value} {q : Nat} {fs : List Value} (hd : decode (mt id).2.1 pc = .ok (.putfield i, 3)) (hf : pFld (mt id) ci k i ∨ (pFldF (mt id) ci k i ∧ (mt id).1.name = "<init>" ∧ ∀ r, clsP[ci]? = some r → (r.2.1 k).1 = (mt id).1.cls)) (hn : ∀ w, tv (pSa adK b) [] v = some w ∨ (∃ j, v = .ref j ∧ ∃ a, w = .ref a) → narrow (tyP ci k) w = w ∧ fits (tyP ci k) w = true)
    (h3 : pg h q = some (.inr (ci, fs))) (hk : k + 1 ≤ fs.length) (hop : pSnd mt law l D cI cO adK adV b sc B id (pc + 3) ls st (h.set q (.inr (ci, fs.set k v))) Q) : pSnd mt law l D cI cO adK adV b sc B id pc ls (v :: .ref q :: st) h Q := by
  intro p e R s m args below meth c H locs cells slots mc ms Z A as0 bs ws cls cst hC hX hw hP hD hS hl hst hB hF
  obtain ⟨w, c0, rfl, hv, hst0⟩ := sV hst
  obtain ⟨a, c1, ha, rfl, hst1⟩ := sR hst0
  obtain ⟨a', e', ha', hws, htc⟩ := hw.2.2 q _ h3
  rw [ha] at ha'
  cases ha'
  have hn2 : narrow (tyP ci k) w = w ∧ fits (tyP ci k) w = true := by
    apply hn
    cases v with
    | ref j =>
      simp only [tv, Option.map_eq_some_iff] at hv
      obtain ⟨a2, -, hv⟩ := hv
      exact Or.inr ⟨j, rfl, a2, hv.symm⟩
    | retAddr j => exact Or.inl hv
    | _ => exact Or.inl hv
  rcases hf with ⟨C, T, N, ref, q1, q2, q3, q4, q5, q6, rfl, q7⟩ | ⟨⟨C, T, N, ref, q1, q2, q3, q4, q5, q6, rfl, q7⟩, q8, q9⟩
  · obtain ⟨gs, rfl, hgs⟩ := tc_obj q1 htc
    refine va_put (D := D) (ci := ci) (v := w) (ty := tyP ci k) (C := C) (T := T) (N := N) hC.1 hC.2.1 hC.2.2.2.2.1 q2 (tyP ci) q4 q5 hC.2.2.2.1 hC.2.2.2.2.2.1 hP hD hS q hws q1 k q3 (hC.2.2.2.2.1 _ q6) (fun _ h9 => h9) q7 (q4 k q3) hn2.1 hn2.2 (by rw [← map_len hgs]; omega) hd (fun H1 locs1 hP1 hD1 hS1 => ?_)
    exact hop p e R s m args below meth c H1 locs1 cells slots mc ms Z A as0 bs _ cls _ hC hX (hw.set (pg_lt h3) ha (tc_obj' q1 (map_set_some hgs hv))) hP1 hD1 hS1 hl hst1 hB hF
  · obtain ⟨gs, rfl, hgs⟩ := tc_obj q1 htc
    refine va_putF (D := D) (ci := ci) (v := w) (ty := tyP ci k) (C := C) (T := T) (N := N) hC.1 hC.2.1 hC.2.2.2.2.1 q2 (tyP ci) q4 q5 hC.2.2.2.1 hC.2.2.2.2.2.1 hP hD hS q hws q1 k q3 (hC.2.2.2.2.1 _ q6) (fun _ h9 => h9) q7 (hC.2.2.2.2.2.2.1.trans q8) (q9 _ q1) (q4 k q3) hn2.1 hn2.2 (by rw [← map_len hgs]; omega) hd (fun H1 locs1 hP1 hD1 hS1 => ?_)
    exact hop p e R s m args below meth c H1 locs1 cells slots mc ms Z A as0 bs _ cls _ hC hX (hw.set (pg_lt h3) ha (tc_obj' q1 (map_set_some hgs hv))) hP1 hD1 hS1 hl hst1 hB hF
end
section
/-! Stores, arrays, new cells. -/
theorem ok_putI {mt : Nat → pM} {law : Nat} {M : pM} {il : Bool} {sc : List Int32} {pc : Nat} {ci k i : Nat} (hd : decode M.2.1 pc = .ok (.putfield i, 3)) (hf : pFld M ci k i ∨ (pFldF M ci k i ∧ M.1.name = "<init>" ∧ ∀ r, clsP[ci]? = some r → (r.2.1 k).1 = M.1.cls)) (hty : tyP ci k = .int) : pOk mt law M il sc pc (oPutI ci k (pc + 3)) := by
  intro l D cI cO adK adV b B id ls st h Q hM hL hop
  subst hM
  obtain ⟨v, r, rfl, h1⟩ := pPop_inv hop
  obtain ⟨a, r, rfl, h2⟩ := pPop_inv h1
  obtain ⟨x, rfl, h3⟩ := pI_inv h2
  obtain ⟨q, rfl, h4⟩ := pR_inv h3
  obtain ⟨fs, h5, h6⟩ := pOb_inv h4
  cases hb : Nat.ble (k + 1) fs.length with
  | false => rw [hb] at h6; exact h6.elim
  | true =>
    rw [hb, cond_true] at h6
    refine put_core hd hf (fun w hw => ?_) h5 (Nat.le_of_ble_eq_true hb) h6
    rw [hty]
    rcases hw with hw | ⟨j, hj, -⟩
    · cases hw; exact ⟨rfl, rfl⟩
    · cases hj
theorem ok_putJ {mt : Nat → pM} {law : Nat} {M : pM} {il : Bool} {sc : List Int32} {pc : Nat} {ci k i : Nat} (hd : decode M.2.1 pc = .ok (.putfield i, 3)) (hf : pFld M ci k i ∨ (pFldF M ci k i ∧ M.1.name = "<init>" ∧ ∀ r, clsP[ci]? = some r → (r.2.1 k).1 = M.1.cls)) (hty : tyP ci k = .long) : pOk mt law M il sc pc (oPutJ ci k (pc + 3)) := by
  intro l D cI cO adK adV b B id ls st h Q hM hL hop
  subst hM
  obtain ⟨v, r, rfl, h1⟩ := pPop_inv hop
  obtain ⟨a, r, rfl, h2⟩ := pPop_inv h1
  obtain ⟨x, rfl, h3⟩ := pJ_inv h2
  obtain ⟨q, rfl, h4⟩ := pR_inv h3
  obtain ⟨fs, h5, h6⟩ := pOb_inv h4
  cases hb : Nat.ble (k + 1) fs.length with
  | false => rw [hb] at h6; exact h6.elim
  | true =>
    rw [hb, cond_true] at h6
    refine put_core hd hf (fun w hw => ?_) h5 (Nat.le_of_ble_eq_true hb) h6
    rw [hty]
    rcases hw with hw | ⟨j, hj, -⟩
    · cases hw; exact ⟨rfl, rfl⟩
    · cases hj
theorem ok_putZ {mt : Nat → pM} {law : Nat} {M : pM} {il : Bool} {sc : List Int32} {pc : Nat} {ci k i : Nat} (hd : decode M.2.1 pc = .ok (.putfield i, 3)) (hf : pFld M ci k i ∨ (pFldF M ci k i ∧ M.1.name = "<init>" ∧ ∀ r, clsP[ci]? = some r → (r.2.1 k).1 = M.1.cls)) (hty : tyP ci k = .boolean) : pOk mt law M il sc pc (oPutZ ci k (pc + 3)) := by
  intro l D cI cO adK adV b B id ls st h Q hM hL hop
  subst hM
  obtain ⟨v, r, rfl, h1⟩ := pPop_inv hop
  obtain ⟨a, r, rfl, h2⟩ := pPop_inv h1
  obtain ⟨x, rfl, h3⟩ := pI_inv h2
  obtain ⟨q, rfl, h4⟩ := pR_inv h3
  obtain ⟨fs, h5, h6⟩ := pOb_inv h4
  cases hb : Nat.ble (k + 1) fs.length with
  | false => rw [hb] at h6; exact h6.elim
  | true =>
    rw [hb, cond_true] at h6
    refine put_core hd hf (fun w hw => ?_) h5 (Nat.le_of_ble_eq_true hb) h6.2
    rw [hty]
    rcases hw with hw | ⟨j, hj, -⟩
    · cases hw
      rcases h6.1 with rfl | rfl <;> exact ⟨rfl, rfl⟩
    · cases hj
theorem ok_putR {mt : Nat → pM} {law : Nat} {M : pM} {il : Bool} {sc : List Int32} {pc : Nat} {ci k i : Nat} (hd : decode M.2.1 pc = .ok (.putfield i, 3)) (hf : pFld M ci k i ∨ (pFldF M ci k i ∧ M.1.name = "<init>" ∧ ∀ r, clsP[ci]? = some r → (r.2.1 k).1 = M.1.cls)) (hty : (∃ n, tyP ci k = .object n) ∨ ∃ t, tyP ci k = .array t) : pOk mt law M il sc pc (oPutR ci k (pc + 3)) := by
  intro l D cI cO adK adV b B id ls st h Q hM hL hop
  subst hM
  obtain ⟨v, r, rfl, h1⟩ := pPop_inv hop
  obtain ⟨a, r, rfl, h2⟩ := pPop_inv h1
  obtain ⟨x, rfl, h3⟩ := pR_inv h2
  obtain ⟨q, rfl, h4⟩ := pR_inv h3
  obtain ⟨fs, h5, h6⟩ := pOb_inv h4
  cases hb : Nat.ble (k + 1) fs.length with
  | false => rw [hb] at h6; exact h6.elim
  | true =>
    rw [hb, cond_true] at h6
    refine put_core hd hf (fun w hw => ?_) h5 (Nat.le_of_ble_eq_true hb) h6
    rcases hw with hw | ⟨j, hj, a, ha⟩
    · simp [tv, pg] at hw
    · subst ha
      rcases hty with ⟨n, hn⟩ | ⟨t, hn⟩ <;> rw [hn] <;> exact ⟨rfl, rfl⟩
theorem ok_iaload {mt : Nat → pM} {law : Nat} {M : pM} {il : Bool} {sc : List Int32} {pc : Nat} (hd : decode M.2.1 pc = .ok (.iaload, 1)) : pOk mt law M il sc pc (oLd (pc + 1)) := by
  intro l D cI cO adK adV b B id ls st h Q hM hL hop p e R s m args below meth c H locs cells slots mc ms Z A as0 bs ws cls cst hC hX hw hP hD hS hl hst hB hF
  subst hM
  obtain ⟨v, r, rfl, h1⟩ := pPop_inv hop
  obtain ⟨a, r, rfl, h2⟩ := pPop_inv h1
  obtain ⟨j, rfl, h3⟩ := pI_inv h2
  obtain ⟨q, rfl, h4⟩ := pR_inv h3
  obtain ⟨xs, h5, h6, h7⟩ := pA_inv h4
  obtain ⟨c0, rfl, hst0⟩ := sI hst
  obtain ⟨a, c1, ha, rfl, hst1⟩ := sR hst0
  obtain ⟨a', e', ha', hws, htc⟩ := hw.2.2 q _ h5
  rw [ha] at ha'
  cases ha'
  cases htc
  refine va_iald hC.1 hC.2.1 hC.2.2.2.2.2.1 hP q 0 hws rfl h6 hd ?_
  exact h7 p e R s m args below meth c H locs cells slots mc ms Z A as0 bs ws cls _ hC hX hw hP hD hS hl (sC rfl hst1) hB hF
theorem tc_upd {xs : List Int32} {i : Nat} {x : Int32} (h : i < xs.length) : upd (fun j => xs.getD j 0) i x = fun j => (xs.set i x).getD j 0 := by
  funext j
  by_cases hj : j = i
  · subst hj
    rw [upd, if_pos rfl, List.getD_eq_getElem?_getD, List.getElem?_set_self h]; rfl
  · rw [upd, if_neg hj, List.getD_eq_getElem?_getD, List.getD_eq_getElem?_getD, List.getElem?_set_ne (fun q => hj q.symm)]
theorem ok_iastore {mt : Nat → pM} {law : Nat} {M : pM} {il : Bool} {sc : List Int32} {pc : Nat} (hd : decode M.2.1 pc = .ok (.iastore, 1)) : pOk mt law M il sc pc (oSt (pc + 1)) := by
  intro l D cI cO adK adV b B id ls st h Q hM hL hop p e R s m args below meth c H locs cells slots mc ms Z A as0 bs ws cls cst hC hX hw hP hD hS hl hst hB hF
  subst hM
  obtain ⟨v, r, rfl, h1⟩ := pPop_inv hop
  obtain ⟨a, r, rfl, h2⟩ := pPop_inv h1
  obtain ⟨a, r, rfl, h2a⟩ := pPop_inv h2
  obtain ⟨x, rfl, h3⟩ := pI_inv h2a
  obtain ⟨j, rfl, h3a⟩ := pI_inv h3
  obtain ⟨q, rfl, h4⟩ := pR_inv h3a
  obtain ⟨xs, h5, h6, h7⟩ := pA_inv h4
  obtain ⟨c0, rfl, hst0⟩ := sI hst
  obtain ⟨c0, rfl, hst0a⟩ := sI hst0
  obtain ⟨a, c1, ha, rfl, hst1⟩ := sR hst0a
  obtain ⟨a', e', ha', hws, htc⟩ := hw.2.2 q _ h5
  rw [ha] at ha'
  cases ha'
  cases htc
  have hlt : j.toNatClampNeg < xs.length := Nat.not_le.mp fun q => h6 (Or.inr q)
  refine va_iast hC.1 hC.2.1 hC.2.2.2.2.2.1 hP hD hS q 0 hws rfl h6 hd (fun H1 locs1 hP1 hD1 hS1 => ?_)
  rw [tc_upd hlt] at hP1 hD1
  exact h7 p e R s m args below meth c H1 locs1 cells slots mc ms Z A as0 bs _ cls _ hC hX (hw.set (pg_lt h5) ha (by show _ = _; rw [List.length_set])) hP1 hD1 hS1 hl hst1 hB hF
theorem ok_arraylength {mt : Nat → pM} {law : Nat} {M : pM} {il : Bool} {sc : List Int32} {pc : Nat} (hd : decode M.2.1 pc = .ok (.arraylength, 1)) : pOk mt law M il sc pc (oLen (pc + 1)) := by
  intro l D cI cO adK adV b B id ls st h Q hM hL hop p e R s m args below meth c H locs cells slots mc ms Z A as0 bs ws cls cst hC hX hw hP hD hS hl hst hB hF
  subst hM
  obtain ⟨v, r, rfl, h1⟩ := pPop_inv hop
  obtain ⟨q, rfl, h4⟩ := pR_inv h1
  obtain ⟨xs, h5, h7⟩ := pA_inv h4
  obtain ⟨a, c1, ha, rfl, hst1⟩ := sR hst
  obtain ⟨a', e', ha', hws, htc⟩ := hw.2.2 q _ h5
  rw [ha] at ha'
  cases ha'
  cases htc
  refine va_alen (v := nI xs.length) hC.1 hC.2.1 hC.2.2.2.2.2.1 hP q 0 hws rfl rfl hd ?_
  exact h7 p e R s m args below meth c H locs cells slots mc ms Z A as0 bs ws cls _ hC hX hw hP hD hS hl (sC rfl hst1) hB hF
theorem tc_refs {cI cO : ClassId} {sa : Nat → Option Nat} {as : List Nat} {fs : List Value} {e : va_E} (h : tc cI cO sa as (.inr (50, fs)) e) : ∃ f : Nat → Option Nat, e = .inl (cO, fs.length, .inr (.inr (.inr (.inr f)))) ∧ ∀ j v, pg fs j = some v → tv sa as v = some (va_rf (f j)) := h
theorem ok_aaload {mt : Nat → pM} {law : Nat} {M : pM} {il : Bool} {sc : List Int32} {pc : Nat} (hd : decode M.2.1 pc = .ok (.aaload, 1)) : pOk mt law M il sc pc (oLdA (pc + 1)) := by
  intro l D cI cO adK adV b B id ls st h Q hM hL hop p e R s m args below meth c H locs cells slots mc ms Z A as0 bs ws cls cst hC hX hw hP hD hS hl hst hB hF
  subst hM
  obtain ⟨v, r, rfl, h1⟩ := pPop_inv hop
  obtain ⟨a, r, rfl, h2⟩ := pPop_inv h1
  obtain ⟨j, rfl, h3⟩ := pI_inv h2
  obtain ⟨q, rfl, h4⟩ := pR_inv h3
  obtain ⟨fs, h5, h6, h7⟩ := pOb_inv h4
  obtain ⟨v, h8, h9⟩ := pSome_inv h7
  obtain ⟨i, rfl, h10⟩ := pR_inv h9
  obtain ⟨c0, rfl, hst0⟩ := sI hst
  obtain ⟨a, c1, ha, rfl, hst1⟩ := sR hst0
  obtain ⟨a', e', ha', hws, htc⟩ := hw.2.2 q _ h5
  rw [ha] at ha'
  cases ha'
  obtain ⟨f, rfl, hf⟩ := tc_refs htc
  refine va_aldq hC.1 hC.2.1 hC.2.2.2.2.2.1 hP q 1 hws rfl h6 hd ?_
  exact h10 p e R s m args below meth c H locs cells slots mc ms Z A as0 bs ws cls _ hC hX hw hP hD hS hl (sC (hf _ _ h8) hst1) hB hF
theorem ok_aastore {mt : Nat → pM} {law : Nat} {M : pM} {il : Bool} {sc : List Int32} {pc : Nat} (hd : decode M.2.1 pc = .ok (.aastore, 1)) : pOk mt law M il sc pc (oStA (pc + 1)) := by
  intro l D cI cO adK adV b B id ls st h Q hM hL hop p e R s m args below meth c H locs cells slots mc ms Z A as0 bs ws cls cst hC hX hw hP hD hS hl hst hB hF
  subst hM
  obtain ⟨v, r, rfl, h1⟩ := pPop_inv hop
  obtain ⟨a, r, rfl, h2⟩ := pPop_inv h1
  obtain ⟨a, r, rfl, h2a⟩ := pPop_inv h2
  obtain ⟨x, rfl, h3⟩ := pR_inv h2a
  obtain ⟨j, rfl, h3a⟩ := pI_inv h3
  obtain ⟨q, rfl, h4⟩ := pR_inv h3a
  obtain ⟨fs0, h5, h6⟩ := pOb_inv h4
  obtain ⟨fs, h7, h8, h9⟩ := pOb_inv h6
  obtain ⟨av, c0, hav, rfl, hst0⟩ := sR hst
  obtain ⟨c0, rfl, hst0a⟩ := sI hst0
  obtain ⟨a, c1, ha, rfl, hst1⟩ := sR hst0a
  obtain ⟨a', e', ha', hws, htc⟩ := hw.2.2 q _ h7
  rw [ha] at ha'
  cases ha'
  obtain ⟨a', e2, ha', hws2, htc2⟩ := hw.2.2 x _ h5
  rw [hav] at ha'
  cases ha'
  obtain ⟨f, rfl, hf⟩ := tc_refs htc
  obtain ⟨gs, rfl, hgs⟩ := tc_obj (r := (RX2, TX2, 7)) rfl htc2
  have hlt : j.toNatClampNeg < fs.length := Nat.not_le.mp fun q => h8 (Or.inr q)
  refine va_astq (r := (RX2, TX2, 7)) hC.1 hC.2.1 hC.2.2.2.2.2.1 hP hD hS q 1 x 2 hws rfl hws2 rfl h8 hd (fun H1 locs1 hP1 hD1 hS1 => ?_)
  exact h9 p e R s m args below meth c H1 locs1 cells slots mc ms Z A as0 bs _ cls _ hC hX (hw.set (pg_lt h7) ha (by
    refine ⟨_, by rw [List.length_set], fun k w hk => ?_⟩
    by_cases hkj : j.toNatClampNeg = k
    · subst hkj
      rw [pg_set _ hlt] at hk
      cases hk
      rw [tv, hav]
      simp [va_up, va_rf]
    · rw [pg_set_ne _ hkj] at hk
      rw [hf k w hk]
      simp [va_up, Ne.symm hkj])) hP1 hD1 hS1 hl hst1 hB hF
end
section
/-! New cells, the library's members, the script. -/
theorem ok_new {mt : Nat → pM} {law : Nat} {M : pM} {il : Bool} {sc : List Int32} {pc : Nat} {ci i N : Nat} {C : String} {T : u_T} {fs : List Value} (hd : decode M.2.1 pc = .ok (.new i, 3)) (hc : clsP[ci]? = some (C, T, N)) (hin : ∀ w ∈ u_ws C T N, w ∈ lw_good) (hty : ∀ k, k < N → parseFieldDescriptor (T k).2.2.1 = some (tyP ci k)) (hcl : Cond.classLink M.1.cls i C ∈ lw_good) (hinst : Cond.instantiable C N ∈ lw_good) (hini : Cond.initialized C ∈ lw_good) (hfs : ∀ j, j < N → defaultValue (tyP ci j) = vp_V fs j) (hN : fs.length = N) (hpl : ∀ sa as, fs.map (tv sa as) = fs.map some) : pOk mt law M il sc pc (oNew ci fs (pc + 3)) := by
  intro l D cI cO adK adV b B id ls st h Q hM hL hop p e R s m args below meth c H locs cells slots mc ms Z A as0 bs ws cls cst hC hX hw hP hD hS hl hst hB hF
  subst hM
  subst hN
  obtain ⟨⟨h1, h2⟩, h3⟩ := hop
  have hcx := hC.2.2.2.2.2.2.2.2.2.2
  refine va_new (ci := ci) (fs := fs) (C := C) (T := T) hC.1 hC.2.1 hC.2.2.2.2.1 hin (tyP ci) hty hC.2.2.2.1 (hC.2.2.2.2.1 _ hcl) (hC.2.2.2.2.1 _ hinst) (hC.2.2.2.2.1 _ hini) hC.2.2.2.2.2.1 hP hD hS hcx hc hfs (by omega) (by omega) hd (fun q H1 hP1 hD1 hS1 => ?_)
  have hw1 := hw.push (a := q) (c := .inr (ci, fs)) (e := .inr (ci, fs)) (tc_obj' hc (hpl _ _))
  have hq : pg (as0 ++ (bs ++ [q])) h.length = some q := by
    have hl2 : (as0 ++ bs).length = h.length := by rw [← hw.2.1, ← hw.1, List.length_map]
    rw [← List.append_assoc, pg_eq, List.getElem?_append_right (by omega), show h.length - (as0 ++ bs).length = 0 by omega]; rfl
  rw [List.append_assoc] at hw1
  exact h3 p e R s m args below meth c H1 locs (cells + 1) (slots + fs.length) mc ms Z A as0 (bs ++ [q]) _ cls _ hC hX hw1 hP1 hD1 hS1 (by rw [← List.append_assoc]; exact hl.app) (sC (by rw [tv, hq]; rfl) (by rw [← List.append_assoc]; exact tv_apps hst)) ⟨hB.1, hB.2.1, by show cells + 1 + (B.2.1 - 1) ≤ mc; omega, by show slots + fs.length + (B.2.2 - fs.length) ≤ ms; omega, hB.2.2.2.2⟩ hF
theorem va_K.sameI {D : va_G} {cl : List vw_C} {cI cO cA : ClassId} {U : State} (h : va_K D cl (pTys cI cO ++ [(cA, .int)]) U) : cA = cI := by
  have h1 : U.vm.findClass ("[" ++ FieldType.int.toString) = some cI := (h.2 0 _ rfl).2
  have h2 : U.vm.findClass ("[" ++ FieldType.int.toString) = some cA := (h.2 2 _ rfl).2
  rw [h1] at h2
  exact (Option.some.inj h2).symm
theorem va_K.sameO {D : va_G} {cl : List vw_C} {cI cO cA : ClassId} {U : State} (h : va_K D cl (pTys cI cO ++ [(cA, .object RX2)]) U) : cA = cO := by
  obtain ⟨k1, p1, -, -, -, h1⟩ := (h.2 1 _ rfl).2
  obtain ⟨k2, p2, -, -, -, h2⟩ := (h.2 2 _ rfl).2
  rw [h1] at h2
  exact (Option.some.inj h2).symm
theorem getD_rep (n j : Nat) : (List.replicate n (0 : Int32)).getD j 0 = 0 := by
  rw [List.getD_eq_getElem?_getD, List.getElem?_replicate]
  split <;> rfl
theorem ok_newarray {mt : Nat → pM} {law : Nat} {M : pM} {il : Bool} {sc : List Int32} {pc : Nat} (hd : decode M.2.1 pc = .ok (.newarray .int, 2)) (harr : Cond.arrayClass .int ∈ lw_good) : pOk mt law M il sc pc (oNewI (pc + 2)) := by
  intro l D cI cO adK adV b B id ls st h Q hM hL hop p e R s m args below meth c H locs cells slots mc ms Z A as0 bs ws cls cst hC hX hw hP hD hS hl hst hB hF
  subst hM
  obtain ⟨v, r, rfl, h1⟩ := pPop_inv hop
  obtain ⟨x, rfl, h2, ⟨h3, h4, h5⟩, h6⟩ := pI_inv h1
  obtain ⟨c0, rfl, hst0⟩ := sI hst
  have hcx := hC.2.2.2.2.2.2.2.2.2.2
  refine va_newa (atype := .int) (ty := .int) (N' := x.toNatClampNeg) (a0 := (x.toNatClampNeg, .inl (fun j => (List.replicate x.toNatClampNeg (0 : Int32)).getD j 0))) hC.1 hC.2.1 (hC.2.2.2.2.1 _ harr) rfl hC.2.2.2.2.2.1 hP hD hS hcx (fun cA => by simp only [getD_rep]; rfl) h2 rfl (by show x.toNatClampNeg * 4 ≤ _; omega) (by omega) (by omega) hd (fun q cA H1 hK1 hP1 hD1 hS1 => ?_)
  have hcA := va_K.sameI hK1
  subst hcA
  have hw1 := hw.push (a := q) (c := .inl (List.replicate x.toNatClampNeg 0)) (e := .inl (cA, x.toNatClampNeg, .inl (fun j => (List.replicate x.toNatClampNeg (0 : Int32)).getD j 0))) (by show _ = _; rw [List.length_replicate])
  have hq : pg (as0 ++ (bs ++ [q])) h.length = some q := by
    have hl2 : (as0 ++ bs).length = h.length := by rw [← hw.2.1, ← hw.1, List.length_map]
    rw [← List.append_assoc, pg_eq, List.getElem?_append_right (by omega), show h.length - (as0 ++ bs).length = 0 by omega]; rfl
  rw [List.append_assoc] at hw1
  exact h6 p e R s m args below meth c H1 locs (cells + 1) (slots + x.toNatClampNeg) mc ms Z A as0 (bs ++ [q]) _ cls _ hC hX hw1 hP1 hD1 hS1 (by rw [← List.append_assoc]; exact hl.app) (sC (by rw [tv, hq]; rfl) (by rw [← List.append_assoc]; exact tv_apps hst0)) ⟨hB.1, hB.2.1, by show cells + 1 + (B.2.1 - 1) ≤ mc; omega, by show slots + x.toNatClampNeg + (B.2.2 - x.toNatClampNeg) ≤ ms; omega, hB.2.2.2.2⟩ hF
theorem ok_anewarray {mt : Nat → pM} {law : Nat} {M : pM} {il : Bool} {sc : List Int32} {pc : Nat} {i : Nat} (hd : decode M.2.1 pc = .ok (.anewarray i, 3)) (hcl : Cond.classLink M.1.cls i RX2 ∈ lw_good) : pOk mt law M il sc pc (oNewA (pc + 3)) := by
  intro l D cI cO adK adV b B id ls st h Q hM hL hop p e R s m args below meth c H locs cells slots mc ms Z A as0 bs ws cls cst hC hX hw hP hD hS hl hst hB hF
  subst hM
  obtain ⟨v, r, rfl, h1⟩ := pPop_inv hop
  obtain ⟨x, rfl, h2, ⟨h3, h4, h5⟩, h6⟩ := pI_inv h1
  obtain ⟨c0, rfl, hst0⟩ := sI hst
  have hcx := hC.2.2.2.2.2.2.2.2.2.2
  refine va_newq (C := RX2) (N' := x.toNatClampNeg) hC.1 hC.2.1 hC.2.2.2.1 (hC.2.2.2.2.1 _ hcl) hC.2.2.2.2.2.2.2.2.2.1.1.2 hC.2.2.2.2.2.1 hP hD hS hcx h2 rfl (by omega) (by omega) (by omega) hd (fun q cA H1 hK1 hP1 hD1 hS1 => ?_)
  have hcA := va_K.sameO hK1
  subst hcA
  have hw1 := hw.push (a := q) (c := .inr (50, List.replicate x.toNatClampNeg .null)) (e := .inl (cA, x.toNatClampNeg, .inr (.inr (.inr (.inr (fun _ => none)))))) ⟨fun _ => none, by rw [List.length_replicate], fun j v hj => by
    rw [pg_eq, List.getElem?_replicate] at hj
    split at hj
    · cases hj; rfl
    · cases hj⟩
  have hq : pg (as0 ++ (bs ++ [q])) h.length = some q := by
    have hl2 : (as0 ++ bs).length = h.length := by rw [← hw.2.1, ← hw.1, List.length_map]
    rw [← List.append_assoc, pg_eq, List.getElem?_append_right (by omega), show h.length - (as0 ++ bs).length = 0 by omega]; rfl
  rw [List.append_assoc] at hw1
  exact h6 p e R s m args below meth c H1 locs (cells + 1) (slots + x.toNatClampNeg) mc ms Z A as0 (bs ++ [q]) _ cls _ hC hX hw1 hP1 hD1 hS1 (by rw [← List.append_assoc]; exact hl.app) (sC (by rw [tv, hq]; rfl) (by rw [← List.append_assoc]; exact tv_apps hst0)) ⟨hB.1, hB.2.1, by show cells + 1 + (B.2.1 - 1) ≤ mc; omega, by show slots + x.toNatClampNeg + (B.2.2 - x.toNatClampNeg) ≤ ms; omega, hB.2.2.2.2⟩ hF
theorem ok_obj {mt : Nat → pM} {law : Nat} {M : pM} {il : Bool} {sc : List Int32} {pc : Nat} {i : Nat} (hd : decode M.2.1 pc = .ok (.invokespecial i, 3)) (hl1 : Cond.methodLink M.1.cls i objectInit ∈ lw_good) (hl2 : Cond.instanceMethod objectInit ∈ lw_good) (hl3 : Cond.code objectInit ⟨#[0xb1]⟩ 1 none ∈ lw_good) : pOk mt law M il sc pc (oObj (pc + 3)) := by
  intro l D cI cO adK adV b B id ls st h Q hM hL hop p e R s m args below meth c H locs cells slots mc ms Z A as0 bs ws cls cst hC hX hw hP hD hS hl hst hB hF
  subst hM
  obtain ⟨v, r, rfl, h1⟩ := pPop_inv hop
  obtain ⟨x, rfl, ⟨h2, h3⟩, h4⟩ := pR_inv h1
  obtain ⟨a, c1, ha, rfl, hst1⟩ := sR hst
  have hts := hC.2.2.2.2.1
  refine W.objInit hC.1 hC.2.1 hC.2.2.2.1 (hts _ hl1) (hts _ hl2) (hts _ hl3) rfl (by rw [hC.2.2.1]; obtain ⟨-, lv, g, -⟩ := hl; exact g.1) rfl hd (by omega) (by
    rw [tv_cats hst1]
    show 2 * 0 + _ + 12 ≤ _
    omega) ?_
  exact h4 p e R s m args below meth c H locs cells slots mc ms Z A as0 bs ws cls _ hC hX hw hP hD hS hl hst1 hB hF
theorem ok_max {mt : Nat → pM} {law : Nat} {M : pM} {il : Bool} {sc : List Int32} {pc : Nat} {i : Nat} (hd : decode M.2.1 pc = .ok (.invokestatic i, 3)) (hl1 : Cond.methodLink M.1.cls i Lib.Math.max.name ∈ lw_good) (hl2 : Cond.static Lib.Math.max.name ∈ lw_good) (hl3 : Cond.initialized "java/lang/Math" ∈ lw_good) (hl4 : Cond.code Lib.Math.max.name Lib.Math.max.code 2 (some .int) ∈ lw_good) : pOk mt law M il sc pc (oMax (pc + 3)) := by
  intro l D cI cO adK adV b B id ls st h Q hM hL hop p e R s m args below meth c H locs cells slots mc ms Z A as0 bs ws cls cst hC hX hw hP hD hS hl hst hB hF
  subst hM
  obtain ⟨x, y, r, rfl, ⟨h1, h2⟩, h3⟩ := p2_inv hop
  obtain ⟨c1, rfl, hst1⟩ := sI hst
  obtain ⟨c2, rfl, hst2⟩ := sI hst1
  have hts := hC.2.2.2.2.1
  refine va_mmax hC.1 hC.2.1 (by rw [hC.2.2.1]; obtain ⟨-, lv, g, -⟩ := hl; exact g.1.symm) hC.2.2.2.1 (hts _ hl1) (hts _ hl2) (hts _ hl3) (hts _ hl4) (by omega) (by rw [tv_cats hst2]; omega) (by omega) (by omega) hd ?_
  exact h3 p e R s m args below meth c H locs cells slots mc ms Z A as0 bs ws cls _ hC hX hw hP hD hS hl (sC rfl hst2) hB hF
theorem ok_min {mt : Nat → pM} {law : Nat} {M : pM} {il : Bool} {sc : List Int32} {pc : Nat} {i : Nat} (hd : decode M.2.1 pc = .ok (.invokestatic i, 3)) (hl1 : Cond.methodLink M.1.cls i Lib.Math.min.name ∈ lw_good) (hl2 : Cond.static Lib.Math.min.name ∈ lw_good) (hl3 : Cond.initialized "java/lang/Math" ∈ lw_good) (hl4 : Cond.code Lib.Math.min.name Lib.Math.min.code 2 (some .int) ∈ lw_good) : pOk mt law M il sc pc (oMin (pc + 3)) := by
  intro l D cI cO adK adV b B id ls st h Q hM hL hop p e R s m args below meth c H locs cells slots mc ms Z A as0 bs ws cls cst hC hX hw hP hD hS hl hst hB hF
  subst hM
  obtain ⟨x, y, r, rfl, ⟨h1, h2⟩, h3⟩ := p2_inv hop
  obtain ⟨c1, rfl, hst1⟩ := sI hst
  obtain ⟨c2, rfl, hst2⟩ := sI hst1
  have hts := hC.2.2.2.2.1
  refine va_mmin hC.1 hC.2.1 (by rw [hC.2.2.1]; obtain ⟨-, lv, g, -⟩ := hl; exact g.1.symm) hC.2.2.2.1 (hts _ hl1) (hts _ hl2) (hts _ hl3) (hts _ hl4) (by omega) (by rw [tv_cats hst2]; omega) (by omega) (by omega) hd ?_
  exact h3 p e R s m args below meth c H locs cells slots mc ms Z A as0 bs ws cls _ hC hX hw hP hD hS hl (sC rfl hst2) hB hF
theorem getD_copy {xs ys : List Int32} {sp dp n : Nat} (h1 : sp + n ≤ xs.length) (h2 : dp + n ≤ ys.length) : va_cpy (fun j => xs.getD j 0) (fun j => ys.getD j 0) sp dp n = fun j => (pCopy xs ys sp dp n).getD j 0 := by
  funext j
  simp only [va_cpy, pCopy, List.getD_eq_getElem?_getD]
  have e1 : (ys.take dp).length = dp := by rw [List.length_take]; omega
  have e2 : ((xs.drop sp).take n).length = n := by rw [List.length_take, List.length_drop]; omega
  by_cases hj : j < dp
  · rw [if_neg (by omega), List.append_assoc, List.getElem?_append_left (by omega), List.getElem?_take_of_lt hj]
  · by_cases hj2 : j < dp + n
    · rw [if_pos (by omega), List.append_assoc, List.getElem?_append_right (by omega), List.getElem?_append_left (by omega), e1, List.getElem?_take_of_lt (by omega), List.getElem?_drop]
    · rw [if_neg (by omega), List.getElem?_append_right (by rw [List.length_append]; omega), List.length_append, e1, e2, List.getElem?_drop]
      rw [show dp + n + (j - (dp + n)) = j by omega]
theorem pCopy_len {xs ys : List Int32} {sp dp n : Nat} (h1 : sp + n ≤ xs.length) (h2 : dp + n ≤ ys.length) : (pCopy xs ys sp dp n).length = ys.length := by
  simp only [pCopy, List.length_append, List.length_take, List.length_drop]
  omega
theorem ok_copy {mt : Nat → pM} {law : Nat} {M : pM} {il : Bool} {sc : List Int32} {pc : Nat} {i : Nat} (hd : decode M.2.1 pc = .ok (.invokestatic i, 3)) (hl1 : Cond.methodLink M.1.cls i arraycopyName ∈ lw_good) (hl2 : Cond.native arraycopyName ∈ lw_good) (hl3 : Cond.static arraycopyName ∈ lw_good) (hl4 : Cond.initialized "java/lang/System" ∈ lw_good) : pOk mt law M il sc pc (oCopy (pc + 3)) := by
  intro l D cI cO adK adV b B id ls st h Q hM hL hop p e R s m args below meth c H locs cells slots mc ms Z A as0 bs ws cls cst hC hX hw hP hD hS hl hst hB hF
  subst hM
  obtain ⟨v, r, rfl, h1⟩ := pPop_inv hop
  obtain ⟨v, r, rfl, h1a⟩ := pPop_inv h1
  obtain ⟨v, r, rfl, h1b⟩ := pPop_inv h1a
  obtain ⟨v, r, rfl, h1c⟩ := pPop_inv h1b
  obtain ⟨v, r, rfl, h1d⟩ := pPop_inv h1c
  obtain ⟨n, rfl, h2⟩ := pI_inv h1d
  obtain ⟨dp, rfl, h3⟩ := pI_inv h2
  obtain ⟨d, rfl, h4⟩ := pR_inv h3
  obtain ⟨sp, rfl, h5⟩ := pI_inv h4
  obtain ⟨q, rfl, h6⟩ := pR_inv h5
  obtain ⟨xs, h7, h8⟩ := pA_inv h6
  obtain ⟨ys, h9, ⟨⟨g1, g2⟩, ⟨g3, g4, g5⟩, g6, g7⟩, g8⟩ := pA_inv h8
  obtain ⟨c1, rfl, hst1⟩ := sI hst
  obtain ⟨c2, rfl, hst2⟩ := sI hst1
  obtain ⟨ad, c3, had, rfl, hst3⟩ := sR hst2
  obtain ⟨c4, rfl, hst4⟩ := sI hst3
  obtain ⟨aq, c5, haq, rfl, hst5⟩ := sR hst4
  obtain ⟨a', e', ha', hws, htc⟩ := hw.2.2 q _ h7
  rw [haq] at ha'
  cases ha'
  cases htc
  obtain ⟨a', e', ha', hws2, htc⟩ := hw.2.2 d _ h9
  rw [had] at ha'
  cases ha'
  cases htc
  have hts := hC.2.2.2.2.1
  refine va_copyi (ty := .int) hC.1 hC.2.1 (by rw [hC.2.2.1]; obtain ⟨-, lv, g, -⟩ := hl; exact g.1.symm) hC.2.2.2.1 (hts _ hl1) (hts _ hl2) (hts _ hl3) (hts _ hl4) hC.2.2.2.2.2.1 hP hD hS q d 0 0 hws hws2 rfl rfl rfl g3 g4 g5 g6 g7 (fun _ _ => rfl) (by omega) (by
    rw [tv_cats hst5]
    have : nativeFrameWords "java/lang/System" "arraycopy" 5 ≤ 40 := by decide
    omega) hd (fun H1 locs1 hP1 hD1 hS1 => ?_)
  rw [getD_copy g6 g7] at hP1 hD1
  exact g8 p e R s m args below meth c H1 locs1 cells slots mc ms Z A as0 bs _ cls _ hC hX (hw.set (pg_lt h9) had (by show _ = _; rw [pCopy_len g6 g7])) hP1 hD1 hS1 hl hst5 hB hF
theorem ok_sld {mt : Nat → pM} {law : Nat} {M : pM} {sc : List Int32} {pc : Nat} (hd : decode M.2.1 pc = .ok (.iaload, 1)) : pOk mt law M true sc pc (oSld sc (pc + 1)) := by
  intro l D cI cO adK adV b B id ls st h Q hM hL hop p e R s m args below meth c H locs cells slots mc ms Z A as0 bs ws cls cst hC hX hw hP hD hS hl hst hB hF
  subst hM
  obtain ⟨v, r, rfl, h1⟩ := pPop_inv hop
  obtain ⟨a, r, rfl, h1a⟩ := pPop_inv h1
  obtain ⟨j, rfl, ⟨rfl, h2⟩, h3⟩ := pI_inv h1a
  obtain ⟨c0, rfl, hst0⟩ := sI hst
  obtain ⟨w, c1, rfl, hv, hst1⟩ := sV hst0
  have hv2 : w = .ref b := by simp [tv, pSa] at hv; exact hv.symm
  subst hv2
  obtain ⟨x1, x2, x3⟩ := hX (hL rfl)
  refine va_sld hC.1 hC.2.1 x1 x2 x3 hS h2 hd ?_
  exact h3 p e R s m args below meth c H locs cells slots mc ms Z A as0 bs ws cls _ hC hX hw hP hD hS hl (sC rfl hst1) hB hF
theorem ok_slen {mt : Nat → pM} {law : Nat} {M : pM} {sc : List Int32} {pc : Nat} (hd : decode M.2.1 pc = .ok (.arraylength, 1)) : pOk mt law M true sc pc (oSlen sc (pc + 1)) := by
  intro l D cI cO adK adV b B id ls st h Q hM hL hop p e R s m args below meth c H locs cells slots mc ms Z A as0 bs ws cls cst hC hX hw hP hD hS hl hst hB hF
  subst hM
  obtain ⟨v, r, rfl, rfl, h3⟩ := pPop_inv hop
  obtain ⟨w, c1, rfl, hv, hst1⟩ := sV hst
  have hv2 : w = .ref b := by simp [tv, pSa] at hv; exact hv.symm
  subst hv2
  obtain ⟨x1, x2, x3⟩ := hX (hL rfl)
  refine va_slen hC.1 hC.2.1 x1 x2 x3 hS hd ?_
  exact h3 p e R s m args below meth c H locs cells slots mc ms Z A as0 bs ws cls _ hC hX hw hP hD hS hl (sC rfl hst1) hB hF
end
section
/-! A callee's heap in its caller's: the lists. -/
def lput {α : Type} : List Nat → List α → List α → List α
  | i :: ρ, x :: xs, l => lput ρ xs (l.set i x)
  | [], x :: xs, l => lput [] xs (l ++ [x])
  | _, [], l => l
theorem hput_eq (ρ' : List Nat) : ∀ (ρ : List Nat) (h' h : pH), hput ρ' ρ h' h = lput ρ (h'.map (rnc ρ')) h
  | [], [], h => by simp [hput, lput]
  | i :: ρ, [], h => by simp [hput, lput]
  | i :: ρ, c :: h', h => by rw [hput, List.map_cons, lput, hput_eq ρ' ρ h']
  | [], c :: h', h => by rw [hput, List.map_cons, lput, hput_eq ρ' [] h']
theorem lput_nil {α : Type} : ∀ (xs l : List α), lput [] xs l = l ++ xs
  | [], l => by simp [lput]
  | x :: xs, l => by rw [lput, lput_nil xs]; simp
theorem lput_map {α β : Type} (f : α → β) : ∀ (ρ : List Nat) (xs l : List α), (lput ρ xs l).map f = lput ρ (xs.map f) (l.map f)
  | [], xs, l => by rw [lput_nil, lput_nil, List.map_append]
  | i :: ρ, [], l => by simp [lput]
  | i :: ρ, x :: xs, l => by rw [lput, List.map_cons, lput, lput_map f ρ xs, List.map_set]
theorem lput_len {α : Type} : ∀ (ρ : List Nat) (xs l : List α), ρ.length ≤ xs.length → (lput ρ xs l).length = l.length + (xs.length - ρ.length)
  | [], xs, l, _ => by rw [lput_nil, List.length_append]; simp
  | i :: ρ, [], l, h => by simp at h
  | i :: ρ, x :: xs, l, h => by
    rw [lput, lput_len ρ xs _ (by simpa using h), List.length_set]
    simp
theorem lput_other {α : Type} : ∀ (ρ : List Nat) (xs l : List α) (i : Nat), i ∉ ρ → i < l.length → (lput ρ xs l)[i]? = l[i]?
  | [], xs, l, i, _, hi => by rw [lput_nil, List.getElem?_append_left hi]
  | j :: ρ, [], l, i, _, hi => by simp [lput]
  | j :: ρ, x :: xs, l, i, h, hi => by
    rw [List.mem_cons, not_or] at h
    rw [lput, lput_other ρ xs _ i h.2 (by rw [List.length_set]; exact hi), List.getElem?_set_ne (fun q => h.1 q.symm)]
theorem lput_at {α : Type} : ∀ (ρ : List Nat) (xs l : List α) (k i : Nat), va_nd ρ = true → ρ[k]? = some i → i < l.length → ρ.length ≤ xs.length → (lput ρ xs l)[i]? = xs[k]?
  | [], xs, l, k, i, _, hk, _, _ => by simp at hk
  | j :: ρ, [], l, k, i, _, _, _, h => by simp at h
  | j :: ρ, x :: xs, l, 0, i, hn, hk, hi, h => by
    simp only [va_nd, Bool.and_eq_true, decide_eq_true_eq] at hn
    cases hk
    rw [lput, lput_other ρ xs _ j hn.1 (by rw [List.length_set]; exact hi), List.getElem?_set_self hi]
    rfl
  | j :: ρ, x :: xs, l, k + 1, i, hn, hk, hi, h => by
    simp only [va_nd, Bool.and_eq_true, decide_eq_true_eq] at hn
    rw [List.getElem?_cons_succ] at hk ⊢
    rw [lput]
    exact lput_at ρ xs _ k i hn.2 hk (by rw [List.length_set]; exact hi) (by simpa using h)
theorem lput_new {α : Type} : ∀ (ρ : List Nat) (xs l : List α) (i : Nat), ρ.length ≤ xs.length → l.length ≤ i → (lput ρ xs l)[i]? = xs[ρ.length + (i - l.length)]?
  | [], xs, l, i, _, hi => by rw [lput_nil, List.getElem?_append_right hi]; simp
  | j :: ρ, [], l, i, h, _ => by simp at h
  | j :: ρ, x :: xs, l, i, h, hi => by
    rw [lput, lput_new ρ xs _ i (by simpa using h) (by rw [List.length_set]; exact hi), List.length_set, List.length_cons, show ρ.length + 1 + (i - l.length) = (ρ.length + (i - l.length)) + 1 by omega, List.getElem?_cons_succ]
/-- every place of what comes back: a cell of the callee, or one that it didn't have -/
theorem lput_cases {α : Type} {ρ : List Nat} {xs l : List α} {i : Nat} {x : α} (hn : va_nd ρ = true) (hl : ∀ i ∈ ρ, i < l.length) (h : ρ.length ≤ xs.length) (hi : (lput ρ xs l)[i]? = some x) : (∃ k : Nat, (ρ ++ List.range' l.length (xs.length - ρ.length))[k]? = some i ∧ xs[k]? = some x) ∨ (i ∉ ρ ∧ i < l.length ∧ l[i]? = some x) := by
  by_cases h1 : i ∈ ρ
  · obtain ⟨k, hk⟩ := List.getElem?_of_mem h1
    refine Or.inl ⟨k, by rw [List.getElem?_append_left (List.getElem?_eq_some_iff.mp hk).1]; exact hk, ?_⟩
    rw [lput_at ρ xs l k i hn hk (hl i h1) h] at hi
    exact hi
  · by_cases h2 : i < l.length
    · rw [lput_other ρ xs l i h1 h2] at hi
      exact Or.inr ⟨h1, h2, hi⟩
    · rw [lput_new ρ xs l i h (by omega)] at hi
      have h3 := (List.getElem?_eq_some_iff.mp hi).1
      refine Or.inl ⟨ρ.length + (i - l.length), ?_, hi⟩
      rw [List.getElem?_append_right (by omega), List.getElem?_range' (by omega)]
      congr 1
      omega
theorem lput_self {α : Type} : ∀ (ρ : List Nat) (xs : List α) (nb l : List α), ρ.map (fun i => l[i]?) = xs.map some → lput ρ (xs ++ nb) l = l ++ nb
  | [], [], nb, l, _ => by rw [List.nil_append, lput_nil]
  | [], _ :: _, _, _, h => by simp at h
  | _ :: _, [], _, _, h => by simp at h
  | i :: ρ, x :: xs, nb, l, h => by
    simp only [List.map_cons, List.cons.injEq] at h
    have e : l.set i x = l := by
      apply List.ext_getElem?
      intro j
      by_cases hj : i = j
      · subst hj
        have hl := (List.getElem?_eq_some_iff.mp h.1).1
        rw [List.getElem?_set_self hl, h.1]
      · rw [List.getElem?_set_ne hj]
    rw [List.cons_append, lput, e]
    exact lput_self ρ xs nb l h.2
theorem map_exists {α β : Type} {f : α → Option β} : ∀ (l : List α), (∀ a ∈ l, ∃ b, f a = some b) → ∃ r : List β, l.map f = r.map some
  | [], _ => ⟨[], rfl⟩
  | a :: l, h => by
    obtain ⟨b, hb⟩ := h a List.mem_cons_self
    obtain ⟨r, hr⟩ := map_exists l (fun x hx => h x (List.mem_cons_of_mem _ hx))
    exact ⟨b :: r, by rw [List.map_cons, List.map_cons, hb, hr]⟩
theorem map_at {α β : Type} {f : α → Option β} {l : List α} {r : List β} (h : l.map f = r.map some) {k : Nat} {b : β} (hb : r[k]? = some b) : ∃ a, l[k]? = some a ∧ f a = some b := by
  have h1 : (r.map some)[k]? = some (some b) := by rw [List.getElem?_map, hb]; rfl
  rw [← h, List.getElem?_map] at h1
  cases ha : l[k]? with
  | none => rw [ha] at h1; cases h1
  | some a => rw [ha] at h1; exact ⟨a, rfl, Option.some.inj h1⟩
/-- the callee's references, and the caller's: inwards -/
theorem tv_in {sa : Nat → Option Nat} (h99 : sa 99999 = none) {as asc ρ : List Nat} (ha : ρ.map (pg as) = asc.map some) {v w : Value} (h : tv sa as (rnv ρ v) = some w) : tv sa asc v = some w := by
  cases v with
  | ref j =>
    simp only [rnv] at h
    cases hj : pg ρ j with
    | none => rw [hj] at h; simp [tv, h99] at h
    | some i =>
      rw [hj] at h
      obtain ⟨a, h1, h2⟩ := pg_map ha hj
      simp only [tv, h2, Option.map_some] at h
      simp only [tv, h1, Option.map_some]
      exact h
  | _ => exact h
theorem tv_ins {sa : Nat → Option Nat} (h99 : sa 99999 = none) {as asc ρ : List Nat} (ha : ρ.map (pg as) = asc.map some) : ∀ {vs ws : List Value}, (vs.map (rnv ρ)).map (tv sa as) = ws.map some → vs.map (tv sa asc) = ws.map some
  | [], [], _ => rfl
  | [], _ :: _, h => by simp at h
  | _ :: _, [], h => by simp at h
  | v :: vs, w :: ws, h => by
    simp only [List.map_cons, List.cons.injEq] at h ⊢
    exact ⟨tv_in h99 ha h.1, tv_ins h99 ha h.2⟩
theorem tc_in {cI cO : ClassId} {sa : Nat → Option Nat} (h99 : sa 99999 = none) {as asc ρ : List Nat} (ha : ρ.map (pg as) = asc.map some) {c : pC} {e : va_E} (h : tc cI cO sa as (rnc ρ c) e) : tc cI cO sa asc c e := by
  cases c with
  | inl xs => exact h
  | inr o =>
    simp only [tc, rnc] at h ⊢
    split at h
    · rename_i h50
      obtain ⟨f, h1, h2⟩ := h
      rw [if_pos h50]
      refine ⟨f, by rw [h1, List.length_map], fun j v hj => tv_in h99 ha (h2 j (rnv ρ v) ?_)⟩
      rw [pg_eq] at hj ⊢
      rw [List.getElem?_map, hj]; rfl
    · rename_i h50
      obtain ⟨gs, h1, h2⟩ := h
      rw [if_neg h50]
      exact ⟨gs, h1, tv_ins h99 ha h2⟩
/-- outwards -/
theorem tv_out {sa : Nat → Option Nat} {as as2 ρ : List Nat} (ha : ∀ j i, pg ρ j = some i → pg as2 j = pg as i) (hl : as2.length ≤ ρ.length) {v w : Value} (h : tv sa as2 v = some w) : tv sa as (rnv ρ v) = some w := by
  cases v with
  | ref j =>
    simp only [tv, Option.map_eq_some_iff] at h
    obtain ⟨a, h1, h2⟩ := h
    have hj : j < ρ.length := Nat.lt_of_lt_of_le (pg_lt h1) hl
    have hp : pg ρ j = some ρ[j] := by rw [pg_eq, List.getElem?_eq_getElem hj]
    simp only [rnv, hp, tv, Option.map_eq_some_iff]
    exact ⟨a, by rw [← ha j _ hp]; exact h1, h2⟩
  | _ => exact h
theorem tv_outs {sa : Nat → Option Nat} {as as2 ρ : List Nat} (ha : ∀ j i, pg ρ j = some i → pg as2 j = pg as i) (hl : as2.length ≤ ρ.length) : ∀ {vs ws : List Value}, vs.map (tv sa as2) = ws.map some → (vs.map (rnv ρ)).map (tv sa as) = ws.map some
  | [], [], _ => rfl
  | [], _ :: _, h => by simp at h
  | _ :: _, [], h => by simp at h
  | v :: vs, w :: ws, h => by
    simp only [List.map_cons, List.cons.injEq] at h ⊢
    exact ⟨tv_out ha hl h.1, tv_outs ha hl h.2⟩
theorem tc_out {cI cO : ClassId} {sa : Nat → Option Nat} {as as2 ρ : List Nat} (ha : ∀ j i, pg ρ j = some i → pg as2 j = pg as i) (hl : as2.length ≤ ρ.length) {c : pC} {e : va_E} (h : tc cI cO sa as2 c e) : tc cI cO sa as (rnc ρ c) e := by
  cases c with
  | inl xs => exact h
  | inr o =>
    simp only [tc, rnc] at h ⊢
    split at h
    · rename_i h50
      obtain ⟨f, h1, h2⟩ := h
      rw [if_pos h50]
      refine ⟨f, by rw [h1, List.length_map], fun j v hj => ?_⟩
      rw [pg_eq, List.getElem?_map] at hj
      cases hv : o.2[j]? with
      | none => rw [hv] at hj; cases hj
      | some u =>
        rw [hv] at hj
        cases hj
        exact tv_out ha hl (h2 j u (by rw [pg_eq]; exact hv))
    · rename_i h50
      obtain ⟨gs, h1, h2⟩ := h
      rw [if_neg h50]
      exact ⟨gs, h1, tv_outs ha hl h2⟩
end
section
/-! Calls. -/
theorem pNest.go {s U : State} (hW : s.WarmedH U.vm) (h : pNest s) : pNest U := ⟨fun q hq => (h.1 q hq).warmM hW, h.2.moved hW.alike⟩
theorem pExt.go {adK adV : Nat → Nat} {A A' : Nat → Prop} {s U : State} {H : Heap} {locs : List Loc} (h : pExt adK adV A s) (hS : va_S A s.heap H locs) (hU : U.heap = H) (hW : s.WarmedH U.vm) (hA : ∀ q, A' q → A q) : pExt adK adV A' U := by
  obtain ⟨h0, ⟨h1, h2, h3, h4, h5⟩, h6⟩ := h
  refine ⟨h0.go hW, ⟨h1.warm hW, h2.warm hW, h3.warm hW, h4.warm hW, h5.warm hW⟩, ?_⟩
  rw [hU]
  exact ((h6.kept hS.2.1).moved hW.alike).narrow hA
theorem pExt.blind {adK adV : Nat → Nat} {A : Nat → Prop} {U : State} {g : JFrame} {mk : MethodId} {a : Array Value} (h : pExt adK adV A U) : pExt adK adV A (U.calling g mk a) := by
  obtain ⟨⟨h0, h00⟩, ⟨h1, h2, h3, h4, h5⟩, h6⟩ := h
  refine ⟨⟨fun q hq => (h0 q hq).same rfl rfl, ?_⟩, ⟨h1.same rfl, h2.same rfl, h3.same rfl, h4.same rfl, h5.same rfl⟩, ?_⟩
  · exact va_AO.moved (u := U) (U := U.calling g mk a) (Vm.Alike.refl U.vm) h00
  · exact vk_S.moved (u := U) (U := U.calling g mk a) (Vm.Alike.refl U.vm) h6
/-- a callee's start -/
def pPre (D : va_G) (cI cO : ClassId) (adK adV : Nat → Nat) (wc : va_W) (sz : Nat) (U : State) : Prop := U.heap.size = sz ∧ va_P D clsP wc U.heap ∧ va_K D clsP (pTys cI cO) U ∧ va_D (fun _ => True) wc ∧ pExt adK adV (va_A wc sz) U
/-- and its end -/
def pPost (D : va_G) (cI cO : ClassId) (adK : Nat → Nat) (b : Nat) (asc : List Nat) (wc : va_W) (sz : Nat) (Qc : pQ) : Array Value → State → Outcome → State → Prop := fun _ st oc t =>
  (∃ (r : Option Value) (h' : pH) (nb : List Nat) (ws' : va_W), oc = .returned r ∧ Qc r h' ∧ (r = none ∨ (∃ x, r = some (.int x)) ∨ ∃ x, r = some (.long x)) ∧ wR cI cO (pSa adK b) (asc ++ nb) h' ws' ∧ va_P D clsP ws' t.heap ∧ va_D (va_A wc sz) ws') ∧ va_F (va_A wc sz) st t
abbrev pRm (d k z : Nat) : Room := { frames := d, cells := k, slots := z, locals := 60 * d }
theorem pEnt_args {sa : Nat → Option Nat} {as : List Nat} : ∀ (av avc : List Value) (o : Nat), av.map (tv sa as) = avc.map some → (∀ v ∈ av, ∀ x, v ≠ .double x) → (pEnt av).length = (lg_sl avc).length ∧ ∀ i v, pg (pEnt av) i = some (some v) → ∃ w, tv sa as v = some w ∧ (o + i, w) ∈ lv_args o avc
  | [], [], o, _, _ => ⟨rfl, fun i v h => by simp [pEnt, pg] at h⟩
  | [], _ :: _, o, h, _ => by simp at h
  | _ :: _, [], o, h, _ => by simp at h
  | v :: av, w :: avc, o, h, hd => by
    simp only [List.map_cons, List.cons.injEq] at h
    obtain ⟨h1, h2⟩ := h
    have hc := tv_cat h1
    by_cases hv : ∃ x, v = .long x
    · obtain ⟨x, rfl⟩ := hv
      have hc2 : w.category = 2 := hc
      obtain ⟨g1, g2⟩ := pEnt_args av avc (o + 2) h2 (fun v hv => hd v (List.mem_cons_of_mem _ hv))
      refine ⟨?_, fun i u hi => ?_⟩
      · simp only [pEnt, lg_sl, List.flatMap_cons, hc2, if_true, List.length_append, List.length_cons]
        rw [g1]
        simp [lg_sl]
        omega
      · simp only [lv_args, hc2, if_true]
        match i, hi with
        | 0, hi => simp only [pEnt, pg, Option.some.injEq] at hi; subst hi; exact ⟨w, h1, List.mem_cons_self⟩
        | 1, hi => simp [pEnt, pg] at hi
        | i + 2, hi =>
          obtain ⟨z, q1, q2⟩ := g2 i u hi
          exact ⟨z, q1, List.mem_cons_of_mem _ (by rw [show o + (i + 2) = o + 2 + i by omega]; exact q2)⟩
    · have hc2 : ¬ w.category = 2 := by
        rw [hc]
        cases v with
        | long x => exact absurd ⟨x, rfl⟩ hv
        | double x => exact absurd rfl (hd (.double x) List.mem_cons_self x)
        | _ => simp [Value.category]
      have he : pEnt (v :: av) = some v :: pEnt av := by
        cases v with
        | long x => exact absurd ⟨x, rfl⟩ hv
        | _ => rfl
      obtain ⟨g1, g2⟩ := pEnt_args av avc (o + 1) h2 (fun v hv => hd v (List.mem_cons_of_mem _ hv))
      rw [he]
      refine ⟨?_, fun i u hi => ?_⟩
      · simp only [lg_sl, List.flatMap_cons, hc2, if_false, List.length_append, List.length_cons]
        rw [g1]
        simp [lg_sl]
        omega
      · simp only [lv_args, hc2, if_false]
        match i, hi with
        | 0, hi => simp only [pg, Option.some.injEq] at hi; subst hi; exact ⟨w, h1, List.mem_cons_self⟩
        | i + 1, hi =>
          obtain ⟨z, q1, q2⟩ := g2 i u hi
          exact ⟨z, q1, List.mem_cons_of_mem _ (by rw [show o + (i + 1) = o + 1 + i by omega]; exact q2)⟩
theorem pEntry_lR {sa : Nat → Option Nat} {as : List Nat} {av avc : List Value} {n : Nat} (h : av.map (tv sa as) = avc.map some) (hd : ∀ v ∈ av, ∀ x, v ≠ .double x) (hn : (pEnt av).length ≤ n) : lR sa as (pEntry av n) n ((lg_sl avc ++ List.replicate (n - (lg_sl avc).length) Slot.unset).toArray) := by
  obtain ⟨g1, g2⟩ := pEnt_args av avc 0 h hd
  refine ⟨by rw [pEntry, List.length_append, List.length_replicate]; omega, _, lv_entry avc (by omega), fun i v hi => ?_⟩
  by_cases hl : i < (pEnt av).length
  · rw [pEntry, pg_eq, List.getElem?_append_left hl, ← pg_eq] at hi
    obtain ⟨w, q1, q2⟩ := g2 i v hi
    rw [Nat.zero_add] at q2
    exact ⟨w, q1, q2⟩
  · rw [pEntry, pg_eq, List.getElem?_append_right (by omega), List.getElem?_replicate] at hi
    split at hi <;> cases hi
/-- THE CALLEE'S CONTRACT, out of what its pure start says -/
theorem pMet {mt : Nat → pM} {law : Nat} {l : Launch} {D : va_G} {cI cO : ClassId} {adK adV : Nat → Nat} {b : Nat} {sc : List Int32} {cid d k z sz : Nat} {av avc : List Value} {hc : pH} {Qc : pQ} {asc : List Nat} {wc : va_W} {M : pM} (hM : mt cid = M) (hlaw : cid ≠ law) (hy : plainName M.1.cls = true) (hsnd : pSnd mt law l D cI cO adK adV b sc (d, k, z) cid 0 (pEntry av M.2.2.1) [] hc Qc) (hw : wR cI cO (pSa adK b) asc hc wc) (hav : av.map (tv (pSa adK b) asc) = avc.map some) (hd : ∀ v ∈ av, ∀ x, v ≠ .double x) (hn : (pEnt av).length ≤ M.2.2.1) :
    Met l M.1 (.code M.1 M.2.1 M.2.2.1 M.2.2.2 :: lw_good) (pRm d k z) (va_Pc avc (pPre D cI cO adK adV wc sz)) (pPost D cI cO adK b asc wc sz Qc) k z (va_A wc sz) := by
  subst hM
  refine Met.ofW (cc := (mt cid).2.1) (maxL := (mt cid).2.2.1) (ret := (mt cid).2.2.2) hy rfl ?_
  intro p e s m args below meth c s₁ B hml hv
  obtain ⟨rfl, hsz, hP, hK, hD0, hE⟩ := hv
  have hts := atoms_spec (ws := (Cond.code (mt cid).1 (mt cid).2.1 (mt cid).2.2.1 (mt cid).2.2.2 :: lw_good)) B.pre
  have hown : s.vm.findClass (mt cid).1.cls = some m.cls := findClass_of_methodNamed B.named
  have hlocks : meth.locks = false := B.notSynchronized
  subst hsz
  have hD := hD0.self (sz := s.heap.size)
  have hA : ∀ q : Nat, s.heap.size ≤ q → va_A wc s.heap.size q := fun q h => Or.inr h
  rw [lg_entry_eq]
  have hw2 : wR cI cO (pSa adK b) (asc ++ []) hc wc := by rw [List.append_nil]; exact hw
  have hav2 : av.map (tv (pSa adK b) (asc ++ [])) = avc.map some := by rw [List.append_nil]; exact hav
  refine hsnd p e (headSpec (Cond.code (mt cid).1 (mt cid).2.1 (mt cid).2.2.1 (mt cid).2.2.2 :: lw_good) (pRm d k z)).room s m avc.toArray below meth c s.heap [] 0 0 k z _ (va_A wc s.heap.size) asc [] wc _ [] ⟨B.exec, B.bytes, hml, hown, fun w h => hts w (List.mem_cons_of_mem _ h), hK, (name_of_methodNamed B.named B.method).1, B.returns, hlocks, hE, hA⟩ (fun q => absurd q hlaw) hw2 hP hD va_S.rf (pEntry_lR hav2 hd hn) rfl ⟨Nat.le_refl d, Nat.le_refl _, by show 0 + k ≤ k; omega, by show 0 + z ≤ z; omega, Nat.le_refl k, Nat.le_refl z⟩ ?_
  intro r h' bs ws H locs cells slots cls pc hq hr hw' hP' hD' hS' hk hz
  refine W.widen (k := k) (n := z) hk hz ?_
  rcases hr with ⟨hd1, hr1, rfl⟩ | ⟨hd1, ty, x, hr1, hnr, rfl⟩ | ⟨hd1, hr1, x, rfl⟩
  · exact W.vret B.exec B.bytes (B.returns.trans hr1) (fun t ht hW => ⟨⟨none, h', bs, ws, rfl, hq, Or.inl rfl, hw', by rw [ht]; exact hP', hD'⟩, hS'.F ht⟩) hS'.2.2 hd1
  · exact W.zret (v := x) B.exec B.bytes (B.returns.trans hr1) hnr (fun t ht hW => ⟨⟨some (.int x), h', bs, ws, rfl, hq, Or.inr (Or.inl ⟨x, rfl⟩), hw', by rw [ht]; exact hP', hD'⟩, hS'.F ht⟩) hS'.2.2 hd1
  · exact W.lret (v := x) B.exec B.bytes (B.returns.trans hr1) (fun t ht hW => ⟨⟨some (.long x), h', bs, ws, rfl, hq, Or.inr (Or.inr ⟨x, rfl⟩), hw', by rw [ht]; exact hP', hD'⟩, hS'.F ht⟩) hS'.2.2 hd1
theorem pBlind {D : va_G} {cI cO : ClassId} {adK adV : Nat → Nat} {wc : va_W} {sz : Nat} {avc : List Value} : FrameBlind (va_Pc avc (pPre D cI cO adK adV wc sz)) := by
  intro a U g mk h
  obtain ⟨h1, h2, h3, h4, h5, h6⟩ := h
  exact ⟨h1, h2, h3, va_K.moved (u := U) (U := U.calling g mk a) (Vm.Alike.refl U.vm) h4, h5, h6.blind⟩
end
section
/-! Calls: behind the call; the kinds of calls. -/
theorem pNoD_ok : ∀ (av : List Value), pNoD av = true → ∀ v ∈ av, ∀ x, v ≠ .double x
  | [], _, v, hv, _ => by cases hv
  | u :: av, h, v, hv, x => by
    have h2 : pNoD av = true := by
      cases u with
      | double y => cases h
      | _ => exact h
    rcases List.mem_cons.mp hv with rfl | hv
    · intro q; subst q; cases h
    · exact pNoD_ok av h2 v hv x
theorem good_in {ws : List Cond} (h : ∀ w ∈ ws, w ∈ lw_good) : GoodIn lw_good ws := fun w hw => ⟨h w hw, good_of_word (List.mem_filter.mp (h w hw)).2⟩
theorem pAfter {mt : Nat → pM} {law : Nat} {l : Launch} {D : va_G} {cI cO : ClassId} {adK adV : Nat → Nat} {b : Nat} {sc : List Int32} {B : pB} {id pc : Nat} {ls : pL} {strest : List Value} {h : pH} {Q : pQ} {p : Program} {e : Env} {R : Room} {s : State} {m : MethodId} {args : Array Value} {below : List Frame} {meth : Method} {c : Code} {H : Heap} {locs : List Loc} {cells slots mc ms : Nat} {Z : State → Prop} {A : Nat → Prop} {as0 bs : List Nat} {ws : va_W} {cls : Array Slot} {cst crest avc : List Value} {ρ asc : List Nat} {wc : va_W} {k z : Nat} {Qc : pQ}
    (hr : va_Run p l e R s m args below meth c H locs cells slots k z (F0 m pc cls cst) crest (pPost D cI cO adK b asc wc H.size Qc avc.toArray) (va_A wc H.size))
    (hC : pCtx l D cI cO adK adV (mt id) p s m args meth c A) (hX : id = law → va_X b sc.length (fun j => sc.getD j 0) s s.heap ∧ b < s.heap.size ∧ ¬ A b) (hw : wR cI cO (pSa adK b) (as0 ++ bs) h ws) (hP : va_P D clsP ws H) (hD : va_D A ws) (hS : va_S A s.heap H locs) (hl : lR (pSa adK b) (as0 ++ bs) ls (mt id).2.2.1 cls) (hrest : strest.map (tv (pSa adK b) (as0 ++ bs)) = crest.map some) (hB : B.1 ≤ R.frames ∧ 60 * B.1 ≤ R.locals ∧ cells + B.2.1 ≤ mc ∧ slots + B.2.2 ≤ ms ∧ mc ≤ R.cells ∧ ms ≤ R.slots) (hF : pFin l D cI cO adK b (mt id) p e R s m args below meth c A as0 mc ms Q Z)
    (hn : va_nd ρ = true) (ha : ρ.map (pg (as0 ++ bs)) = asc.map some) (hwc : ρ.map (fun i => ws[i]?) = wc.map some) (hkz : k ≤ B.2.1 ∧ z ≤ B.2.2)
    (kk : ∀ r h', Qc r h' → ρ.length ≤ h'.length ∧ pSnd mt law l D cI cO adK adV b sc (B.1, B.2.1 - k, B.2.2 - z) id (pc + 3) ls (rpush (rext ρ h.length h') r strest) (hput (rext ρ h.length h') ρ h' h) Q) :
    W p l e R s m args below meth c H locs cells slots Z (F0 m pc cls cst) := by
  intro T hT X
  obtain ⟨v, st₀, t, T', L, h0, X', hL, e1, e2, ⟨⟨r, h', nb, ws', hv, hq, hrk, hw', hP', hD'⟩, hz, hk⟩, stp⟩ := hr T hT X
  cases hv
  rw [h0] at hz hk
  obtain ⟨hlen, hsnd⟩ := kk v h' hq
  have hA := hC.2.2.2.2.2.2.2.2.2.2
  have hfree := va_free hD hS hA ρ hwc
  have lws : ws.length = h.length := hw.2.1
  have las : (as0 ++ bs).length = h.length := by rw [← hw.2.1, ← hw.1, List.length_map]
  have lasc : asc.length = ρ.length := by have := congrArg List.length ha; simpa using this.symm
  have lws' : ws'.length = h'.length := hw'.2.1
  have lnb : ρ.length + nb.length = h'.length := by rw [← hw'.2.1, ← List.length_map (f := fun q : Nat × va_E => q.1), hw'.1, List.length_append, lasc]
  have hρ : ∀ i ∈ ρ, i < h.length := by
    intro i hi
    obtain ⟨k, hk⟩ := List.getElem?_of_mem hi
    obtain ⟨a, -, h2⟩ := pg_map ha (by rw [pg_eq]; exact hk)
    have := pg_lt h2
    omega
  have eρ : rext ρ h.length h' = ρ ++ List.range' h.length nb.length := by rw [rext, show h'.length - ρ.length = nb.length by omega]
  have hout : ∀ j i, pg (rext ρ h.length h') j = some i → pg (asc ++ nb) j = pg (as0 ++ (bs ++ nb)) i := by
    intro j i hj
    rw [eρ, pg_eq] at hj
    rw [← List.append_assoc]
    by_cases hjl : j < ρ.length
    · rw [List.getElem?_append_left hjl] at hj
      obtain ⟨a, h1, h2⟩ := pg_map ha (by rw [pg_eq]; exact hj)
      rw [pg_app h1, pg_app h2]
    · rw [List.getElem?_append_right (by omega)] at hj
      have hj2 := (List.getElem?_eq_some_iff.mp hj).1
      rw [List.length_range'] at hj2
      rw [List.getElem?_range' hj2] at hj
      have hi : i = h.length + (j - ρ.length) := by have := Option.some.inj hj; omega
      subst hi
      rw [pg_eq, pg_eq, List.getElem?_append_right (by omega), List.getElem?_append_right (by omega)]
      congr 1
      omega
  have hol : (asc ++ nb).length ≤ (rext ρ h.length h').length := by rw [eρ]; simp [lasc]
  have hwn : wR cI cO (pSa adK b) (as0 ++ (bs ++ nb)) (hput (rext ρ h.length h') ρ h' h) (lput ρ ws' ws) := by
    refine ⟨?_, ?_, fun i c0 hi => ?_⟩
    · rw [lput_map, hw'.1, hw.1, ← List.append_assoc]
      exact lput_self ρ asc nb (as0 ++ bs) (by rw [← ha]; exact List.map_congr_left (fun i _ => (pg_eq _ _).symm))
    · rw [hput_eq, lput_len _ _ _ (by omega), lput_len _ _ _ (by rw [List.length_map]; exact hlen), List.length_map]
      omega
    · rw [hput_eq, pg_eq] at hi
      rcases lput_cases hn hρ (by rw [List.length_map]; exact hlen) hi with ⟨j, hj1, hj2⟩ | ⟨hj1, hj2, hj3⟩
      · rw [List.length_map] at hj1
        rw [List.getElem?_map] at hj2
        cases hc0 : h'[j]? with
        | none => rw [hc0] at hj2; cases hj2
        | some d0 =>
          rw [hc0] at hj2
          cases hj2
          obtain ⟨a, e0, q1, q2, q3⟩ := hw'.2.2 j d0 (by rw [pg_eq]; exact hc0)
          refine ⟨a, e0, by rw [← hout j i (by rw [pg_eq]; exact hj1)]; exact q1, ?_, tc_out hout hol q3⟩
          by_cases hjl : j < ρ.length
          · rw [List.getElem?_append_left hjl] at hj1
            rw [lput_at ρ ws' ws j i hn hj1 (by rw [lws]; exact hρ i (List.mem_of_getElem? hj1)) (by omega)]
            exact q2
          · rw [List.getElem?_append_right (by omega)] at hj1
            have hj2 := (List.getElem?_eq_some_iff.mp hj1).1
            rw [List.length_range'] at hj2
            rw [List.getElem?_range' hj2] at hj1
            have hi2 : i = h.length + (j - ρ.length) := by have := Option.some.inj hj1; omega
            subst hi2
            rw [lput_new ρ ws' ws _ (by omega) (by omega), show ρ.length + (h.length + (j - ρ.length) - ws.length) = j by omega]
            exact q2
      · obtain ⟨a, e0, q1, q2, q3⟩ := hw.2.2 i c0 (by rw [pg_eq]; exact hj3)
        exact ⟨a, e0, by rw [← List.append_assoc]; exact pg_app q1, by rw [lput_other ρ ws' ws i hj1 (by omega)]; exact q2, by rw [← List.append_assoc]; exact tc_app q3⟩
  have apart : ∀ (i : Nat) (q : Nat × va_E), i ∉ ρ → ws[i]? = some q → q.1 < H.size ∧ ¬ va_A wc H.size q.1 := by
    intro i q hi hq0
    have hlt := (hP i q hq0).lt
    refine ⟨hlt, fun h9 => ?_⟩
    rcases h9 with ⟨k2, e0, h9⟩ | h9
    · obtain ⟨j, h3, h4⟩ := map_at hwc h9
      have hij := hD.1 i j q (q.1, e0) hq0 h4 rfl
      subst hij
      exact hi (List.mem_of_getElem? h3)
    · omega
  have hρw : ∀ i ∈ ρ, i < ws.length := fun i hi => by rw [lws]; exact hρ i hi
  have hPn : va_P D clsP (lput ρ ws' ws) T'.heap := by
    intro i q hi
    rcases lput_cases hn hρw (by omega) hi with ⟨j, -, hj2⟩ | ⟨hj1, hj2, hj3⟩
    · rw [e1]; exact hP' j q hj2
    · obtain ⟨g1, g2⟩ := apart i q hj1 hj3
      exact (hP i q hj3).kept (by rw [e1]; exact hk q.1 g1 g2)
  have hDn : va_D A (lput ρ ws' ws) := by
    refine ⟨fun i j x y hi hj hxy => ?_, fun i q hi => ?_⟩
    · rcases lput_cases hn hρw (by omega) hi with ⟨k1, a1, a2⟩ | ⟨a1, a2, a3⟩ <;> rcases lput_cases hn hρw (by omega) hj with ⟨k2, b1, b2⟩ | ⟨b1, b2, b3⟩
      · have hkk := hD'.1 k1 k2 x y a2 b2 hxy
        subst hkk
        rw [a1] at b1
        exact Option.some.inj b1
      · exact absurd (by rw [← hxy]; exact hD'.2 k1 x a2) (apart j y b1 b3).2
      · exact absurd (by rw [hxy]; exact hD'.2 k2 y b2) (apart i x a1 a3).2
      · exact hD.1 i j x y a3 b3 hxy
    · rcases lput_cases hn hρw (by omega) hi with ⟨k1, a1, a2⟩ | ⟨a1, a2, a3⟩
      · exact hfree _ (hD'.2 k1 q a2)
      · exact hD.2 i q a3
  have hSn : va_S A s.heap T'.heap (locs ++ L) := ⟨Nat.le_trans hS.1 (by rw [e1]; exact hz), fun q h1 h2 => by rw [e1, hk q (Nat.lt_of_lt_of_le h1 hS.1) (fun z => h2 (hfree q z))]; exact hS.2.1 q h1 h2, fun q hq => by
      rcases List.mem_append.mp hq with h | h
      · exact hS.2.2 q h
      · exact hfree _ (hL q h)⟩
  have hstn : (rpush (rext ρ h.length h') v strest).map (tv (pSa adK b) (as0 ++ (bs ++ nb))) = (v.toList ++ crest).map some := by
    rw [← List.append_assoc]
    rcases hrk with rfl | ⟨x, rfl⟩ | ⟨x, rfl⟩
    · exact tv_apps hrest
    · exact sC rfl (tv_apps hrest)
    · exact sC rfl (tv_apps hrest)
  have K := hsnd p e R s m args below meth c T'.heap (locs ++ L) (cells + k) (slots + z) mc ms Z A as0 (bs ++ nb) (lput ρ ws' ws) cls _ hC hX hwn hPn hDn hSn (by rw [← List.append_assoc]; exact hl.app) hstn ⟨hB.1, hB.2.1, by show cells + k + (B.2.1 - k) ≤ mc; omega, by show slots + z + (B.2.2 - z) ≤ ms; omega, hB.2.2.2.2⟩ hF
  obtain ⟨t2, a1, b1⟩ := K T' rfl X'
  exact ⟨t2, stp t2 a1, b1⟩
theorem pSa99 {adK : Nat → Nat} {b : Nat} : pSa adK b 99999 = none := rfl
/-- a call, once the machine's own step is known -/
theorem pCall {mt : Nat → pM} {law : Nat} {l : Launch} {D : va_G} {cI cO : ClassId} {adK adV : Nat → Nat} {b : Nat} {sc : List Int32} {B : pB} {id pc : Nat} {ls : pL} {st : List Value} {h : pH} {Q : pQ} {p : Program} {e : Env} {R : Room} {s : State} {m : MethodId} {args : Array Value} {below : List Frame} {meth : Method} {c : Code} {H : Heap} {locs : List Loc} {cells slots mc ms : Nat} {Z : State → Prop} {A : Nat → Prop} {as0 bs : List Nat} {ws : va_W} {cls : Array Slot} {cst : List Value} {cid na : Nat} {Mc : pM}
    (hC : pCtx l D cI cO adK adV (mt id) p s m args meth c A) (hX : id = law → va_X b sc.length (fun j => sc.getD j 0) s s.heap ∧ b < s.heap.size ∧ ¬ A b) (hw : wR cI cO (pSa adK b) (as0 ++ bs) h ws) (hP : va_P D clsP ws H) (hD : va_D A ws) (hS : va_S A s.heap H locs) (hl : lR (pSa adK b) (as0 ++ bs) ls (mt id).2.2.1 cls) (hst : st.map (tv (pSa adK b) (as0 ++ bs)) = cst.map some) (hB : B.1 ≤ R.frames ∧ 60 * B.1 ≤ R.locals ∧ cells + B.2.1 ≤ mc ∧ slots + B.2.2 ≤ ms ∧ mc ≤ R.cells ∧ ms ≤ R.slots) (hF : pFin l D cI cO adK b (mt id) p e R s m args below meth c A as0 mc ms Q Z)
    (hMc : mt cid = Mc) (hlaw : cid ≠ law) (hy : plainName Mc.1.cls = true) (hop : oCall cid na Mc.2.2.1 (pc + 3) (pSnd mt law l D cI cO adK adV b sc) B id ls st h Q)
    (run : ∀ (k z : Nat) (wc : va_W) (avc crest : List Value) (Qx : Array Value → State → Outcome → State → Prop), Met l Mc.1 (.code Mc.1 Mc.2.1 Mc.2.2.1 Mc.2.2.2 :: lw_good) (pRm (B.1 - 1) k z) (va_Pc avc (pPre D cI cO adK adV wc H.size)) Qx k z (va_A wc H.size) → (∀ U : State, U.heap = H → s.WarmedH U.vm → va_Pc avc (pPre D cI cO adK adV wc H.size) avc.toArray U) → cst = avc.reverse ++ crest → avc.length = na → (st.take na).reverse.map (tv (pSa adK b) (as0 ++ bs)) = avc.map some → (crest.map fun v => v.category).sum ≤ 8 → 1 ≤ B.1 → cells + k ≤ R.cells ∧ slots + z ≤ R.slots → va_Run p l e R s m args below meth c H locs cells slots k z (F0 m pc cls cst) crest (Qx avc.toArray) (va_A wc H.size)) :
    W p l e R s m args below meth c H locs cells slots Z (F0 m pc cls cst) := by
  obtain ⟨ρ, av, hc, k, z, Qc, ⟨⟨g1, g2, g3⟩, g4, g5, g6, ⟨g7, g8⟩, g9, g10, g11⟩, hcal, kk⟩ := hop
  have hA := hC.2.2.2.2.2.2.2.2.2.2
  have hlen : cst.length = st.length := by have := congrArg List.length hst; simpa using this.symm
  have hρh : ∀ i ∈ ρ, ∃ c0, pg h i = some c0 := by
    intro i hi
    obtain ⟨j, hj⟩ := List.getElem?_of_mem hi
    have h1 : (ρ.map (pg h))[j]? = some (pg h i) := by rw [List.getElem?_map, hj]; rfl
    rw [g5, List.getElem?_map] at h1
    cases hcj : hc[j]? with
    | none => rw [hcj] at h1; cases h1
    | some c0 => rw [hcj] at h1; exact ⟨_, (Option.some.inj h1).symm⟩
  obtain ⟨asc, ha⟩ := map_exists (f := pg (as0 ++ bs)) ρ (fun i hi => by
    obtain ⟨c0, h1⟩ := hρh i hi
    obtain ⟨a, e0, q1, -, -⟩ := hw.2.2 i c0 h1
    exact ⟨a, q1⟩)
  obtain ⟨wc, hwc⟩ := map_exists (f := fun i : Nat => ws[i]?) ρ (fun i hi => by
    obtain ⟨c0, h1⟩ := hρh i hi
    obtain ⟨a, e0, -, q2, -⟩ := hw.2.2 i c0 h1
    exact ⟨_, q2⟩)
  have lasc : asc.length = ρ.length := by have := congrArg List.length ha; simpa using this.symm
  have lwc : wc.length = ρ.length := by have := congrArg List.length hwc; simpa using this.symm
  have lhc : hc.length = ρ.length := by have := congrArg List.length g5; simpa using this.symm
  have hwR : wR cI cO (pSa adK b) asc hc wc := by
    have key : ∀ (j i : Nat), ρ[j]? = some i → ∀ c0, hc[j]? = some c0 → ∃ a e0, pg asc j = some a ∧ wc[j]? = some (a, e0) ∧ tc cI cO (pSa adK b) asc c0 e0 := by
      intro j i hj c0 hc0
      have h1 : (ρ.map (pg h))[j]? = some (pg h i) := by rw [List.getElem?_map, hj]; rfl
      rw [g5, List.getElem?_map, hc0] at h1
      obtain ⟨a, e0, q1, q2, q3⟩ := hw.2.2 i _ (Option.some.inj h1).symm
      obtain ⟨a', g1, g2⟩ := pg_map ha (by rw [pg_eq]; exact hj)
      rw [q1] at g2
      cases g2
      obtain ⟨w', g3, g4⟩ := pg_map hwc (by rw [pg_eq]; exact hj)
      rw [q2] at g4
      cases g4
      exact ⟨a, e0, g1, by rw [← pg_eq]; exact g3, tc_in pSa99 ha q3⟩
    refine ⟨?_, by omega, fun j c0 hj => ?_⟩
    · apply List.ext_getElem?
      intro j
      rw [List.getElem?_map]
      by_cases hj : j < ρ.length
      · have hj1 : ρ[j]? = some ρ[j] := List.getElem?_eq_getElem hj
        have hj2 : hc[j]? = some (hc[j]'(by omega)) := List.getElem?_eq_getElem (by omega)
        obtain ⟨a, e0, q1, q2, -⟩ := key j _ hj1 _ hj2
        rw [q2, ← pg_eq, q1]; rfl
      · rw [List.getElem?_eq_none (by omega), List.getElem?_eq_none (by omega)]; rfl
    · have hjl := pg_lt hj
      exact key j _ (List.getElem?_eq_getElem (by omega)) c0 (by rw [← pg_eq]; exact hj)
  have hsplit : (st.take na).map (tv (pSa adK b) (as0 ++ bs)) = (cst.take na).map some ∧ (st.drop na).map (tv (pSa adK b) (as0 ++ bs)) = (cst.drop na).map some := by
    constructor
    · rw [List.map_take, List.map_take, hst]
    · rw [List.map_drop, List.map_drop, hst]
  have hargs : (st.take na).reverse.map (tv (pSa adK b) (as0 ++ bs)) = (cst.take na).reverse.map some := by
    rw [List.map_reverse, List.map_reverse, hsplit.1]
  have hav : av.map (tv (pSa adK b) asc) = (cst.take na).reverse.map some := tv_ins pSa99 ha (by rw [← g6]; exact hargs)
  have hMet := pMet (sz := H.size) hMc hlaw hy hcal hwR hav (pNoD_ok av g11) g10
  have hPc : va_P D clsP wc H := by
    intro j q hj
    obtain ⟨i, -, h2⟩ := map_at hwc hj
    exact hP i q h2
  have hDc := hD.sub ρ g4 hwc
  have hfree := va_free hD hS hA ρ hwc
  have hrun := run k z wc (cst.take na).reverse (cst.drop na) _ hMet (fun U hU hW => ⟨rfl, by rw [hU], by rw [hU]; exact hPc, va_K.moved hW.alike hC.2.2.2.2.2.1, hDc.weaken (fun _ _ _ _ => trivial), hC.2.2.2.2.2.2.2.2.2.1.go hS hU hW hfree⟩) (by rw [List.reverse_reverse, List.take_append_drop]) (by rw [List.length_reverse, List.length_take]; omega) hargs (by rw [tv_cats hsplit.2]; exact g9) g1 ⟨by omega, by omega⟩
  exact pAfter hrun hC hX hw hP hD hS hl hsplit.2 hB hF g4 ha hwc ⟨g2, g3⟩ kk
end
section
/-! The five kinds of calls. -/
theorem gi_code {Mc : pM} (hl5 : Cond.code Mc.1 Mc.2.1 Mc.2.2.1 Mc.2.2.2 ∈ lw_good) : GoodIn lw_good (Cond.code Mc.1 Mc.2.1 Mc.2.2.1 Mc.2.2.2 :: lw_good) := good_in (fun w hw => by rcases List.mem_cons.mp hw with rfl | hw; exact hl5; exact hw)
theorem snoc_of {α : Type} {l : List α} {n : Nat} (h : l.length = n + 1) : ∃ a r, l = a :: r ∧ r.length = n := by
  cases l with
  | nil => cases h
  | cons a r => exact ⟨a, r, rfl, by simpa using h⟩
theorem ok_callV {mt : Nat → pM} {law : Nat} {M : pM} {il : Bool} {sc : List Int32} {pc : Nat} {cid ci na i N : Nat} {C : String} {T : u_T} {Mc : pM} (hd : decode M.2.1 pc = .ok (.invokevirtual i, 3)) (hMc : mt cid = Mc) (hlaw : cid ≠ law) (hy : plainName Mc.1.cls = true) (hC0 : clsP[ci]? = some (C, T, N)) (hcl : Mc.1.cls = C) (hl1 : Cond.methodLink M.1.cls i Mc.1 ∈ lw_good) (hl2 : Cond.instanceMethod Mc.1 ∈ lw_good) (hl3 : Cond.selects C Mc.1 Mc.1 ∈ lw_good) (hl4 : Cond.initialized C ∈ lw_good) (hl5 : Cond.code Mc.1 Mc.2.1 Mc.2.2.1 Mc.2.2.2 ∈ lw_good) (hdd : Mc.1.cls ≠ "java/lang/invoke/MethodHandle" ∧ Mc.1.cls ≠ "java/lang/invoke/VarHandle" ∧ (parseMethodDescriptor Mc.1.desc).map (fun d => d.parameters.length) = some na) (hmx : Mc.2.2.1 ≤ 41) : pOk mt law M il sc pc (oCallV cid ci (na + 1) Mc.2.2.1 (pc + 3)) := by
  intro l D cI cO adK adV b B id ls st h Q hM hL hop p e R s m args below meth c H locs cells slots mc ms Z A as0 bs ws cls cst hC hX hw hP hD hS hl hst hB hF
  subst hM
  obtain ⟨hrecv, hop⟩ := hop
  refine pCall hC hX hw hP hD hS hl hst hB hF hMc hlaw hy hop (fun k z wc avc crest Qx hMet hpre hcst hlen hargs hcat h1B hf => ?_)
  obtain ⟨w0, As, rfl, hAs⟩ := snoc_of hlen
  have hts := hC.2.2.2.2.1
  cases hargl : (st.take (na + 1)).reverse with
  | nil => rw [hargl] at hrecv; exact hrecv.elim
  | cons v0 r0 =>
    rw [hargl] at hrecv hargs
    have hv0 : ∃ j, v0 = .ref j ∧ pOb h j ci fun _ => True := by
      cases v0 with
      | ref j => exact ⟨j, rfl, hrecv⟩
      | _ => exact hrecv.elim
    obtain ⟨j, rfl, hob⟩ := hv0
    obtain ⟨fs, hfs, -⟩ := pOb_inv hob
    obtain ⟨a, c1, ha, hca, -⟩ := sR hargs
    cases hca
    obtain ⟨a', e', ha', hws, htc⟩ := hw.2.2 j _ hfs
    rw [ha] at ha'
    cases ha'
    obtain ⟨gs, rfl, hgs⟩ := tc_obj hC0 htc
    have hG : GoodIn lw_good (wsV (mt id).1.cls i C Mc.1 (Cond.code Mc.1 Mc.2.1 Mc.2.2.1 Mc.2.2.2 :: lw_good)) := by
      refine good_in (fun w hw => ?_)
      rcases List.mem_append.mp hw with h9 | h9
      · simp only [List.mem_cons, List.not_mem_nil, or_false] at h9
        rcases h9 with rfl | rfl | rfl | rfl
        · exact hl1
        · exact hl2
        · exact hl3
        · exact hl4
      · exact (gi_code hl5 w h9).1
    exact va_runV (nL := (mt id).2.2.1) (bytes := Mc.2.1) (maxL := Mc.2.2.1) (ret := Mc.2.2.2) ⟨hC.1, hC.2.1, hC.2.2.1, hC.2.2.2.1, hts⟩ hMet (cwV na hts hG rfl rfl rfl ⟨hcl, hdd⟩ ⟨by show B.1 - 1 + 1 ≤ R.frames; omega, by show 8 + (Mc.2.2.1 + 11) + 60 * (B.1 - 1) ≤ R.locals; omega⟩) ⟨pBlind, va_recv hC.2.2.2.2.2.1 hP hC0 hws, hpre⟩ rfl hAs (by obtain ⟨-, lv, g, -⟩ := hl; exact g.1) (by rw [hcst]; simp) (lv_room hcat) hd hf
theorem ok_callS {mt : Nat → pM} {law : Nat} {M : pM} {il : Bool} {sc : List Int32} {pc : Nat} {cid na i : Nat} {Mc : pM} (hd : decode M.2.1 pc = .ok (.invokestatic i, 3)) (hMc : mt cid = Mc) (hlaw : cid ≠ law) (hy : plainName Mc.1.cls = true) (hl1 : Cond.methodLink M.1.cls i Mc.1 ∈ lw_good) (hl2 : Cond.static Mc.1 ∈ lw_good) (hl4 : Cond.initialized Mc.1.cls ∈ lw_good) (hl5 : Cond.code Mc.1 Mc.2.1 Mc.2.2.1 Mc.2.2.2 ∈ lw_good) (hdd : Mc.1.cls ≠ "java/lang/invoke/MethodHandle" ∧ Mc.1.cls ≠ "java/lang/invoke/VarHandle" ∧ (parseMethodDescriptor Mc.1.desc).map (fun d => d.parameters.length) = some na) (hmx : Mc.2.2.1 ≤ 41) : pOk mt law M il sc pc (oCall cid na Mc.2.2.1 (pc + 3)) := by
  intro l D cI cO adK adV b B id ls st h Q hM hL hop p e R s m args below meth c H locs cells slots mc ms Z A as0 bs ws cls cst hC hX hw hP hD hS hl hst hB hF
  subst hM
  refine pCall hC hX hw hP hD hS hl hst hB hF hMc hlaw hy hop (fun k z wc avc crest Qx hMet hpre hcst hlen hargs hcat h1B hf => ?_)
  have hts := hC.2.2.2.2.1
  exact va_runS (nL := (mt id).2.2.1) (bytes := Mc.2.1) (maxL := Mc.2.2.1) (ret := Mc.2.2.2) ⟨hC.1, hC.2.1, hC.2.2.1, hC.2.2.2.1, hts⟩ hMet ⟨callB_of na hts (gi_code hl5) rfl rfl rfl (hts _ hl4) (hts _ hl1) hdd ⟨by show B.1 - 1 + 1 ≤ R.frames; omega, by show 8 + (Mc.2.2.1 + 11) + 60 * (B.1 - 1) ≤ R.locals; omega⟩, hts _ hl2⟩ ⟨pBlind, hpre⟩ rfl hlen (by obtain ⟨-, lv, g, -⟩ := hl; exact g.1) hcst (lv_room hcat) hd hf
theorem ok_callSN {mt : Nat → pM} {law : Nat} {M : pM} {il : Bool} {sc : List Int32} {pc : Nat} {cid na i : Nat} {Mc : pM} (hd : decode M.2.1 pc = .ok (.invokestatic i, 3)) (hMc : mt cid = Mc) (hlaw : cid ≠ law) (hy : plainName Mc.1.cls = true) (hl1 : (M.1.cls, i, Mc.1) ∈ lw_nest) (hl2 : Cond.static Mc.1 ∈ lw_good) (hl4 : Cond.initialized Mc.1.cls ∈ lw_good) (hl5 : Cond.code Mc.1 Mc.2.1 Mc.2.2.1 Mc.2.2.2 ∈ lw_good) (hdd : Mc.1.cls ≠ "java/lang/invoke/MethodHandle" ∧ Mc.1.cls ≠ "java/lang/invoke/VarHandle" ∧ (parseMethodDescriptor Mc.1.desc).map (fun d => d.parameters.length) = some na) (hmx : Mc.2.2.1 ≤ 41) : pOk mt law M il sc pc (oCall cid na Mc.2.2.1 (pc + 3)) := by
  intro l D cI cO adK adV b B id ls st h Q hM hL hop p e R s m args below meth c H locs cells slots mc ms Z A as0 bs ws cls cst hC hX hw hP hD hS hl hst hB hF
  subst hM
  refine pCall hC hX hw hP hD hS hl hst hB hF hMc hlaw hy hop (fun k z wc avc crest Qx hMet hpre hcst hlen hargs hcat h1B hf => ?_)
  have hts := hC.2.2.2.2.1
  have hnest := hC.2.2.2.2.2.2.2.2.2.1.1.1 _ hl1
  exact va_runSN (nL := (mt id).2.2.1) (bytes := Mc.2.1) (maxL := Mc.2.2.1) (ret := Mc.2.2.2) ⟨hC.1, hC.2.1, hC.2.2.1, hC.2.2.2.1, hts⟩ hMet ⟨va_cnB na hts (gi_code hl5) rfl rfl rfl hnest (hts _ hl4) hdd ⟨by show B.1 - 1 + 1 ≤ R.frames; omega, by show 8 + (Mc.2.2.1 + 11) + 60 * (B.1 - 1) ≤ R.locals; omega⟩, hts _ hl2, trivial⟩ ⟨pBlind, hpre⟩ rfl hlen (by obtain ⟨-, lv, g, -⟩ := hl; exact g.1) hcst (lv_room hcat) hd hf
theorem ok_callI {mt : Nat → pM} {law : Nat} {M : pM} {il : Bool} {sc : List Int32} {pc : Nat} {cid na i : Nat} {Mc : pM} (hd : decode M.2.1 pc = .ok (.invokespecial i, 3)) (hMc : mt cid = Mc) (hlaw : cid ≠ law) (hy : plainName Mc.1.cls = true) (hin : Mc.1.name = "<init>") (hret : Mc.2.2.2 = none) (hl1 : Cond.methodLink M.1.cls i Mc.1 ∈ lw_good) (hl2 : Cond.instanceMethod Mc.1 ∈ lw_good) (hl4 : Cond.initialized Mc.1.cls ∈ lw_good) (hl5 : Cond.code Mc.1 Mc.2.1 Mc.2.2.1 Mc.2.2.2 ∈ lw_good) (hdd : Mc.1.cls ≠ "java/lang/invoke/MethodHandle" ∧ Mc.1.cls ≠ "java/lang/invoke/VarHandle" ∧ (parseMethodDescriptor Mc.1.desc).map (fun d => d.parameters.length) = some na) (hmx : Mc.2.2.1 ≤ 41) : pOk mt law M il sc pc (oCallI cid (na + 1) Mc.2.2.1 (pc + 3)) := by
  intro l D cI cO adK adV b B id ls st h Q hM hL hop p e R s m args below meth c H locs cells slots mc ms Z A as0 bs ws cls cst hC hX hw hP hD hS hl hst hB hF
  subst hM
  obtain ⟨hrecv, hop⟩ := hop
  obtain ⟨y, bytesc, maxLc, retc⟩ := Mc
  dsimp only at hret
  subst hret
  refine pCall hC hX hw hP hD hS hl hst hB hF hMc hlaw hy hop (fun k z wc avc crest Qx hMet hpre hcst hlen hargs hcat h1B hf => ?_)
  obtain ⟨w0, As, rfl, hAs⟩ := snoc_of hlen
  have hts := hC.2.2.2.2.1
  cases hargl : (st.take (na + 1)).reverse with
  | nil => rw [hargl] at hrecv; exact hrecv.elim
  | cons v0 r0 =>
    rw [hargl] at hrecv hargs
    have hv0 : ∃ j, v0 = .ref j := by
      cases v0 with
      | ref j => exact ⟨j, rfl⟩
      | _ => exact hrecv.elim
    obtain ⟨j, rfl⟩ := hv0
    obtain ⟨a, c1, ha, hca, -⟩ := sR hargs
    cases hca
    exact va_runI (nL := (mt id).2.2.1) (bytes := bytesc) (maxL := maxLc) ⟨hC.1, hC.2.1, hC.2.2.1, hC.2.2.2.1, hts⟩ hMet (cwI na hts (gi_code hl5) rfl rfl rfl (hts _ hl4) (hts _ hl1) (hts _ hl2) hin hdd ⟨by show B.1 - 1 + 1 ≤ R.frames; omega, by show 8 + (maxLc + 11) + 60 * (B.1 - 1) ≤ R.locals; have h9 : maxLc ≤ 41 := hmx; omega⟩) ⟨pBlind, hpre⟩ rfl hAs (by obtain ⟨-, lv, g, -⟩ := hl; exact g.1) (by rw [hcst]; simp) (lv_room hcat) hd hf
theorem ok_callIN {mt : Nat → pM} {law : Nat} {M : pM} {il : Bool} {sc : List Int32} {pc : Nat} {cid na i : Nat} {Mc : pM} (hd : decode M.2.1 pc = .ok (.invokespecial i, 3)) (hMc : mt cid = Mc) (hlaw : cid ≠ law) (hy : plainName Mc.1.cls = true) (hin : Mc.1.name = "<init>") (hret : Mc.2.2.2 = none) (hl1 : (M.1.cls, i, Mc.1) ∈ lw_nest) (hl2 : Cond.instanceMethod Mc.1 ∈ lw_good) (hl4 : Cond.initialized Mc.1.cls ∈ lw_good) (hl5 : Cond.code Mc.1 Mc.2.1 Mc.2.2.1 Mc.2.2.2 ∈ lw_good) (hdd : Mc.1.cls ≠ "java/lang/invoke/MethodHandle" ∧ Mc.1.cls ≠ "java/lang/invoke/VarHandle" ∧ (parseMethodDescriptor Mc.1.desc).map (fun d => d.parameters.length) = some na) (hmx : Mc.2.2.1 ≤ 41) : pOk mt law M il sc pc (oCallI cid (na + 1) Mc.2.2.1 (pc + 3)) := by
  intro l D cI cO adK adV b B id ls st h Q hM hL hop p e R s m args below meth c H locs cells slots mc ms Z A as0 bs ws cls cst hC hX hw hP hD hS hl hst hB hF
  subst hM
  obtain ⟨hrecv, hop⟩ := hop
  obtain ⟨y, bytesc, maxLc, retc⟩ := Mc
  dsimp only at hret
  subst hret
  refine pCall hC hX hw hP hD hS hl hst hB hF hMc hlaw hy hop (fun k z wc avc crest Qx hMet hpre hcst hlen hargs hcat h1B hf => ?_)
  obtain ⟨w0, As, rfl, hAs⟩ := snoc_of hlen
  have hts := hC.2.2.2.2.1
  cases hargl : (st.take (na + 1)).reverse with
  | nil => rw [hargl] at hrecv; exact hrecv.elim
  | cons v0 r0 =>
    rw [hargl] at hrecv hargs
    have hv0 : ∃ j, v0 = .ref j := by
      cases v0 with
      | ref j => exact ⟨j, rfl⟩
      | _ => exact hrecv.elim
    obtain ⟨j, rfl⟩ := hv0
    obtain ⟨a, c1, ha, hca, -⟩ := sR hargs
    cases hca
    have hnest := hC.2.2.2.2.2.2.2.2.2.1.1.1 _ hl1
    exact va_runIN (nL := (mt id).2.2.1) (bytes := bytesc) (maxL := maxLc) ⟨hC.1, hC.2.1, hC.2.2.1, hC.2.2.2.1, hts⟩ hMet ⟨va_cnB na hts (gi_code hl5) rfl rfl rfl hnest (hts _ hl4) hdd ⟨by show B.1 - 1 + 1 ≤ R.frames; omega, by show 8 + (maxLc + 11) + 60 * (B.1 - 1) ≤ R.locals; have h9 : maxLc ≤ 41 := hmx; omega⟩, hin, hts _ hl2⟩ ⟨pBlind, hpre⟩ rfl hAs (by obtain ⟨-, lv, g, -⟩ := hl; exact g.1) (by rw [hcst]; simp) (lv_room hcat) hd hf
end
